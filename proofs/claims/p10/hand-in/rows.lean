section
-- ===== PART A: goes FIRST, ahead of the names: the tables' words, and 'selects' of the private methods out of them =====
/-- a private method of a class that the tables say can be made, by its rows of tables_1 -/
def lw_okq (q : MethodName × Nat) : Prop := (q.1.cls ≠ "java/lang/invoke/MethodHandle" ∧ q.1.cls ≠ "java/lang/invoke/VarHandle") ∧ Cond.instantiable q.1.cls q.2 ∈ tables_1 ∧ Cond.privateMethod q.1 ∈ tables_1 ∧ Cond.instanceMethod q.1 ∈ tables_1
theorem lw_p0 : lw_okq (⟨"MonitorDesk", "doStep", "(I)V"⟩, 17) := ⟨⟨by decide +kernel, by decide +kernel⟩, List.mem_of_getElem? (i := 5) (by decide +kernel), List.mem_of_getElem? (i := 82) (by decide +kernel), List.mem_of_getElem? (i := 83) (by decide +kernel)⟩
theorem lw_p1 : lw_okq (⟨"MonitorDesk", "perform", "(I)I"⟩, 17) := ⟨⟨by decide +kernel, by decide +kernel⟩, List.mem_of_getElem? (i := 5) (by decide +kernel), List.mem_of_getElem? (i := 86) (by decide +kernel), List.mem_of_getElem? (i := 87) (by decide +kernel)⟩
theorem lw_p2 : lw_okq (⟨"MonitorDesk", "endBlock", "(I)I"⟩, 17) := ⟨⟨by decide +kernel, by decide +kernel⟩, List.mem_of_getElem? (i := 5) (by decide +kernel), List.mem_of_getElem? (i := 93) (by decide +kernel), List.mem_of_getElem? (i := 94) (by decide +kernel)⟩
theorem lw_p3 : lw_okq (⟨"MonitorDesk", "isEnter", "(I)Z"⟩, 17) := ⟨⟨by decide +kernel, by decide +kernel⟩, List.mem_of_getElem? (i := 5) (by decide +kernel), List.mem_of_getElem? (i := 97) (by decide +kernel), List.mem_of_getElem? (i := 98) (by decide +kernel)⟩
theorem lw_p4 : lw_okq (⟨"MonitorDesk", "giveBack", "(I)I"⟩, 17) := ⟨⟨by decide +kernel, by decide +kernel⟩, List.mem_of_getElem? (i := 5) (by decide +kernel), List.mem_of_getElem? (i := 101) (by decide +kernel), List.mem_of_getElem? (i := 102) (by decide +kernel)⟩
theorem lw_p5 : lw_okq (⟨"MonitorDesk", "leastHandle", "(I)I"⟩, 17) := ⟨⟨by decide +kernel, by decide +kernel⟩, List.mem_of_getElem? (i := 5) (by decide +kernel), List.mem_of_getElem? (i := 105) (by decide +kernel), List.mem_of_getElem? (i := 106) (by decide +kernel)⟩
theorem lw_p6 : lw_okq (⟨"MonitorDesk", "enter", "(I)I"⟩, 17) := ⟨⟨by decide +kernel, by decide +kernel⟩, List.mem_of_getElem? (i := 5) (by decide +kernel), List.mem_of_getElem? (i := 109) (by decide +kernel), List.mem_of_getElem? (i := 110) (by decide +kernel)⟩
theorem lw_p7 : lw_okq (⟨"MonitorDesk", "raise", "(I)I"⟩, 17) := ⟨⟨by decide +kernel, by decide +kernel⟩, List.mem_of_getElem? (i := 5) (by decide +kernel), List.mem_of_getElem? (i := 113) (by decide +kernel), List.mem_of_getElem? (i := 114) (by decide +kernel)⟩
theorem lw_p8 : lw_okq (⟨"MonitorDesk", "notifyWaiting", "(I)I"⟩, 17) := ⟨⟨by decide +kernel, by decide +kernel⟩, List.mem_of_getElem? (i := 5) (by decide +kernel), List.mem_of_getElem? (i := 117) (by decide +kernel), List.mem_of_getElem? (i := 118) (by decide +kernel)⟩
theorem lw_p9 : lw_okq (⟨"MonitorDesk", "holdsLock", "(I)I"⟩, 17) := ⟨⟨by decide +kernel, by decide +kernel⟩, List.mem_of_getElem? (i := 5) (by decide +kernel), List.mem_of_getElem? (i := 121) (by decide +kernel), List.mem_of_getElem? (i := 122) (by decide +kernel)⟩
theorem lw_p10 : lw_okq (⟨"MonitorDesk", "awaitNotice", "(I)I"⟩, 17) := ⟨⟨by decide +kernel, by decide +kernel⟩, List.mem_of_getElem? (i := 5) (by decide +kernel), List.mem_of_getElem? (i := 128) (by decide +kernel), List.mem_of_getElem? (i := 129) (by decide +kernel)⟩
theorem lw_p11 : lw_okq (⟨"MonitorDesk", "takeFlag", "()Z"⟩, 17) := ⟨⟨by decide +kernel, by decide +kernel⟩, List.mem_of_getElem? (i := 5) (by decide +kernel), List.mem_of_getElem? (i := 136) (by decide +kernel), List.mem_of_getElem? (i := 137) (by decide +kernel)⟩
theorem lw_p12 : lw_okq (⟨"MonitorDesk", "sleep", "(I)I"⟩, 17) := ⟨⟨by decide +kernel, by decide +kernel⟩, List.mem_of_getElem? (i := 5) (by decide +kernel), List.mem_of_getElem? (i := 140) (by decide +kernel), List.mem_of_getElem? (i := 141) (by decide +kernel)⟩
theorem lw_p13 : lw_okq (⟨"MonitorDesk", "start", "(I)I"⟩, 17) := ⟨⟨by decide +kernel, by decide +kernel⟩, List.mem_of_getElem? (i := 5) (by decide +kernel), List.mem_of_getElem? (i := 144) (by decide +kernel), List.mem_of_getElem? (i := 145) (by decide +kernel)⟩
theorem lw_p14 : lw_okq (⟨"MonitorDesk", "leaveBlocks", "(I)V"⟩, 17) := ⟨⟨by decide +kernel, by decide +kernel⟩, List.mem_of_getElem? (i := 5) (by decide +kernel), List.mem_of_getElem? (i := 148) (by decide +kernel), List.mem_of_getElem? (i := 149) (by decide +kernel)⟩
theorem lw_p15 : lw_okq (⟨"MonitorDesk", "countEnded", "()I"⟩, 17) := ⟨⟨by decide +kernel, by decide +kernel⟩, List.mem_of_getElem? (i := 5) (by decide +kernel), List.mem_of_getElem? (i := 159) (by decide +kernel), List.mem_of_getElem? (i := 160) (by decide +kernel)⟩
def lw_privs_1 : List (MethodName × Nat) := [(⟨"MonitorDesk", "doStep", "(I)V"⟩, 17), (⟨"MonitorDesk", "perform", "(I)I"⟩, 17), (⟨"MonitorDesk", "endBlock", "(I)I"⟩, 17), (⟨"MonitorDesk", "isEnter", "(I)Z"⟩, 17), (⟨"MonitorDesk", "giveBack", "(I)I"⟩, 17), (⟨"MonitorDesk", "leastHandle", "(I)I"⟩, 17), (⟨"MonitorDesk", "enter", "(I)I"⟩, 17), (⟨"MonitorDesk", "raise", "(I)I"⟩, 17), (⟨"MonitorDesk", "notifyWaiting", "(I)I"⟩, 17), (⟨"MonitorDesk", "holdsLock", "(I)I"⟩, 17), (⟨"MonitorDesk", "awaitNotice", "(I)I"⟩, 17), (⟨"MonitorDesk", "takeFlag", "()Z"⟩, 17), (⟨"MonitorDesk", "sleep", "(I)I"⟩, 17), (⟨"MonitorDesk", "start", "(I)I"⟩, 17), (⟨"MonitorDesk", "leaveBlocks", "(I)V"⟩, 17), (⟨"MonitorDesk", "countEnded", "()I"⟩, 17)]
theorem lw_r1 : ∀ q ∈ lw_privs_1, lw_okq q := List.forall_mem_cons.mpr ⟨lw_p0, List.forall_mem_cons.mpr ⟨lw_p1, List.forall_mem_cons.mpr ⟨lw_p2, List.forall_mem_cons.mpr ⟨lw_p3, List.forall_mem_cons.mpr ⟨lw_p4, List.forall_mem_cons.mpr ⟨lw_p5, List.forall_mem_cons.mpr ⟨lw_p6, List.forall_mem_cons.mpr ⟨lw_p7, List.forall_mem_cons.mpr ⟨lw_p8, List.forall_mem_cons.mpr ⟨lw_p9, List.forall_mem_cons.mpr ⟨lw_p10, List.forall_mem_cons.mpr ⟨lw_p11, List.forall_mem_cons.mpr ⟨lw_p12, List.forall_mem_cons.mpr ⟨lw_p13, List.forall_mem_cons.mpr ⟨lw_p14, List.forall_mem_cons.mpr ⟨lw_p15, fun _ h => absurd h List.not_mem_nil⟩⟩⟩⟩⟩⟩⟩⟩⟩⟩⟩⟩⟩⟩⟩⟩
theorem lw_p16 : lw_okq (⟨"MonitorDesk", "handleState", "(I)I"⟩, 17) := ⟨⟨by decide +kernel, by decide +kernel⟩, List.mem_of_getElem? (i := 5) (by decide +kernel), List.mem_of_getElem? (i := 163) (by decide +kernel), List.mem_of_getElem? (i := 164) (by decide +kernel)⟩
def lw_privs_2 : List (MethodName × Nat) := [(⟨"MonitorDesk", "handleState", "(I)I"⟩, 17)]
theorem lw_r2 : ∀ q ∈ lw_privs_2, lw_okq q := List.forall_mem_cons.mpr ⟨lw_p16, fun _ h => absurd h List.not_mem_nil⟩
def lw_privs : List (MethodName × Nat) := lw_privs_1 ++ (lw_privs_2)
def lw_tbl : List Cond := k2_sels lw_privs ++ tables_1
theorem lw_privs_ok : ∀ q ∈ lw_privs, lw_okq q := by
  show ∀ q ∈ lw_privs_1 ++ (lw_privs_2), lw_okq q
  exact List.forall_mem_append.mpr ⟨lw_r1, lw_r2⟩
/-! ===== BEGIN words of one list among another's, by their places ===== -/
theorem goodIn_r {big : List Cond} (ws : List Cond) (ps : List Nat) (hp : ws = ps.filterMap (fun i => big[i]?)) (h : ws.all goodWord = true) : GoodIn big ws := by
  intro w hw
  have h1 := List.all_eq_true.mp h w hw
  rw [hp] at hw
  obtain ⟨i, -, hi⟩ := List.mem_filterMap.mp hw
  have hm : w ∈ big := by first | exact List.mem_of_getElem? hi | exact List.getElem?_mem hi
  exact ⟨hm, good_of_word h1⟩
theorem goodIn_app {big a b : List Cond} (ha : GoodIn big a) (hb : GoodIn big b) : GoodIn big (a ++ b) := fun w h => (List.mem_append.mp h).elim (ha w) (hb w)
theorem goodIn_ca {big a b : List Cond} {c : Cond} (ha : GoodIn big (c :: a)) (hb : GoodIn big b) : GoodIn big (c :: (a ++ b)) := fun w h => (List.mem_cons.mp h).elim (fun e => ha w (List.mem_cons.mpr (Or.inl e))) (fun h => (List.mem_append.mp h).elim (fun h => ha w (List.mem_cons.mpr (Or.inr h))) (hb w))
theorem goodIn_sub {big ws : List Cond} (hm : ∀ w ∈ ws, w ∈ big) (h : ws.all goodWord = true) : GoodIn big ws := fun w hw => ⟨hm w hw, good_of_word (List.all_eq_true.mp h w hw)⟩
/-! ===== END ===== -/

/-! ===== BEGIN printed: names, fields, word lists, decode rows ===== -/
def RX0 : String := "MonitorDesk"
def TX0 : u_T := fun k => match k with
  | 0 => ("MonitorDesk", "locks", "[I", true)
  | 1 => ("MonitorDesk", "locksMade", "I", false)
  | 2 => ("MonitorDesk", "ended", "[Z", true)
  | 3 => ("MonitorDesk", "total", "I", false)
  | 4 => ("MonitorDesk", "flag", "Z", false)
  | 5 => ("MonitorDesk", "operations", "[I", true)
  | 6 => ("MonitorDesk", "arguments", "[I", true)
  | 7 => ("MonitorDesk", "around", "[I", true)
  | 8 => ("MonitorDesk", "ends", "[I", true)
  | 9 => ("MonitorDesk", "stepCount", "I", false)
  | 10 => ("MonitorDesk", "openCount", "I", false)
  | 11 => ("MonitorDesk", "latestOpen", "I", false)
  | 12 => ("MonitorDesk", "results", "[I", true)
  | 13 => ("MonitorDesk", "latestFailure", "I", false)
  | 14 => ("MonitorDesk", "held", "[I", true)
  | 15 => ("MonitorDesk", "raised", "I", false)
  | _ => ("MonitorDesk", "resumeAt", "I", false)
def tyX0 : Nat → FieldType := fun k => match k with
  | 0 => .array .int
  | 1 => .int
  | 2 => .array .boolean
  | 3 => .int
  | 4 => .boolean
  | 5 => .array .int
  | 6 => .array .int
  | 7 => .array .int
  | 8 => .array .int
  | 9 => .int
  | 10 => .int
  | 11 => .int
  | 12 => .array .int
  | 13 => .int
  | 14 => .array .int
  | 15 => .int
  | _ => .int
abbrev wsX00 : List Cond := u_ws RX0 TX0 17
theorem nmX0 : ∀ a, a < 17 → ∀ b, b < 17 → a ≠ b → (TX0 a).2.1 ≠ (TX0 b).2.1 := by decide +kernel
theorem tyX0_ok : ∀ k, k < 17 → parseFieldDescriptor (TX0 k).2.2.1 = some (tyX0 k) := by decide +kernel
abbrev cX0_init : ByteArray := prog_1_method_1_code
def yX0_init : MethodName := ⟨RX0, "<init>", "()V"⟩
abbrev cX0_hold : ByteArray := prog_1_method_2_code
def yX0_hold : MethodName := ⟨RX0, "hold", "(II)I"⟩
abbrev cX0_step : ByteArray := prog_1_method_3_code
def yX0_step : MethodName := ⟨RX0, "step", "(II)I"⟩
abbrev cX0_clear : ByteArray := prog_1_method_4_code
def yX0_clear : MethodName := ⟨RX0, "clear", "()I"⟩
abbrev cX0_run : ByteArray := prog_1_method_5_code
def yX0_run : MethodName := ⟨RX0, "run", "()I"⟩
abbrev cX0_result : ByteArray := prog_1_method_6_code
def yX0_result : MethodName := ⟨RX0, "result", "(I)I"⟩
abbrev cX0_failure : ByteArray := prog_1_method_7_code
def yX0_failure : MethodName := ⟨RX0, "failure", "()I"⟩
abbrev cX0_state : ByteArray := prog_1_method_8_code
def yX0_state : MethodName := ⟨RX0, "state", "(I)I"⟩
abbrev cX0_handleState : ByteArray := prog_1_method_9_code
def yX0_handleState : MethodName := ⟨RX0, "handleState", "(I)I"⟩
abbrev cX0_countEnded : ByteArray := prog_1_method_10_code
def yX0_countEnded : MethodName := ⟨RX0, "countEnded", "()I"⟩
abbrev cX0_opensBlock : ByteArray := prog_1_method_11_code
def yX0_opensBlock : MethodName := ⟨RX0, "opensBlock", "(I)Z"⟩
abbrev cX0_asNumber : ByteArray := prog_1_method_12_code
def yX0_asNumber : MethodName := ⟨RX0, "asNumber", "(Z)I"⟩
abbrev cX0_leastHandle : ByteArray := prog_1_method_13_code
def yX0_leastHandle : MethodName := ⟨RX0, "leastHandle", "(I)I"⟩
abbrev cX0_doStep : ByteArray := prog_1_method_14_code
def yX0_doStep : MethodName := ⟨RX0, "doStep", "(I)V"⟩
abbrev cX0_perform : ByteArray := prog_1_method_15_code
def yX0_perform : MethodName := ⟨RX0, "perform", "(I)I"⟩
abbrev cX0_raise : ByteArray := prog_1_method_16_code
def yX0_raise : MethodName := ⟨RX0, "raise", "(I)I"⟩
abbrev cX0_leaveBlocks : ByteArray := prog_1_method_17_code
def yX0_leaveBlocks : MethodName := ⟨RX0, "leaveBlocks", "(I)V"⟩
abbrev cX0_endBlock : ByteArray := prog_1_method_18_code
def yX0_endBlock : MethodName := ⟨RX0, "endBlock", "(I)I"⟩
abbrev cX0_isEnter : ByteArray := prog_1_method_19_code
def yX0_isEnter : MethodName := ⟨RX0, "isEnter", "(I)Z"⟩
abbrev cX0_giveBack : ByteArray := prog_1_method_20_code
def yX0_giveBack : MethodName := ⟨RX0, "giveBack", "(I)I"⟩
abbrev cX0_enter : ByteArray := prog_1_method_21_code
def yX0_enter : MethodName := ⟨RX0, "enter", "(I)I"⟩
abbrev cX0_notifyWaiting : ByteArray := prog_1_method_22_code
def yX0_notifyWaiting : MethodName := ⟨RX0, "notifyWaiting", "(I)I"⟩
abbrev cX0_holdsLock : ByteArray := prog_1_method_23_code
def yX0_holdsLock : MethodName := ⟨RX0, "holdsLock", "(I)I"⟩
abbrev cX0_awaitNotice : ByteArray := prog_1_method_24_code
def yX0_awaitNotice : MethodName := ⟨RX0, "awaitNotice", "(I)I"⟩
abbrev cX0_sleep : ByteArray := prog_1_method_25_code
def yX0_sleep : MethodName := ⟨RX0, "sleep", "(I)I"⟩
abbrev cX0_takeFlag : ByteArray := prog_1_method_26_code
def yX0_takeFlag : MethodName := ⟨RX0, "takeFlag", "()Z"⟩
abbrev cX0_start : ByteArray := prog_1_method_27_code
def yX0_start : MethodName := ⟨RX0, "start", "(I)I"⟩
def RX1 : String := "MonitorDeskModel"
def TX1 : u_T := fun k => match k with
  | _ => ("", "", "", false)
def tyX1 : Nat → FieldType := fun k => match k with
  | _ => .int
abbrev wsX10 : List Cond := u_ws RX1 TX1 0
theorem nmX1 : ∀ a, a < 0 → ∀ b, b < 0 → a ≠ b → (TX1 a).2.1 ≠ (TX1 b).2.1 := by decide +kernel
theorem tyX1_ok : ∀ k, k < 0 → parseFieldDescriptor (TX1 k).2.2.1 = some (tyX1 k) := by decide +kernel
def RJ9 : String := "java/lang/Math"
def TJ9 : u_T := fun k => match k with
  | _ => ("", "", "", false)
def tyJ9 : Nat → FieldType := fun k => match k with
  | _ => .int
abbrev wsJ90 : List Cond := u_ws RJ9 TJ9 0
theorem nmJ9 : ∀ a, a < 0 → ∀ b, b < 0 → a ≠ b → (TJ9 a).2.1 ≠ (TJ9 b).2.1 := by decide +kernel
theorem tyJ9_ok : ∀ k, k < 0 → parseFieldDescriptor (TJ9 k).2.2.1 = some (tyJ9 k) := by decide +kernel
abbrev cJ9_floorMod_7cf53 : ByteArray := prog_4_method_50_code
def yJ9_floorMod_7cf53 : MethodName := ⟨RJ9, "floorMod", "(II)I"⟩
abbrev cJ9_abs_0f7a4 : ByteArray := prog_4_method_59_code
def yJ9_abs_0f7a4 : MethodName := ⟨RJ9, "abs", "(I)I"⟩
def RJ7 : String := "java/util/Arrays"
def TJ7 : u_T := fun k => match k with
  | _ => ("", "", "", false)
def tyJ7 : Nat → FieldType := fun k => match k with
  | _ => .int
abbrev wsJ70 : List Cond := u_ws RJ7 TJ7 0
theorem nmJ7 : ∀ a, a < 0 → ∀ b, b < 0 → a ≠ b → (TJ7 a).2.1 ≠ (TJ7 b).2.1 := by decide +kernel
theorem tyJ7_ok : ∀ k, k < 0 → parseFieldDescriptor (TJ7 k).2.2.1 = some (tyJ7 k) := by decide +kernel
abbrev cJ7_fill_53178 : ByteArray := prog_5_method_103_code
def yJ7_fill_53178 : MethodName := ⟨RJ7, "fill", "([II)V"⟩
def RL : String := "MonitorDeskLaw"
abbrev cL_type : ByteArray := method_2_code
def yL_type : MethodName := ⟨RL, "type", "(LMonitorDesk;[III)V"⟩
abbrev cL_free : ByteArray := method_3_code
def yL_free : MethodName := ⟨RL, "free", "(LMonitorDesk;I)Z"⟩
abbrev cL_law : ByteArray := code
def yL_law : MethodName := ⟨RL, "law", "([I)Z"⟩
def wsJ7_fill_53178 : List Cond := .code yJ7_fill_53178 cJ7_fill_53178 4 none :: ([])
def wsX0_init_r1 : List Cond := [Cond.methodLink RX0 1 objectInit, Cond.instanceMethod objectInit, Cond.code objectInit ⟨#[0xb1]⟩ 1 none, Cond.arrayClass .int, Cond.fieldLink RX0 9 "MonitorDesk" "locks" "[I", Cond.fieldLink RX0 13 "MonitorDesk" "locksMade" "I", Cond.arrayClass .boolean, Cond.fieldLink RX0 17 "MonitorDesk" "ended" "[Z", Cond.fieldLink RX0 21 "MonitorDesk" "total" "I", Cond.fieldLink RX0 24 "MonitorDesk" "flag" "Z", Cond.fieldLink RX0 28 "MonitorDesk" "operations" "[I", Cond.fieldLink RX0 31 "MonitorDesk" "arguments" "[I", Cond.fieldLink RX0 34 "MonitorDesk" "around" "[I", Cond.fieldLink RX0 37 "MonitorDesk" "ends" "[I", Cond.fieldLink RX0 40 "MonitorDesk" "stepCount" "I", Cond.fieldLink RX0 43 "MonitorDesk" "openCount" "I", Cond.fieldLink RX0 46 "MonitorDesk" "latestOpen" "I", Cond.fieldLink RX0 49 "MonitorDesk" "results" "[I", Cond.fieldLink RX0 52 "MonitorDesk" "latestFailure" "I", Cond.fieldLink RX0 55 "MonitorDesk" "held" "[I", Cond.fieldLink RX0 58 "MonitorDesk" "raised" "I", Cond.fieldLink RX0 61 "MonitorDesk" "resumeAt" "I", Cond.methodLink RX0 64 yJ7_fill_53178, Cond.static yJ7_fill_53178]
def wsX0_init_r2 : List Cond := [Cond.initialized RJ7, Cond.code yJ7_fill_53178 cJ7_fill_53178 4 none]
def wsX0_init : List Cond := .code yX0_init cX0_init 1 none :: ((wsX0_init_r1 ++ wsX0_init_r2) ++ wsX00)
def wsX0_hold : List Cond := .code yX0_hold cX0_hold 3 (some .int) :: ([.fieldLink RX0 13 "MonitorDesk" "locksMade" "I", .fieldLink RX0 9 "MonitorDesk" "locks" "[I"] ++ wsX00)
def wsX0_opensBlock : List Cond := .code yX0_opensBlock cX0_opensBlock 1 (some .boolean) :: ([])
def wsX0_step : List Cond := .code yX0_step cX0_step 3 (some .int) :: ([.fieldLink RX0 40 "MonitorDesk" "stepCount" "I", .fieldLink RX0 46 "MonitorDesk" "latestOpen" "I", .fieldLink RX0 43 "MonitorDesk" "openCount" "I", .fieldLink RX0 28 "MonitorDesk" "operations" "[I", .fieldLink RX0 31 "MonitorDesk" "arguments" "[I", .fieldLink RX0 34 "MonitorDesk" "around" "[I", .fieldLink RX0 37 "MonitorDesk" "ends" "[I", .methodLink RX0 70 yX0_opensBlock, .static yX0_opensBlock, .initialized RX0, .code yX0_opensBlock cX0_opensBlock 1 (some .boolean)] ++ wsX00)
def wsX0_clear : List Cond := .code yX0_clear cX0_clear 2 (some .int) :: ([.fieldLink RX0 40 "MonitorDesk" "stepCount" "I", .fieldLink RX0 43 "MonitorDesk" "openCount" "I", .fieldLink RX0 46 "MonitorDesk" "latestOpen" "I"] ++ wsX00)
def wsJ9_floorMod_7cf53 : List Cond := .code yJ9_floorMod_7cf53 cJ9_floorMod_7cf53 3 (some .int) :: ([])
def wsX0_isEnter : List Cond := .code yX0_isEnter cX0_isEnter 2 (some .boolean) :: ([.fieldLink RX0 28 "MonitorDesk" "operations" "[I"] ++ wsX00)
def wsX0_leastHandle : List Cond := .code yX0_leastHandle cX0_leastHandle 3 (some .int) :: ([.fieldLink RX0 9 "MonitorDesk" "locks" "[I"] ++ wsX00)
def wsX0_giveBack : List Cond := .code yX0_giveBack cX0_giveBack 3 (some .int) :: ([.fieldLink RX0 31 "MonitorDesk" "arguments" "[I", .fieldLink RX0 55 "MonitorDesk" "held" "[I", .methodLink RX0 99 yJ9_floorMod_7cf53, .static yJ9_floorMod_7cf53, .initialized RJ9, .code yJ9_floorMod_7cf53 cJ9_floorMod_7cf53 3 (some .int), .methodLink RX0 90 yX0_leastHandle, .instanceMethod yX0_leastHandle, .selects RX0 yX0_leastHandle yX0_leastHandle, .initialized RX0, .code yX0_leastHandle cX0_leastHandle 3 (some .int), .fieldLink RX0 9 "MonitorDesk" "locks" "[I"] ++ wsX00)
def wsX0_endBlock : List Cond := .code yX0_endBlock cX0_endBlock 2 (some .int) :: ([.methodLink RX0 133 yX0_isEnter, .instanceMethod yX0_isEnter, .selects RX0 yX0_isEnter yX0_isEnter, .initialized RX0, .code yX0_isEnter cX0_isEnter 2 (some .boolean), .fieldLink RX0 28 "MonitorDesk" "operations" "[I", .methodLink RX0 136 yX0_giveBack, .instanceMethod yX0_giveBack, .selects RX0 yX0_giveBack yX0_giveBack, .code yX0_giveBack cX0_giveBack 3 (some .int), .fieldLink RX0 31 "MonitorDesk" "arguments" "[I", .fieldLink RX0 55 "MonitorDesk" "held" "[I", .methodLink RX0 99 yJ9_floorMod_7cf53, .static yJ9_floorMod_7cf53, .initialized RJ9, .code yJ9_floorMod_7cf53 cJ9_floorMod_7cf53 3 (some .int), .methodLink RX0 90 yX0_leastHandle, .instanceMethod yX0_leastHandle, .selects RX0 yX0_leastHandle yX0_leastHandle, .code yX0_leastHandle cX0_leastHandle 3 (some .int), .fieldLink RX0 9 "MonitorDesk" "locks" "[I"] ++ wsX00)
def wsX0_raise : List Cond := .code yX0_raise cX0_raise 2 (some .int) :: ([.fieldLink RX0 58 "MonitorDesk" "raised" "I"] ++ wsX00)
def wsX0_enter : List Cond := .code yX0_enter cX0_enter 3 (some .int) :: ([.fieldLink RX0 9 "MonitorDesk" "locks" "[I", .fieldLink RX0 55 "MonitorDesk" "held" "[I", .methodLink RX0 127 yX0_raise, .instanceMethod yX0_raise, .selects RX0 yX0_raise yX0_raise, .initialized RX0, .code yX0_raise cX0_raise 2 (some .int), .fieldLink RX0 58 "MonitorDesk" "raised" "I", .methodLink RX0 90 yX0_leastHandle, .instanceMethod yX0_leastHandle, .selects RX0 yX0_leastHandle yX0_leastHandle, .code yX0_leastHandle cX0_leastHandle 3 (some .int)] ++ wsX00)
def wsX0_notifyWaiting : List Cond := .code yX0_notifyWaiting cX0_notifyWaiting 2 (some .int) :: ([.fieldLink RX0 9 "MonitorDesk" "locks" "[I", .fieldLink RX0 55 "MonitorDesk" "held" "[I", .methodLink RX0 127 yX0_raise, .instanceMethod yX0_raise, .selects RX0 yX0_raise yX0_raise, .initialized RX0, .code yX0_raise cX0_raise 2 (some .int), .fieldLink RX0 58 "MonitorDesk" "raised" "I", .methodLink RX0 90 yX0_leastHandle, .instanceMethod yX0_leastHandle, .selects RX0 yX0_leastHandle yX0_leastHandle, .code yX0_leastHandle cX0_leastHandle 3 (some .int)] ++ wsX00)
def wsX0_asNumber : List Cond := .code yX0_asNumber cX0_asNumber 1 (some .int) :: ([])
def wsX0_holdsLock : List Cond := .code yX0_holdsLock cX0_holdsLock 2 (some .int) :: ([.fieldLink RX0 9 "MonitorDesk" "locks" "[I", .fieldLink RX0 55 "MonitorDesk" "held" "[I", .methodLink RX0 127 yX0_raise, .instanceMethod yX0_raise, .selects RX0 yX0_raise yX0_raise, .initialized RX0, .code yX0_raise cX0_raise 2 (some .int), .fieldLink RX0 58 "MonitorDesk" "raised" "I", .methodLink RX0 90 yX0_leastHandle, .instanceMethod yX0_leastHandle, .selects RX0 yX0_leastHandle yX0_leastHandle, .code yX0_leastHandle cX0_leastHandle 3 (some .int), .methodLink RX0 78 yX0_asNumber, .static yX0_asNumber, .code yX0_asNumber cX0_asNumber 1 (some .int)] ++ wsX00)
def wsX0_takeFlag : List Cond := .code yX0_takeFlag cX0_takeFlag 2 (some .boolean) :: ([.fieldLink RX0 24 "MonitorDesk" "flag" "Z"] ++ wsX00)
def wsX0_awaitNotice : List Cond := .code yX0_awaitNotice cX0_awaitNotice 3 (some .int) :: ([.constant RX0 141 (-2147483648), .methodLink RX0 142 Lib.Math.abs.name, .static Lib.Math.abs.name, .initialized "java/lang/Math", .code Lib.Math.abs.name Lib.Math.abs.code 1 (some .int), .fieldLink RX0 9 "MonitorDesk" "locks" "[I", .fieldLink RX0 55 "MonitorDesk" "held" "[I", .methodLink RX0 127 yX0_raise, .instanceMethod yX0_raise, .selects RX0 yX0_raise yX0_raise, .initialized RX0, .code yX0_raise cX0_raise 2 (some .int), .fieldLink RX0 58 "MonitorDesk" "raised" "I", .methodLink RX0 90 yX0_leastHandle, .instanceMethod yX0_leastHandle, .selects RX0 yX0_leastHandle yX0_leastHandle, .code yX0_leastHandle cX0_leastHandle 3 (some .int), .methodLink RX0 120 yX0_takeFlag, .instanceMethod yX0_takeFlag, .selects RX0 yX0_takeFlag yX0_takeFlag, .code yX0_takeFlag cX0_takeFlag 2 (some .boolean), .fieldLink RX0 24 "MonitorDesk" "flag" "Z"] ++ wsX00)
def wsX0_sleep : List Cond := .code yX0_sleep cX0_sleep 2 (some .int) :: ([.methodLink RX0 127 yX0_raise, .instanceMethod yX0_raise, .selects RX0 yX0_raise yX0_raise, .initialized RX0, .code yX0_raise cX0_raise 2 (some .int), .fieldLink RX0 58 "MonitorDesk" "raised" "I", .methodLink RX0 120 yX0_takeFlag, .instanceMethod yX0_takeFlag, .selects RX0 yX0_takeFlag yX0_takeFlag, .code yX0_takeFlag cX0_takeFlag 2 (some .boolean), .fieldLink RX0 24 "MonitorDesk" "flag" "Z"] ++ wsX00)
def wsX0_start : List Cond := .code yX0_start cX0_start 2 (some .int) :: ([.fieldLink RX0 17 "MonitorDesk" "ended" "[Z", .fieldLink RX0 21 "MonitorDesk" "total" "I", .methodLink RX0 127 yX0_raise, .instanceMethod yX0_raise, .selects RX0 yX0_raise yX0_raise, .initialized RX0, .code yX0_raise cX0_raise 2 (some .int), .fieldLink RX0 58 "MonitorDesk" "raised" "I"] ++ wsX00)
def wsX0_perform_r1 : List Cond := [Cond.fieldLink RX0 31 "MonitorDesk" "arguments" "[I", Cond.fieldLink RX0 28 "MonitorDesk" "operations" "[I", Cond.fieldLink RX0 34 "MonitorDesk" "around" "[I", Cond.fieldLink RX0 24 "MonitorDesk" "flag" "Z", Cond.fieldLink RX0 17 "MonitorDesk" "ended" "[Z", Cond.fieldLink RX0 21 "MonitorDesk" "total" "I", Cond.methodLink RX0 99 yJ9_floorMod_7cf53, Cond.static yJ9_floorMod_7cf53, Cond.initialized RJ9, Cond.code yJ9_floorMod_7cf53 cJ9_floorMod_7cf53 3 (some .int), Cond.methodLink RX0 105 yX0_endBlock, Cond.instanceMethod yX0_endBlock, Cond.selects RX0 yX0_endBlock yX0_endBlock, Cond.initialized RX0, Cond.code yX0_endBlock cX0_endBlock 2 (some .int), Cond.methodLink RX0 133 yX0_isEnter, Cond.instanceMethod yX0_isEnter, Cond.selects RX0 yX0_isEnter yX0_isEnter, Cond.code yX0_isEnter cX0_isEnter 2 (some .boolean), Cond.methodLink RX0 136 yX0_giveBack, Cond.instanceMethod yX0_giveBack, Cond.selects RX0 yX0_giveBack yX0_giveBack, Cond.code yX0_giveBack cX0_giveBack 3 (some .int), Cond.fieldLink RX0 55 "MonitorDesk" "held" "[I"]
def wsX0_perform_r2 : List Cond := [Cond.methodLink RX0 90 yX0_leastHandle, Cond.instanceMethod yX0_leastHandle, Cond.selects RX0 yX0_leastHandle yX0_leastHandle, Cond.code yX0_leastHandle cX0_leastHandle 3 (some .int), Cond.fieldLink RX0 9 "MonitorDesk" "locks" "[I", Cond.methodLink RX0 108 yX0_enter, Cond.instanceMethod yX0_enter, Cond.selects RX0 yX0_enter yX0_enter, Cond.code yX0_enter cX0_enter 3 (some .int), Cond.methodLink RX0 127 yX0_raise, Cond.instanceMethod yX0_raise, Cond.selects RX0 yX0_raise yX0_raise, Cond.code yX0_raise cX0_raise 2 (some .int), Cond.fieldLink RX0 58 "MonitorDesk" "raised" "I", Cond.methodLink RX0 111 yX0_notifyWaiting, Cond.instanceMethod yX0_notifyWaiting, Cond.selects RX0 yX0_notifyWaiting yX0_notifyWaiting, Cond.code yX0_notifyWaiting cX0_notifyWaiting 2 (some .int), Cond.methodLink RX0 114 yX0_holdsLock, Cond.instanceMethod yX0_holdsLock, Cond.selects RX0 yX0_holdsLock yX0_holdsLock, Cond.code yX0_holdsLock cX0_holdsLock 2 (some .int), Cond.methodLink RX0 78 yX0_asNumber, Cond.static yX0_asNumber]
def wsX0_perform_r3 : List Cond := [Cond.code yX0_asNumber cX0_asNumber 1 (some .int), Cond.methodLink RX0 117 yX0_awaitNotice, Cond.instanceMethod yX0_awaitNotice, Cond.selects RX0 yX0_awaitNotice yX0_awaitNotice, Cond.code yX0_awaitNotice cX0_awaitNotice 3 (some .int), Cond.constant RX0 141 (-2147483648), Cond.methodLink RX0 142 Lib.Math.abs.name, Cond.static Lib.Math.abs.name, Cond.initialized "java/lang/Math", Cond.code Lib.Math.abs.name Lib.Math.abs.code 1 (some .int), Cond.methodLink RX0 120 yX0_takeFlag, Cond.instanceMethod yX0_takeFlag, Cond.selects RX0 yX0_takeFlag yX0_takeFlag, Cond.code yX0_takeFlag cX0_takeFlag 2 (some .boolean), Cond.methodLink RX0 124 yX0_sleep, Cond.instanceMethod yX0_sleep, Cond.selects RX0 yX0_sleep yX0_sleep, Cond.code yX0_sleep cX0_sleep 2 (some .int), Cond.methodLink RX0 130 yX0_start, Cond.instanceMethod yX0_start, Cond.selects RX0 yX0_start yX0_start, Cond.code yX0_start cX0_start 2 (some .int)]
def wsX0_perform : List Cond := .code yX0_perform cX0_perform 5 (some .int) :: ((wsX0_perform_r1 ++ (wsX0_perform_r2 ++ wsX0_perform_r3)) ++ wsX00)
def wsX0_leaveBlocks_r1 : List Cond := [Cond.fieldLink RX0 34 "MonitorDesk" "around" "[I", Cond.fieldLink RX0 58 "MonitorDesk" "raised" "I", Cond.fieldLink RX0 52 "MonitorDesk" "latestFailure" "I", Cond.fieldLink RX0 40 "MonitorDesk" "stepCount" "I", Cond.fieldLink RX0 61 "MonitorDesk" "resumeAt" "I", Cond.fieldLink RX0 49 "MonitorDesk" "results" "[I", Cond.fieldLink RX0 37 "MonitorDesk" "ends" "[I", Cond.methodLink RX0 133 yX0_isEnter, Cond.instanceMethod yX0_isEnter, Cond.selects RX0 yX0_isEnter yX0_isEnter, Cond.initialized RX0, Cond.code yX0_isEnter cX0_isEnter 2 (some .boolean), Cond.fieldLink RX0 28 "MonitorDesk" "operations" "[I", Cond.methodLink RX0 136 yX0_giveBack, Cond.instanceMethod yX0_giveBack, Cond.selects RX0 yX0_giveBack yX0_giveBack, Cond.code yX0_giveBack cX0_giveBack 3 (some .int), Cond.fieldLink RX0 31 "MonitorDesk" "arguments" "[I", Cond.fieldLink RX0 55 "MonitorDesk" "held" "[I", Cond.methodLink RX0 99 yJ9_floorMod_7cf53, Cond.static yJ9_floorMod_7cf53, Cond.initialized RJ9, Cond.code yJ9_floorMod_7cf53 cJ9_floorMod_7cf53 3 (some .int), Cond.methodLink RX0 90 yX0_leastHandle]
def wsX0_leaveBlocks_r2 : List Cond := [Cond.instanceMethod yX0_leastHandle, Cond.selects RX0 yX0_leastHandle yX0_leastHandle, Cond.code yX0_leastHandle cX0_leastHandle 3 (some .int), Cond.fieldLink RX0 9 "MonitorDesk" "locks" "[I"]
def wsX0_leaveBlocks : List Cond := .code yX0_leaveBlocks cX0_leaveBlocks 4 none :: ((wsX0_leaveBlocks_r1 ++ wsX0_leaveBlocks_r2) ++ wsX00)
def wsX0_doStep_r1 : List Cond := [Cond.fieldLink RX0 58 "MonitorDesk" "raised" "I", Cond.fieldLink RX0 49 "MonitorDesk" "results" "[I", Cond.methodLink RX0 93 yX0_perform, Cond.instanceMethod yX0_perform, Cond.selects RX0 yX0_perform yX0_perform, Cond.initialized RX0, Cond.code yX0_perform cX0_perform 5 (some .int), Cond.fieldLink RX0 31 "MonitorDesk" "arguments" "[I", Cond.fieldLink RX0 28 "MonitorDesk" "operations" "[I", Cond.fieldLink RX0 34 "MonitorDesk" "around" "[I", Cond.fieldLink RX0 24 "MonitorDesk" "flag" "Z", Cond.fieldLink RX0 17 "MonitorDesk" "ended" "[Z", Cond.fieldLink RX0 21 "MonitorDesk" "total" "I", Cond.methodLink RX0 99 yJ9_floorMod_7cf53, Cond.static yJ9_floorMod_7cf53, Cond.initialized RJ9, Cond.code yJ9_floorMod_7cf53 cJ9_floorMod_7cf53 3 (some .int), Cond.methodLink RX0 105 yX0_endBlock, Cond.instanceMethod yX0_endBlock, Cond.selects RX0 yX0_endBlock yX0_endBlock, Cond.code yX0_endBlock cX0_endBlock 2 (some .int), Cond.methodLink RX0 133 yX0_isEnter, Cond.instanceMethod yX0_isEnter, Cond.selects RX0 yX0_isEnter yX0_isEnter]
def wsX0_doStep_r2 : List Cond := [Cond.code yX0_isEnter cX0_isEnter 2 (some .boolean), Cond.methodLink RX0 136 yX0_giveBack, Cond.instanceMethod yX0_giveBack, Cond.selects RX0 yX0_giveBack yX0_giveBack, Cond.code yX0_giveBack cX0_giveBack 3 (some .int), Cond.fieldLink RX0 55 "MonitorDesk" "held" "[I", Cond.methodLink RX0 90 yX0_leastHandle, Cond.instanceMethod yX0_leastHandle, Cond.selects RX0 yX0_leastHandle yX0_leastHandle, Cond.code yX0_leastHandle cX0_leastHandle 3 (some .int), Cond.fieldLink RX0 9 "MonitorDesk" "locks" "[I", Cond.methodLink RX0 108 yX0_enter, Cond.instanceMethod yX0_enter, Cond.selects RX0 yX0_enter yX0_enter, Cond.code yX0_enter cX0_enter 3 (some .int), Cond.methodLink RX0 127 yX0_raise, Cond.instanceMethod yX0_raise, Cond.selects RX0 yX0_raise yX0_raise, Cond.code yX0_raise cX0_raise 2 (some .int), Cond.methodLink RX0 111 yX0_notifyWaiting, Cond.instanceMethod yX0_notifyWaiting, Cond.selects RX0 yX0_notifyWaiting yX0_notifyWaiting, Cond.code yX0_notifyWaiting cX0_notifyWaiting 2 (some .int), Cond.methodLink RX0 114 yX0_holdsLock]
def wsX0_doStep_r3 : List Cond := [Cond.instanceMethod yX0_holdsLock, Cond.selects RX0 yX0_holdsLock yX0_holdsLock, Cond.code yX0_holdsLock cX0_holdsLock 2 (some .int), Cond.methodLink RX0 78 yX0_asNumber, Cond.static yX0_asNumber, Cond.code yX0_asNumber cX0_asNumber 1 (some .int), Cond.methodLink RX0 117 yX0_awaitNotice, Cond.instanceMethod yX0_awaitNotice, Cond.selects RX0 yX0_awaitNotice yX0_awaitNotice, Cond.code yX0_awaitNotice cX0_awaitNotice 3 (some .int), Cond.constant RX0 141 (-2147483648), Cond.methodLink RX0 142 Lib.Math.abs.name, Cond.static Lib.Math.abs.name, Cond.initialized "java/lang/Math", Cond.code Lib.Math.abs.name Lib.Math.abs.code 1 (some .int), Cond.methodLink RX0 120 yX0_takeFlag, Cond.instanceMethod yX0_takeFlag, Cond.selects RX0 yX0_takeFlag yX0_takeFlag, Cond.code yX0_takeFlag cX0_takeFlag 2 (some .boolean), Cond.methodLink RX0 124 yX0_sleep, Cond.instanceMethod yX0_sleep, Cond.selects RX0 yX0_sleep yX0_sleep, Cond.code yX0_sleep cX0_sleep 2 (some .int), Cond.methodLink RX0 130 yX0_start]
def wsX0_doStep_r4 : List Cond := [Cond.instanceMethod yX0_start, Cond.selects RX0 yX0_start yX0_start, Cond.code yX0_start cX0_start 2 (some .int), Cond.methodLink RX0 96 yX0_leaveBlocks, Cond.instanceMethod yX0_leaveBlocks, Cond.selects RX0 yX0_leaveBlocks yX0_leaveBlocks, Cond.code yX0_leaveBlocks cX0_leaveBlocks 4 none, Cond.fieldLink RX0 52 "MonitorDesk" "latestFailure" "I", Cond.fieldLink RX0 40 "MonitorDesk" "stepCount" "I", Cond.fieldLink RX0 61 "MonitorDesk" "resumeAt" "I", Cond.fieldLink RX0 37 "MonitorDesk" "ends" "[I"]
def wsX0_doStep : List Cond := .code yX0_doStep cX0_doStep 3 none :: ((wsX0_doStep_r1 ++ (wsX0_doStep_r2 ++ (wsX0_doStep_r3 ++ wsX0_doStep_r4))) ++ wsX00)
def wsX0_run_r1 : List Cond := [Cond.fieldLink RX0 43 "MonitorDesk" "openCount" "I", Cond.fieldLink RX0 49 "MonitorDesk" "results" "[I", Cond.fieldLink RX0 55 "MonitorDesk" "held" "[I", Cond.fieldLink RX0 52 "MonitorDesk" "latestFailure" "I", Cond.fieldLink RX0 61 "MonitorDesk" "resumeAt" "I", Cond.fieldLink RX0 40 "MonitorDesk" "stepCount" "I", Cond.methodLink RX0 64 yJ7_fill_53178, Cond.static yJ7_fill_53178, Cond.initialized RJ7, Cond.code yJ7_fill_53178 cJ7_fill_53178 4 none, Cond.methodLink RX0 74 yX0_doStep, Cond.instanceMethod yX0_doStep, Cond.selects RX0 yX0_doStep yX0_doStep, Cond.initialized RX0, Cond.code yX0_doStep cX0_doStep 3 none, Cond.fieldLink RX0 58 "MonitorDesk" "raised" "I", Cond.methodLink RX0 93 yX0_perform, Cond.instanceMethod yX0_perform, Cond.selects RX0 yX0_perform yX0_perform, Cond.code yX0_perform cX0_perform 5 (some .int), Cond.fieldLink RX0 31 "MonitorDesk" "arguments" "[I", Cond.fieldLink RX0 28 "MonitorDesk" "operations" "[I", Cond.fieldLink RX0 34 "MonitorDesk" "around" "[I", Cond.fieldLink RX0 24 "MonitorDesk" "flag" "Z"]
def wsX0_run_r2 : List Cond := [Cond.fieldLink RX0 17 "MonitorDesk" "ended" "[Z", Cond.fieldLink RX0 21 "MonitorDesk" "total" "I", Cond.methodLink RX0 99 yJ9_floorMod_7cf53, Cond.static yJ9_floorMod_7cf53, Cond.initialized RJ9, Cond.code yJ9_floorMod_7cf53 cJ9_floorMod_7cf53 3 (some .int), Cond.methodLink RX0 105 yX0_endBlock, Cond.instanceMethod yX0_endBlock, Cond.selects RX0 yX0_endBlock yX0_endBlock, Cond.code yX0_endBlock cX0_endBlock 2 (some .int), Cond.methodLink RX0 133 yX0_isEnter, Cond.instanceMethod yX0_isEnter, Cond.selects RX0 yX0_isEnter yX0_isEnter, Cond.code yX0_isEnter cX0_isEnter 2 (some .boolean), Cond.methodLink RX0 136 yX0_giveBack, Cond.instanceMethod yX0_giveBack, Cond.selects RX0 yX0_giveBack yX0_giveBack, Cond.code yX0_giveBack cX0_giveBack 3 (some .int), Cond.methodLink RX0 90 yX0_leastHandle, Cond.instanceMethod yX0_leastHandle, Cond.selects RX0 yX0_leastHandle yX0_leastHandle, Cond.code yX0_leastHandle cX0_leastHandle 3 (some .int), Cond.fieldLink RX0 9 "MonitorDesk" "locks" "[I", Cond.methodLink RX0 108 yX0_enter]
def wsX0_run_r3 : List Cond := [Cond.instanceMethod yX0_enter, Cond.selects RX0 yX0_enter yX0_enter, Cond.code yX0_enter cX0_enter 3 (some .int), Cond.methodLink RX0 127 yX0_raise, Cond.instanceMethod yX0_raise, Cond.selects RX0 yX0_raise yX0_raise, Cond.code yX0_raise cX0_raise 2 (some .int), Cond.methodLink RX0 111 yX0_notifyWaiting, Cond.instanceMethod yX0_notifyWaiting, Cond.selects RX0 yX0_notifyWaiting yX0_notifyWaiting, Cond.code yX0_notifyWaiting cX0_notifyWaiting 2 (some .int), Cond.methodLink RX0 114 yX0_holdsLock, Cond.instanceMethod yX0_holdsLock, Cond.selects RX0 yX0_holdsLock yX0_holdsLock, Cond.code yX0_holdsLock cX0_holdsLock 2 (some .int), Cond.methodLink RX0 78 yX0_asNumber, Cond.static yX0_asNumber, Cond.code yX0_asNumber cX0_asNumber 1 (some .int), Cond.methodLink RX0 117 yX0_awaitNotice, Cond.instanceMethod yX0_awaitNotice, Cond.selects RX0 yX0_awaitNotice yX0_awaitNotice, Cond.code yX0_awaitNotice cX0_awaitNotice 3 (some .int), Cond.constant RX0 141 (-2147483648), Cond.methodLink RX0 142 Lib.Math.abs.name]
def wsX0_run_r4 : List Cond := [Cond.static Lib.Math.abs.name, Cond.initialized "java/lang/Math", Cond.code Lib.Math.abs.name Lib.Math.abs.code 1 (some .int), Cond.methodLink RX0 120 yX0_takeFlag, Cond.instanceMethod yX0_takeFlag, Cond.selects RX0 yX0_takeFlag yX0_takeFlag, Cond.code yX0_takeFlag cX0_takeFlag 2 (some .boolean), Cond.methodLink RX0 124 yX0_sleep, Cond.instanceMethod yX0_sleep, Cond.selects RX0 yX0_sleep yX0_sleep, Cond.code yX0_sleep cX0_sleep 2 (some .int), Cond.methodLink RX0 130 yX0_start, Cond.instanceMethod yX0_start, Cond.selects RX0 yX0_start yX0_start, Cond.code yX0_start cX0_start 2 (some .int), Cond.methodLink RX0 96 yX0_leaveBlocks, Cond.instanceMethod yX0_leaveBlocks, Cond.selects RX0 yX0_leaveBlocks yX0_leaveBlocks, Cond.code yX0_leaveBlocks cX0_leaveBlocks 4 none, Cond.fieldLink RX0 37 "MonitorDesk" "ends" "[I"]
def wsX0_run : List Cond := .code yX0_run cX0_run 3 (some .int) :: ((wsX0_run_r1 ++ (wsX0_run_r2 ++ (wsX0_run_r3 ++ wsX0_run_r4))) ++ wsX00)
def wsX0_result : List Cond := .code yX0_result cX0_result 2 (some .int) :: ([.fieldLink RX0 49 "MonitorDesk" "results" "[I"] ++ wsX00)
def wsX0_failure : List Cond := .code yX0_failure cX0_failure 1 (some .int) :: ([.fieldLink RX0 52 "MonitorDesk" "latestFailure" "I"] ++ wsX00)
def wsX0_countEnded : List Cond := .code yX0_countEnded cX0_countEnded 3 (some .int) :: ([.fieldLink RX0 17 "MonitorDesk" "ended" "[Z", .methodLink RX0 78 yX0_asNumber, .static yX0_asNumber, .initialized RX0, .code yX0_asNumber cX0_asNumber 1 (some .int)] ++ wsX00)
def wsX0_handleState : List Cond := .code yX0_handleState cX0_handleState 3 (some .int) :: ([.fieldLink RX0 9 "MonitorDesk" "locks" "[I", .methodLink RX0 90 yX0_leastHandle, .instanceMethod yX0_leastHandle, .selects RX0 yX0_leastHandle yX0_leastHandle, .initialized RX0, .code yX0_leastHandle cX0_leastHandle 3 (some .int)] ++ wsX00)
def wsX0_state : List Cond := .code yX0_state cX0_state 2 (some .int) :: ([.fieldLink RX0 40 "MonitorDesk" "stepCount" "I", .fieldLink RX0 43 "MonitorDesk" "openCount" "I", .fieldLink RX0 21 "MonitorDesk" "total" "I", .fieldLink RX0 24 "MonitorDesk" "flag" "Z", .methodLink RX0 78 yX0_asNumber, .static yX0_asNumber, .initialized RX0, .code yX0_asNumber cX0_asNumber 1 (some .int), .methodLink RX0 82 yX0_countEnded, .instanceMethod yX0_countEnded, .selects RX0 yX0_countEnded yX0_countEnded, .code yX0_countEnded cX0_countEnded 3 (some .int), .fieldLink RX0 17 "MonitorDesk" "ended" "[Z", .methodLink RX0 86 yX0_handleState, .instanceMethod yX0_handleState, .selects RX0 yX0_handleState yX0_handleState, .code yX0_handleState cX0_handleState 3 (some .int), .fieldLink RX0 9 "MonitorDesk" "locks" "[I", .methodLink RX0 90 yX0_leastHandle, .instanceMethod yX0_leastHandle, .selects RX0 yX0_leastHandle yX0_leastHandle, .code yX0_leastHandle cX0_leastHandle 3 (some .int)] ++ wsX00)
def wsJ9_abs_0f7a4 : List Cond := .code yJ9_abs_0f7a4 cJ9_abs_0f7a4 1 (some .int) :: ([])
def wsL_type_r1 : List Cond := [Cond.methodLink RL 7 yX0_state, Cond.instanceMethod yX0_state, Cond.selects RX0 yX0_state yX0_state, Cond.initialized RX0, Cond.code yX0_state cX0_state 2 (some .int), Cond.fieldLink RX0 40 "MonitorDesk" "stepCount" "I", Cond.fieldLink RX0 43 "MonitorDesk" "openCount" "I", Cond.fieldLink RX0 21 "MonitorDesk" "total" "I", Cond.fieldLink RX0 24 "MonitorDesk" "flag" "Z", Cond.methodLink RX0 78 yX0_asNumber, Cond.static yX0_asNumber, Cond.code yX0_asNumber cX0_asNumber 1 (some .int), Cond.methodLink RX0 82 yX0_countEnded, Cond.instanceMethod yX0_countEnded, Cond.selects RX0 yX0_countEnded yX0_countEnded, Cond.code yX0_countEnded cX0_countEnded 3 (some .int), Cond.fieldLink RX0 17 "MonitorDesk" "ended" "[Z", Cond.methodLink RX0 86 yX0_handleState, Cond.instanceMethod yX0_handleState, Cond.selects RX0 yX0_handleState yX0_handleState, Cond.code yX0_handleState cX0_handleState 3 (some .int), Cond.fieldLink RX0 9 "MonitorDesk" "locks" "[I", Cond.methodLink RX0 90 yX0_leastHandle, Cond.instanceMethod yX0_leastHandle]
def wsL_type_r2 : List Cond := [Cond.selects RX0 yX0_leastHandle yX0_leastHandle, Cond.code yX0_leastHandle cX0_leastHandle 3 (some .int), Cond.methodLink RL 13 yX0_step, Cond.instanceMethod yX0_step, Cond.selects RX0 yX0_step yX0_step, Cond.code yX0_step cX0_step 3 (some .int), Cond.fieldLink RX0 46 "MonitorDesk" "latestOpen" "I", Cond.fieldLink RX0 28 "MonitorDesk" "operations" "[I", Cond.fieldLink RX0 31 "MonitorDesk" "arguments" "[I", Cond.fieldLink RX0 34 "MonitorDesk" "around" "[I", Cond.fieldLink RX0 37 "MonitorDesk" "ends" "[I", Cond.methodLink RX0 70 yX0_opensBlock, Cond.static yX0_opensBlock, Cond.code yX0_opensBlock cX0_opensBlock 1 (some .boolean)]
def wsL_type : List Cond := .code yL_type cL_type 8 none :: ((wsL_type_r1 ++ wsL_type_r2) ++ wsX00)
def wsL_free_r1 : List Cond := [Cond.methodLink RL 17 yX0_clear, Cond.instanceMethod yX0_clear, Cond.selects RX0 yX0_clear yX0_clear, Cond.initialized RX0, Cond.code yX0_clear cX0_clear 2 (some .int), Cond.fieldLink RX0 40 "MonitorDesk" "stepCount" "I", Cond.fieldLink RX0 43 "MonitorDesk" "openCount" "I", Cond.fieldLink RX0 46 "MonitorDesk" "latestOpen" "I", Cond.methodLink RL 13 yX0_step, Cond.instanceMethod yX0_step, Cond.selects RX0 yX0_step yX0_step, Cond.code yX0_step cX0_step 3 (some .int), Cond.fieldLink RX0 28 "MonitorDesk" "operations" "[I", Cond.fieldLink RX0 31 "MonitorDesk" "arguments" "[I", Cond.fieldLink RX0 34 "MonitorDesk" "around" "[I", Cond.fieldLink RX0 37 "MonitorDesk" "ends" "[I", Cond.methodLink RX0 70 yX0_opensBlock, Cond.static yX0_opensBlock, Cond.code yX0_opensBlock cX0_opensBlock 1 (some .boolean), Cond.methodLink RL 21 yX0_run, Cond.instanceMethod yX0_run, Cond.selects RX0 yX0_run yX0_run, Cond.code yX0_run cX0_run 3 (some .int), Cond.fieldLink RX0 49 "MonitorDesk" "results" "[I"]
def wsL_free_r2 : List Cond := [Cond.fieldLink RX0 55 "MonitorDesk" "held" "[I", Cond.fieldLink RX0 52 "MonitorDesk" "latestFailure" "I", Cond.fieldLink RX0 61 "MonitorDesk" "resumeAt" "I", Cond.methodLink RX0 64 yJ7_fill_53178, Cond.static yJ7_fill_53178, Cond.initialized RJ7, Cond.code yJ7_fill_53178 cJ7_fill_53178 4 none, Cond.methodLink RX0 74 yX0_doStep, Cond.instanceMethod yX0_doStep, Cond.selects RX0 yX0_doStep yX0_doStep, Cond.code yX0_doStep cX0_doStep 3 none, Cond.fieldLink RX0 58 "MonitorDesk" "raised" "I", Cond.methodLink RX0 93 yX0_perform, Cond.instanceMethod yX0_perform, Cond.selects RX0 yX0_perform yX0_perform, Cond.code yX0_perform cX0_perform 5 (some .int), Cond.fieldLink RX0 24 "MonitorDesk" "flag" "Z", Cond.fieldLink RX0 17 "MonitorDesk" "ended" "[Z", Cond.fieldLink RX0 21 "MonitorDesk" "total" "I", Cond.methodLink RX0 99 yJ9_floorMod_7cf53, Cond.static yJ9_floorMod_7cf53, Cond.initialized RJ9, Cond.code yJ9_floorMod_7cf53 cJ9_floorMod_7cf53 3 (some .int), Cond.methodLink RX0 105 yX0_endBlock]
def wsL_free_r3 : List Cond := [Cond.instanceMethod yX0_endBlock, Cond.selects RX0 yX0_endBlock yX0_endBlock, Cond.code yX0_endBlock cX0_endBlock 2 (some .int), Cond.methodLink RX0 133 yX0_isEnter, Cond.instanceMethod yX0_isEnter, Cond.selects RX0 yX0_isEnter yX0_isEnter, Cond.code yX0_isEnter cX0_isEnter 2 (some .boolean), Cond.methodLink RX0 136 yX0_giveBack, Cond.instanceMethod yX0_giveBack, Cond.selects RX0 yX0_giveBack yX0_giveBack, Cond.code yX0_giveBack cX0_giveBack 3 (some .int), Cond.methodLink RX0 90 yX0_leastHandle, Cond.instanceMethod yX0_leastHandle, Cond.selects RX0 yX0_leastHandle yX0_leastHandle, Cond.code yX0_leastHandle cX0_leastHandle 3 (some .int), Cond.fieldLink RX0 9 "MonitorDesk" "locks" "[I", Cond.methodLink RX0 108 yX0_enter, Cond.instanceMethod yX0_enter, Cond.selects RX0 yX0_enter yX0_enter, Cond.code yX0_enter cX0_enter 3 (some .int), Cond.methodLink RX0 127 yX0_raise, Cond.instanceMethod yX0_raise, Cond.selects RX0 yX0_raise yX0_raise, Cond.code yX0_raise cX0_raise 2 (some .int)]
def wsL_free_r4 : List Cond := [Cond.methodLink RX0 111 yX0_notifyWaiting, Cond.instanceMethod yX0_notifyWaiting, Cond.selects RX0 yX0_notifyWaiting yX0_notifyWaiting, Cond.code yX0_notifyWaiting cX0_notifyWaiting 2 (some .int), Cond.methodLink RX0 114 yX0_holdsLock, Cond.instanceMethod yX0_holdsLock, Cond.selects RX0 yX0_holdsLock yX0_holdsLock, Cond.code yX0_holdsLock cX0_holdsLock 2 (some .int), Cond.methodLink RX0 78 yX0_asNumber, Cond.static yX0_asNumber, Cond.code yX0_asNumber cX0_asNumber 1 (some .int), Cond.methodLink RX0 117 yX0_awaitNotice, Cond.instanceMethod yX0_awaitNotice, Cond.selects RX0 yX0_awaitNotice yX0_awaitNotice, Cond.code yX0_awaitNotice cX0_awaitNotice 3 (some .int), Cond.constant RX0 141 (-2147483648), Cond.methodLink RX0 142 Lib.Math.abs.name, Cond.static Lib.Math.abs.name, Cond.initialized "java/lang/Math", Cond.code Lib.Math.abs.name Lib.Math.abs.code 1 (some .int), Cond.methodLink RX0 120 yX0_takeFlag, Cond.instanceMethod yX0_takeFlag, Cond.selects RX0 yX0_takeFlag yX0_takeFlag, Cond.code yX0_takeFlag cX0_takeFlag 2 (some .boolean)]
def wsL_free_r5 : List Cond := [Cond.methodLink RX0 124 yX0_sleep, Cond.instanceMethod yX0_sleep, Cond.selects RX0 yX0_sleep yX0_sleep, Cond.code yX0_sleep cX0_sleep 2 (some .int), Cond.methodLink RX0 130 yX0_start, Cond.instanceMethod yX0_start, Cond.selects RX0 yX0_start yX0_start, Cond.code yX0_start cX0_start 2 (some .int), Cond.methodLink RX0 96 yX0_leaveBlocks, Cond.instanceMethod yX0_leaveBlocks, Cond.selects RX0 yX0_leaveBlocks yX0_leaveBlocks, Cond.code yX0_leaveBlocks cX0_leaveBlocks 4 none, Cond.methodLink RL 7 yX0_state, Cond.instanceMethod yX0_state, Cond.selects RX0 yX0_state yX0_state, Cond.code yX0_state cX0_state 2 (some .int), Cond.methodLink RX0 82 yX0_countEnded, Cond.instanceMethod yX0_countEnded, Cond.selects RX0 yX0_countEnded yX0_countEnded, Cond.code yX0_countEnded cX0_countEnded 3 (some .int), Cond.methodLink RX0 86 yX0_handleState, Cond.instanceMethod yX0_handleState, Cond.selects RX0 yX0_handleState yX0_handleState, Cond.code yX0_handleState cX0_handleState 3 (some .int)]
def wsL_free_r6 : List Cond := [Cond.methodLink RL 24 yX0_result, Cond.instanceMethod yX0_result, Cond.selects RX0 yX0_result yX0_result, Cond.code yX0_result cX0_result 2 (some .int), Cond.methodLink RL 27 yX0_failure, Cond.instanceMethod yX0_failure, Cond.selects RX0 yX0_failure yX0_failure, Cond.code yX0_failure cX0_failure 1 (some .int)]
def wsL_free : List Cond := .code yL_free cL_free 3 (some .boolean) :: ((wsL_free_r1 ++ (wsL_free_r2 ++ (wsL_free_r3 ++ (wsL_free_r4 ++ (wsL_free_r5 ++ wsL_free_r6))))) ++ wsX00)
def wsL_law_r1 : List Cond := [Cond.classLink RL 8 RX0, Cond.instantiable RX0 17, Cond.initialized RX0, Cond.methodLink RL 30 yX0_init, Cond.instanceMethod yX0_init, Cond.code yX0_init cX0_init 1 none, Cond.methodLink RX0 1 objectInit, Cond.instanceMethod objectInit, Cond.code objectInit ⟨#[0xb1]⟩ 1 none, Cond.arrayClass .int, Cond.fieldLink RX0 9 "MonitorDesk" "locks" "[I", Cond.fieldLink RX0 13 "MonitorDesk" "locksMade" "I", Cond.arrayClass .boolean, Cond.fieldLink RX0 17 "MonitorDesk" "ended" "[Z", Cond.fieldLink RX0 21 "MonitorDesk" "total" "I", Cond.fieldLink RX0 24 "MonitorDesk" "flag" "Z", Cond.fieldLink RX0 28 "MonitorDesk" "operations" "[I", Cond.fieldLink RX0 31 "MonitorDesk" "arguments" "[I", Cond.fieldLink RX0 34 "MonitorDesk" "around" "[I", Cond.fieldLink RX0 37 "MonitorDesk" "ends" "[I", Cond.fieldLink RX0 40 "MonitorDesk" "stepCount" "I", Cond.fieldLink RX0 43 "MonitorDesk" "openCount" "I", Cond.fieldLink RX0 46 "MonitorDesk" "latestOpen" "I", Cond.fieldLink RX0 49 "MonitorDesk" "results" "[I"]
def wsL_law_r2 : List Cond := [Cond.fieldLink RX0 52 "MonitorDesk" "latestFailure" "I", Cond.fieldLink RX0 55 "MonitorDesk" "held" "[I", Cond.fieldLink RX0 58 "MonitorDesk" "raised" "I", Cond.fieldLink RX0 61 "MonitorDesk" "resumeAt" "I", Cond.methodLink RX0 64 yJ7_fill_53178, Cond.static yJ7_fill_53178, Cond.initialized RJ7, Cond.code yJ7_fill_53178 cJ7_fill_53178 4 none, Cond.methodLink RL 31 yX0_hold, Cond.instanceMethod yX0_hold, Cond.selects RX0 yX0_hold yX0_hold, Cond.code yX0_hold cX0_hold 3 (some .int), Cond.methodLink RL 17 yX0_clear, Cond.instanceMethod yX0_clear, Cond.selects RX0 yX0_clear yX0_clear, Cond.code yX0_clear cX0_clear 2 (some .int), Cond.methodLink RL 34 yL_type, Cond.static yL_type, Cond.initialized RL, Cond.code yL_type cL_type 8 none, Cond.methodLink RL 7 yX0_state, Cond.instanceMethod yX0_state, Cond.selects RX0 yX0_state yX0_state, Cond.code yX0_state cX0_state 2 (some .int)]
def wsL_law_r3 : List Cond := [Cond.methodLink RX0 78 yX0_asNumber, Cond.static yX0_asNumber, Cond.code yX0_asNumber cX0_asNumber 1 (some .int), Cond.methodLink RX0 82 yX0_countEnded, Cond.instanceMethod yX0_countEnded, Cond.selects RX0 yX0_countEnded yX0_countEnded, Cond.code yX0_countEnded cX0_countEnded 3 (some .int), Cond.methodLink RX0 86 yX0_handleState, Cond.instanceMethod yX0_handleState, Cond.selects RX0 yX0_handleState yX0_handleState, Cond.code yX0_handleState cX0_handleState 3 (some .int), Cond.methodLink RX0 90 yX0_leastHandle, Cond.instanceMethod yX0_leastHandle, Cond.selects RX0 yX0_leastHandle yX0_leastHandle, Cond.code yX0_leastHandle cX0_leastHandle 3 (some .int), Cond.methodLink RL 13 yX0_step, Cond.instanceMethod yX0_step, Cond.selects RX0 yX0_step yX0_step, Cond.code yX0_step cX0_step 3 (some .int), Cond.methodLink RX0 70 yX0_opensBlock, Cond.static yX0_opensBlock, Cond.code yX0_opensBlock cX0_opensBlock 1 (some .boolean), Cond.methodLink RL 21 yX0_run, Cond.instanceMethod yX0_run]
def wsL_law_r4 : List Cond := [Cond.selects RX0 yX0_run yX0_run, Cond.code yX0_run cX0_run 3 (some .int), Cond.methodLink RX0 74 yX0_doStep, Cond.instanceMethod yX0_doStep, Cond.selects RX0 yX0_doStep yX0_doStep, Cond.code yX0_doStep cX0_doStep 3 none, Cond.methodLink RX0 93 yX0_perform, Cond.instanceMethod yX0_perform, Cond.selects RX0 yX0_perform yX0_perform, Cond.code yX0_perform cX0_perform 5 (some .int), Cond.methodLink RX0 99 yJ9_floorMod_7cf53, Cond.static yJ9_floorMod_7cf53, Cond.initialized RJ9, Cond.code yJ9_floorMod_7cf53 cJ9_floorMod_7cf53 3 (some .int), Cond.methodLink RX0 105 yX0_endBlock, Cond.instanceMethod yX0_endBlock, Cond.selects RX0 yX0_endBlock yX0_endBlock, Cond.code yX0_endBlock cX0_endBlock 2 (some .int), Cond.methodLink RX0 133 yX0_isEnter, Cond.instanceMethod yX0_isEnter, Cond.selects RX0 yX0_isEnter yX0_isEnter, Cond.code yX0_isEnter cX0_isEnter 2 (some .boolean), Cond.methodLink RX0 136 yX0_giveBack, Cond.instanceMethod yX0_giveBack]
def wsL_law_r5 : List Cond := [Cond.selects RX0 yX0_giveBack yX0_giveBack, Cond.code yX0_giveBack cX0_giveBack 3 (some .int), Cond.methodLink RX0 108 yX0_enter, Cond.instanceMethod yX0_enter, Cond.selects RX0 yX0_enter yX0_enter, Cond.code yX0_enter cX0_enter 3 (some .int), Cond.methodLink RX0 127 yX0_raise, Cond.instanceMethod yX0_raise, Cond.selects RX0 yX0_raise yX0_raise, Cond.code yX0_raise cX0_raise 2 (some .int), Cond.methodLink RX0 111 yX0_notifyWaiting, Cond.instanceMethod yX0_notifyWaiting, Cond.selects RX0 yX0_notifyWaiting yX0_notifyWaiting, Cond.code yX0_notifyWaiting cX0_notifyWaiting 2 (some .int), Cond.methodLink RX0 114 yX0_holdsLock, Cond.instanceMethod yX0_holdsLock, Cond.selects RX0 yX0_holdsLock yX0_holdsLock, Cond.code yX0_holdsLock cX0_holdsLock 2 (some .int), Cond.methodLink RX0 117 yX0_awaitNotice, Cond.instanceMethod yX0_awaitNotice, Cond.selects RX0 yX0_awaitNotice yX0_awaitNotice, Cond.code yX0_awaitNotice cX0_awaitNotice 3 (some .int), Cond.constant RX0 141 (-2147483648), Cond.methodLink RX0 142 Lib.Math.abs.name]
def wsL_law_r6 : List Cond := [Cond.static Lib.Math.abs.name, Cond.initialized "java/lang/Math", Cond.code Lib.Math.abs.name Lib.Math.abs.code 1 (some .int), Cond.methodLink RX0 120 yX0_takeFlag, Cond.instanceMethod yX0_takeFlag, Cond.selects RX0 yX0_takeFlag yX0_takeFlag, Cond.code yX0_takeFlag cX0_takeFlag 2 (some .boolean), Cond.methodLink RX0 124 yX0_sleep, Cond.instanceMethod yX0_sleep, Cond.selects RX0 yX0_sleep yX0_sleep, Cond.code yX0_sleep cX0_sleep 2 (some .int), Cond.methodLink RX0 130 yX0_start, Cond.instanceMethod yX0_start, Cond.selects RX0 yX0_start yX0_start, Cond.code yX0_start cX0_start 2 (some .int), Cond.methodLink RX0 96 yX0_leaveBlocks, Cond.instanceMethod yX0_leaveBlocks, Cond.selects RX0 yX0_leaveBlocks yX0_leaveBlocks, Cond.code yX0_leaveBlocks cX0_leaveBlocks 4 none, Cond.methodLink RL 40 yL_free, Cond.static yL_free, Cond.code yL_free cL_free 3 (some .boolean), Cond.methodLink RL 24 yX0_result, Cond.instanceMethod yX0_result]
def wsL_law_r7 : List Cond := [Cond.selects RX0 yX0_result yX0_result, Cond.code yX0_result cX0_result 2 (some .int), Cond.methodLink RL 27 yX0_failure, Cond.instanceMethod yX0_failure, Cond.selects RX0 yX0_failure yX0_failure, Cond.code yX0_failure cX0_failure 1 (some .int)]
def wsL_law : List Cond := (wsL_law_r1 ++ (wsL_law_r2 ++ (wsL_law_r3 ++ (wsL_law_r4 ++ (wsL_law_r5 ++ (wsL_law_r6 ++ wsL_law_r7)))))) ++ wsX00 ++ ([] : List Cond)
set_option maxRecDepth 20000 in
theorem wsL_law_in : ∀ w ∈ wsL_law, w ∈ lw_tbl := fun w h => (goodIn_p wsL_law [25, 28, 31, 89, 93, 170, 174, 143, 178, 182, 124, 186, 189, 97, 101, 105, 108, 112, 116, 120, 128, 132, 136, 140, 147, 151, 155, 159, 163, 167, 192, 196, 200] (by decide +kernel) (by decide +kernel) w h).1
theorem inlX0 : ∀ w ∈ wsX00, w ∈ wsL_law := fun _ h => List.mem_append_left _ (List.mem_append_right _ h)
theorem inX0 : ∀ w ∈ wsX00, w ∈ lw_tbl := fun w h => wsL_law_in w (inlX0 w h)
theorem inX1 : ∀ w ∈ wsX10, w ∈ lw_tbl := by decide +kernel
theorem inJ9 : ∀ w ∈ wsJ90, w ∈ lw_tbl := by decide +kernel
theorem inJ7 : ∀ w ∈ wsJ70, w ∈ lw_tbl := by decide +kernel
set_option maxRecDepth 20000 in
theorem ggX0_init_J7_fill_53178 : GoodIn wsX0_init wsJ7_fill_53178 := goodIn_r _ [26] (by decide +kernel) (by decide +kernel)
set_option maxRecDepth 20000 in
theorem gX0_init_J7_fill_53178 : GoodIn wsX0_init (va_wsS RX0 64 yJ7_fill_53178 wsJ7_fill_53178) := goodIn_app (goodIn_of _ (by decide +kernel)) ggX0_init_J7_fill_53178
theorem dX0_init_0 : decode cX0_init 0 = .ok (.aload_n 0, 1) := by decide +kernel
theorem dX0_init_1 : decode cX0_init 1 = .ok (.invokespecial 1, 3) := by decide +kernel
theorem dX0_init_4 : decode cX0_init 4 = .ok (.aload_n 0, 1) := by decide +kernel
theorem dX0_init_5 : decode cX0_init 5 = .ok (.iconst 5, 1) := by decide +kernel
theorem dX0_init_6 : decode cX0_init 6 = .ok (.newarray .int, 2) := by decide +kernel
theorem dX0_init_8 : decode cX0_init 8 = .ok (.putfield 9, 3) := by decide +kernel
theorem dX0_init_11 : decode cX0_init 11 = .ok (.aload_n 0, 1) := by decide +kernel
theorem dX0_init_12 : decode cX0_init 12 = .ok (.iconst 0, 1) := by decide +kernel
theorem dX0_init_13 : decode cX0_init 13 = .ok (.putfield 13, 3) := by decide +kernel
theorem dX0_init_16 : decode cX0_init 16 = .ok (.aload_n 0, 1) := by decide +kernel
theorem dX0_init_17 : decode cX0_init 17 = .ok (.iconst 4, 1) := by decide +kernel
theorem dX0_init_18 : decode cX0_init 18 = .ok (.newarray .boolean, 2) := by decide +kernel
theorem dX0_init_20 : decode cX0_init 20 = .ok (.putfield 17, 3) := by decide +kernel
theorem dX0_init_23 : decode cX0_init 23 = .ok (.aload_n 0, 1) := by decide +kernel
theorem dX0_init_24 : decode cX0_init 24 = .ok (.iconst 0, 1) := by decide +kernel
theorem dX0_init_25 : decode cX0_init 25 = .ok (.putfield 21, 3) := by decide +kernel
theorem dX0_init_28 : decode cX0_init 28 = .ok (.aload_n 0, 1) := by decide +kernel
theorem dX0_init_29 : decode cX0_init 29 = .ok (.iconst 0, 1) := by decide +kernel
theorem dX0_init_30 : decode cX0_init 30 = .ok (.putfield 24, 3) := by decide +kernel
theorem dX0_init_33 : decode cX0_init 33 = .ok (.aload_n 0, 1) := by decide +kernel
theorem dX0_init_34 : decode cX0_init 34 = .ok (.bipush 24, 2) := by decide +kernel
theorem dX0_init_36 : decode cX0_init 36 = .ok (.newarray .int, 2) := by decide +kernel
theorem dX0_init_38 : decode cX0_init 38 = .ok (.putfield 28, 3) := by decide +kernel
theorem dX0_init_41 : decode cX0_init 41 = .ok (.aload_n 0, 1) := by decide +kernel
theorem dX0_init_42 : decode cX0_init 42 = .ok (.bipush 24, 2) := by decide +kernel
theorem dX0_init_44 : decode cX0_init 44 = .ok (.newarray .int, 2) := by decide +kernel
theorem dX0_init_46 : decode cX0_init 46 = .ok (.putfield 31, 3) := by decide +kernel
theorem dX0_init_49 : decode cX0_init 49 = .ok (.aload_n 0, 1) := by decide +kernel
theorem dX0_init_50 : decode cX0_init 50 = .ok (.bipush 24, 2) := by decide +kernel
theorem dX0_init_52 : decode cX0_init 52 = .ok (.newarray .int, 2) := by decide +kernel
theorem dX0_init_54 : decode cX0_init 54 = .ok (.putfield 34, 3) := by decide +kernel
theorem dX0_init_57 : decode cX0_init 57 = .ok (.aload_n 0, 1) := by decide +kernel
theorem dX0_init_58 : decode cX0_init 58 = .ok (.bipush 24, 2) := by decide +kernel
theorem dX0_init_60 : decode cX0_init 60 = .ok (.newarray .int, 2) := by decide +kernel
theorem dX0_init_62 : decode cX0_init 62 = .ok (.putfield 37, 3) := by decide +kernel
theorem dX0_init_65 : decode cX0_init 65 = .ok (.aload_n 0, 1) := by decide +kernel
theorem dX0_init_66 : decode cX0_init 66 = .ok (.iconst 0, 1) := by decide +kernel
theorem dX0_init_67 : decode cX0_init 67 = .ok (.putfield 40, 3) := by decide +kernel
theorem dX0_init_70 : decode cX0_init 70 = .ok (.aload_n 0, 1) := by decide +kernel
theorem dX0_init_71 : decode cX0_init 71 = .ok (.iconst 0, 1) := by decide +kernel
theorem dX0_init_72 : decode cX0_init 72 = .ok (.putfield 43, 3) := by decide +kernel
theorem dX0_init_75 : decode cX0_init 75 = .ok (.aload_n 0, 1) := by decide +kernel
theorem dX0_init_76 : decode cX0_init 76 = .ok (.iconst (-1), 1) := by decide +kernel
theorem dX0_init_77 : decode cX0_init 77 = .ok (.putfield 46, 3) := by decide +kernel
theorem dX0_init_80 : decode cX0_init 80 = .ok (.aload_n 0, 1) := by decide +kernel
theorem dX0_init_81 : decode cX0_init 81 = .ok (.bipush 24, 2) := by decide +kernel
theorem dX0_init_83 : decode cX0_init 83 = .ok (.newarray .int, 2) := by decide +kernel
theorem dX0_init_85 : decode cX0_init 85 = .ok (.putfield 49, 3) := by decide +kernel
theorem dX0_init_88 : decode cX0_init 88 = .ok (.aload_n 0, 1) := by decide +kernel
theorem dX0_init_89 : decode cX0_init 89 = .ok (.iconst 0, 1) := by decide +kernel
theorem dX0_init_90 : decode cX0_init 90 = .ok (.putfield 52, 3) := by decide +kernel
theorem dX0_init_93 : decode cX0_init 93 = .ok (.aload_n 0, 1) := by decide +kernel
theorem dX0_init_94 : decode cX0_init 94 = .ok (.iconst 5, 1) := by decide +kernel
theorem dX0_init_95 : decode cX0_init 95 = .ok (.newarray .int, 2) := by decide +kernel
theorem dX0_init_97 : decode cX0_init 97 = .ok (.putfield 55, 3) := by decide +kernel
theorem dX0_init_100 : decode cX0_init 100 = .ok (.aload_n 0, 1) := by decide +kernel
theorem dX0_init_101 : decode cX0_init 101 = .ok (.iconst 0, 1) := by decide +kernel
theorem dX0_init_102 : decode cX0_init 102 = .ok (.putfield 58, 3) := by decide +kernel
theorem dX0_init_105 : decode cX0_init 105 = .ok (.aload_n 0, 1) := by decide +kernel
theorem dX0_init_106 : decode cX0_init 106 = .ok (.iconst 0, 1) := by decide +kernel
theorem dX0_init_107 : decode cX0_init 107 = .ok (.putfield 61, 3) := by decide +kernel
theorem dX0_init_110 : decode cX0_init 110 = .ok (.aload_n 0, 1) := by decide +kernel
theorem dX0_init_111 : decode cX0_init 111 = .ok (.getfield 49, 3) := by decide +kernel
theorem dX0_init_114 : decode cX0_init 114 = .ok (.bipush (-9), 2) := by decide +kernel
theorem dX0_init_116 : decode cX0_init 116 = .ok (.invokestatic 64, 3) := by decide +kernel
theorem dX0_init_119 : decode cX0_init 119 = .ok (.return_, 1) := by decide +kernel
theorem dX0_hold_0 : decode cX0_hold 0 = .ok (.iload_n 1, 1) := by decide +kernel
theorem dX0_hold_1 : decode cX0_hold 1 = .ok (.ifCond .lt 19, 3) := by decide +kernel
theorem dX0_hold_4 : decode cX0_hold 4 = .ok (.iload_n 1, 1) := by decide +kernel
theorem dX0_hold_5 : decode cX0_hold 5 = .ok (.iconst 5, 1) := by decide +kernel
theorem dX0_hold_6 : decode cX0_hold 6 = .ok (.if_icmp .ge 14, 3) := by decide +kernel
theorem dX0_hold_9 : decode cX0_hold 9 = .ok (.iload_n 2, 1) := by decide +kernel
theorem dX0_hold_10 : decode cX0_hold 10 = .ok (.bipush (-2), 2) := by decide +kernel
theorem dX0_hold_12 : decode cX0_hold 12 = .ok (.if_icmp .lt 8, 3) := by decide +kernel
theorem dX0_hold_15 : decode cX0_hold 15 = .ok (.iload_n 2, 1) := by decide +kernel
theorem dX0_hold_16 : decode cX0_hold 16 = .ok (.iconst 5, 1) := by decide +kernel
theorem dX0_hold_17 : decode cX0_hold 17 = .ok (.if_icmp .lt 5, 3) := by decide +kernel
theorem dX0_hold_20 : decode cX0_hold 20 = .ok (.iconst (-1), 1) := by decide +kernel
theorem dX0_hold_21 : decode cX0_hold 21 = .ok (.ireturn, 1) := by decide +kernel
theorem dX0_hold_22 : decode cX0_hold 22 = .ok (.iload_n 2, 1) := by decide +kernel
theorem dX0_hold_23 : decode cX0_hold 23 = .ok (.bipush (-2), 2) := by decide +kernel
theorem dX0_hold_25 : decode cX0_hold 25 = .ok (.if_icmp .ne 26, 3) := by decide +kernel
theorem dX0_hold_28 : decode cX0_hold 28 = .ok (.aload_n 0, 1) := by decide +kernel
theorem dX0_hold_29 : decode cX0_hold 29 = .ok (.dup, 1) := by decide +kernel
theorem dX0_hold_30 : decode cX0_hold 30 = .ok (.getfield 13, 3) := by decide +kernel
theorem dX0_hold_33 : decode cX0_hold 33 = .ok (.iconst 1, 1) := by decide +kernel
theorem dX0_hold_34 : decode cX0_hold 34 = .ok (.iadd, 1) := by decide +kernel
theorem dX0_hold_35 : decode cX0_hold 35 = .ok (.putfield 13, 3) := by decide +kernel
theorem dX0_hold_38 : decode cX0_hold 38 = .ok (.aload_n 0, 1) := by decide +kernel
theorem dX0_hold_39 : decode cX0_hold 39 = .ok (.getfield 9, 3) := by decide +kernel
theorem dX0_hold_42 : decode cX0_hold 42 = .ok (.iload_n 1, 1) := by decide +kernel
theorem dX0_hold_43 : decode cX0_hold 43 = .ok (.aload_n 0, 1) := by decide +kernel
theorem dX0_hold_44 : decode cX0_hold 44 = .ok (.getfield 13, 3) := by decide +kernel
theorem dX0_hold_47 : decode cX0_hold 47 = .ok (.iastore, 1) := by decide +kernel
theorem dX0_hold_48 : decode cX0_hold 48 = .ok (.goto 30, 3) := by decide +kernel
theorem dX0_hold_51 : decode cX0_hold 51 = .ok (.iload_n 2, 1) := by decide +kernel
theorem dX0_hold_52 : decode cX0_hold 52 = .ok (.iconst (-1), 1) := by decide +kernel
theorem dX0_hold_53 : decode cX0_hold 53 = .ok (.if_icmp .ne 13, 3) := by decide +kernel
theorem dX0_hold_56 : decode cX0_hold 56 = .ok (.aload_n 0, 1) := by decide +kernel
theorem dX0_hold_57 : decode cX0_hold 57 = .ok (.getfield 9, 3) := by decide +kernel
theorem dX0_hold_60 : decode cX0_hold 60 = .ok (.iload_n 1, 1) := by decide +kernel
theorem dX0_hold_61 : decode cX0_hold 61 = .ok (.iconst 0, 1) := by decide +kernel
theorem dX0_hold_62 : decode cX0_hold 62 = .ok (.iastore, 1) := by decide +kernel
theorem dX0_hold_63 : decode cX0_hold 63 = .ok (.goto 15, 3) := by decide +kernel
theorem dX0_hold_66 : decode cX0_hold 66 = .ok (.aload_n 0, 1) := by decide +kernel
theorem dX0_hold_67 : decode cX0_hold 67 = .ok (.getfield 9, 3) := by decide +kernel
theorem dX0_hold_70 : decode cX0_hold 70 = .ok (.iload_n 1, 1) := by decide +kernel
theorem dX0_hold_71 : decode cX0_hold 71 = .ok (.aload_n 0, 1) := by decide +kernel
theorem dX0_hold_72 : decode cX0_hold 72 = .ok (.getfield 9, 3) := by decide +kernel
theorem dX0_hold_75 : decode cX0_hold 75 = .ok (.iload_n 2, 1) := by decide +kernel
theorem dX0_hold_76 : decode cX0_hold 76 = .ok (.iaload, 1) := by decide +kernel
theorem dX0_hold_77 : decode cX0_hold 77 = .ok (.iastore, 1) := by decide +kernel
theorem dX0_hold_78 : decode cX0_hold 78 = .ok (.iconst 0, 1) := by decide +kernel
theorem dX0_hold_79 : decode cX0_hold 79 = .ok (.ireturn, 1) := by decide +kernel
set_option maxRecDepth 20000 in
theorem ggX0_step_X0_opensBlock : GoodIn wsX0_step wsX0_opensBlock := goodIn_r _ [11] (by decide +kernel) (by decide +kernel)
set_option maxRecDepth 20000 in
theorem gX0_step_X0_opensBlock : GoodIn wsX0_step (va_wsS RX0 70 yX0_opensBlock wsX0_opensBlock) := goodIn_app (goodIn_of _ (by decide +kernel)) ggX0_step_X0_opensBlock
theorem dX0_step_0 : decode cX0_step 0 = .ok (.iload_n 1, 1) := by decide +kernel
theorem dX0_step_1 : decode cX0_step 1 = .ok (.ifCond .lt 18, 3) := by decide +kernel
theorem dX0_step_4 : decode cX0_step 4 = .ok (.iload_n 1, 1) := by decide +kernel
theorem dX0_step_5 : decode cX0_step 5 = .ok (.bipush 15, 2) := by decide +kernel
theorem dX0_step_7 : decode cX0_step 7 = .ok (.if_icmp .gt 12, 3) := by decide +kernel
theorem dX0_step_10 : decode cX0_step 10 = .ok (.aload_n 0, 1) := by decide +kernel
theorem dX0_step_11 : decode cX0_step 11 = .ok (.getfield 40, 3) := by decide +kernel
theorem dX0_step_14 : decode cX0_step 14 = .ok (.bipush 24, 2) := by decide +kernel
theorem dX0_step_16 : decode cX0_step 16 = .ok (.if_icmp .lt 5, 3) := by decide +kernel
theorem dX0_step_19 : decode cX0_step 19 = .ok (.iconst (-1), 1) := by decide +kernel
theorem dX0_step_20 : decode cX0_step 20 = .ok (.ireturn, 1) := by decide +kernel
theorem dX0_step_21 : decode cX0_step 21 = .ok (.iload_n 1, 1) := by decide +kernel
theorem dX0_step_22 : decode cX0_step 22 = .ok (.ifCond .ne 13, 3) := by decide +kernel
theorem dX0_step_25 : decode cX0_step 25 = .ok (.aload_n 0, 1) := by decide +kernel
theorem dX0_step_26 : decode cX0_step 26 = .ok (.getfield 46, 3) := by decide +kernel
theorem dX0_step_29 : decode cX0_step 29 = .ok (.iconst (-1), 1) := by decide +kernel
theorem dX0_step_30 : decode cX0_step 30 = .ok (.if_icmp .ne 5, 3) := by decide +kernel
theorem dX0_step_33 : decode cX0_step 33 = .ok (.iconst (-1), 1) := by decide +kernel
theorem dX0_step_34 : decode cX0_step 34 = .ok (.ireturn, 1) := by decide +kernel
theorem dX0_step_35 : decode cX0_step 35 = .ok (.iload_n 1, 1) := by decide +kernel
theorem dX0_step_36 : decode cX0_step 36 = .ok (.invokestatic 70, 3) := by decide +kernel
theorem dX0_step_39 : decode cX0_step 39 = .ok (.ifCond .eq 14, 3) := by decide +kernel
theorem dX0_step_42 : decode cX0_step 42 = .ok (.aload_n 0, 1) := by decide +kernel
theorem dX0_step_43 : decode cX0_step 43 = .ok (.getfield 43, 3) := by decide +kernel
theorem dX0_step_46 : decode cX0_step 46 = .ok (.bipush 8, 2) := by decide +kernel
theorem dX0_step_48 : decode cX0_step 48 = .ok (.if_icmp .lt 5, 3) := by decide +kernel
theorem dX0_step_51 : decode cX0_step 51 = .ok (.iconst (-1), 1) := by decide +kernel
theorem dX0_step_52 : decode cX0_step 52 = .ok (.ireturn, 1) := by decide +kernel
theorem dX0_step_53 : decode cX0_step 53 = .ok (.aload_n 0, 1) := by decide +kernel
theorem dX0_step_54 : decode cX0_step 54 = .ok (.getfield 28, 3) := by decide +kernel
theorem dX0_step_57 : decode cX0_step 57 = .ok (.aload_n 0, 1) := by decide +kernel
theorem dX0_step_58 : decode cX0_step 58 = .ok (.getfield 40, 3) := by decide +kernel
theorem dX0_step_61 : decode cX0_step 61 = .ok (.iload_n 1, 1) := by decide +kernel
theorem dX0_step_62 : decode cX0_step 62 = .ok (.iastore, 1) := by decide +kernel
theorem dX0_step_63 : decode cX0_step 63 = .ok (.aload_n 0, 1) := by decide +kernel
theorem dX0_step_64 : decode cX0_step 64 = .ok (.getfield 31, 3) := by decide +kernel
theorem dX0_step_67 : decode cX0_step 67 = .ok (.aload_n 0, 1) := by decide +kernel
theorem dX0_step_68 : decode cX0_step 68 = .ok (.getfield 40, 3) := by decide +kernel
theorem dX0_step_71 : decode cX0_step 71 = .ok (.iload_n 2, 1) := by decide +kernel
theorem dX0_step_72 : decode cX0_step 72 = .ok (.iastore, 1) := by decide +kernel
theorem dX0_step_73 : decode cX0_step 73 = .ok (.aload_n 0, 1) := by decide +kernel
theorem dX0_step_74 : decode cX0_step 74 = .ok (.getfield 34, 3) := by decide +kernel
theorem dX0_step_77 : decode cX0_step 77 = .ok (.aload_n 0, 1) := by decide +kernel
theorem dX0_step_78 : decode cX0_step 78 = .ok (.getfield 40, 3) := by decide +kernel
theorem dX0_step_81 : decode cX0_step 81 = .ok (.aload_n 0, 1) := by decide +kernel
theorem dX0_step_82 : decode cX0_step 82 = .ok (.getfield 46, 3) := by decide +kernel
theorem dX0_step_85 : decode cX0_step 85 = .ok (.iastore, 1) := by decide +kernel
theorem dX0_step_86 : decode cX0_step 86 = .ok (.iload_n 1, 1) := by decide +kernel
theorem dX0_step_87 : decode cX0_step 87 = .ok (.invokestatic 70, 3) := by decide +kernel
theorem dX0_step_90 : decode cX0_step 90 = .ok (.ifCond .eq 24, 3) := by decide +kernel
theorem dX0_step_93 : decode cX0_step 93 = .ok (.aload_n 0, 1) := by decide +kernel
theorem dX0_step_94 : decode cX0_step 94 = .ok (.aload_n 0, 1) := by decide +kernel
theorem dX0_step_95 : decode cX0_step 95 = .ok (.getfield 40, 3) := by decide +kernel
theorem dX0_step_98 : decode cX0_step 98 = .ok (.putfield 46, 3) := by decide +kernel
theorem dX0_step_101 : decode cX0_step 101 = .ok (.aload_n 0, 1) := by decide +kernel
theorem dX0_step_102 : decode cX0_step 102 = .ok (.dup, 1) := by decide +kernel
theorem dX0_step_103 : decode cX0_step 103 = .ok (.getfield 43, 3) := by decide +kernel
theorem dX0_step_106 : decode cX0_step 106 = .ok (.iconst 1, 1) := by decide +kernel
theorem dX0_step_107 : decode cX0_step 107 = .ok (.iadd, 1) := by decide +kernel
theorem dX0_step_108 : decode cX0_step 108 = .ok (.putfield 43, 3) := by decide +kernel
theorem dX0_step_111 : decode cX0_step 111 = .ok (.goto 43, 3) := by decide +kernel
theorem dX0_step_114 : decode cX0_step 114 = .ok (.iload_n 1, 1) := by decide +kernel
theorem dX0_step_115 : decode cX0_step 115 = .ok (.ifCond .ne 39, 3) := by decide +kernel
theorem dX0_step_118 : decode cX0_step 118 = .ok (.aload_n 0, 1) := by decide +kernel
theorem dX0_step_119 : decode cX0_step 119 = .ok (.getfield 37, 3) := by decide +kernel
theorem dX0_step_122 : decode cX0_step 122 = .ok (.aload_n 0, 1) := by decide +kernel
theorem dX0_step_123 : decode cX0_step 123 = .ok (.getfield 46, 3) := by decide +kernel
theorem dX0_step_126 : decode cX0_step 126 = .ok (.aload_n 0, 1) := by decide +kernel
theorem dX0_step_127 : decode cX0_step 127 = .ok (.getfield 40, 3) := by decide +kernel
theorem dX0_step_130 : decode cX0_step 130 = .ok (.iastore, 1) := by decide +kernel
theorem dX0_step_131 : decode cX0_step 131 = .ok (.aload_n 0, 1) := by decide +kernel
theorem dX0_step_132 : decode cX0_step 132 = .ok (.aload_n 0, 1) := by decide +kernel
theorem dX0_step_133 : decode cX0_step 133 = .ok (.getfield 34, 3) := by decide +kernel
theorem dX0_step_136 : decode cX0_step 136 = .ok (.aload_n 0, 1) := by decide +kernel
theorem dX0_step_137 : decode cX0_step 137 = .ok (.getfield 46, 3) := by decide +kernel
theorem dX0_step_140 : decode cX0_step 140 = .ok (.iaload, 1) := by decide +kernel
theorem dX0_step_141 : decode cX0_step 141 = .ok (.putfield 46, 3) := by decide +kernel
theorem dX0_step_144 : decode cX0_step 144 = .ok (.aload_n 0, 1) := by decide +kernel
theorem dX0_step_145 : decode cX0_step 145 = .ok (.dup, 1) := by decide +kernel
theorem dX0_step_146 : decode cX0_step 146 = .ok (.getfield 43, 3) := by decide +kernel
theorem dX0_step_149 : decode cX0_step 149 = .ok (.iconst 1, 1) := by decide +kernel
theorem dX0_step_150 : decode cX0_step 150 = .ok (.isub, 1) := by decide +kernel
theorem dX0_step_151 : decode cX0_step 151 = .ok (.putfield 43, 3) := by decide +kernel
theorem dX0_step_154 : decode cX0_step 154 = .ok (.aload_n 0, 1) := by decide +kernel
theorem dX0_step_155 : decode cX0_step 155 = .ok (.dup, 1) := by decide +kernel
theorem dX0_step_156 : decode cX0_step 156 = .ok (.getfield 40, 3) := by decide +kernel
theorem dX0_step_159 : decode cX0_step 159 = .ok (.iconst 1, 1) := by decide +kernel
theorem dX0_step_160 : decode cX0_step 160 = .ok (.iadd, 1) := by decide +kernel
theorem dX0_step_161 : decode cX0_step 161 = .ok (.putfield 40, 3) := by decide +kernel
theorem dX0_step_164 : decode cX0_step 164 = .ok (.aload_n 0, 1) := by decide +kernel
theorem dX0_step_165 : decode cX0_step 165 = .ok (.getfield 40, 3) := by decide +kernel
theorem dX0_step_168 : decode cX0_step 168 = .ok (.ireturn, 1) := by decide +kernel
theorem dX0_clear_0 : decode cX0_clear 0 = .ok (.aload_n 0, 1) := by decide +kernel
theorem dX0_clear_1 : decode cX0_clear 1 = .ok (.getfield 40, 3) := by decide +kernel
theorem dX0_clear_4 : decode cX0_clear 4 = .ok (.istore_n 1, 1) := by decide +kernel
theorem dX0_clear_5 : decode cX0_clear 5 = .ok (.aload_n 0, 1) := by decide +kernel
theorem dX0_clear_6 : decode cX0_clear 6 = .ok (.iconst 0, 1) := by decide +kernel
theorem dX0_clear_7 : decode cX0_clear 7 = .ok (.putfield 40, 3) := by decide +kernel
theorem dX0_clear_10 : decode cX0_clear 10 = .ok (.aload_n 0, 1) := by decide +kernel
theorem dX0_clear_11 : decode cX0_clear 11 = .ok (.iconst 0, 1) := by decide +kernel
theorem dX0_clear_12 : decode cX0_clear 12 = .ok (.putfield 43, 3) := by decide +kernel
theorem dX0_clear_15 : decode cX0_clear 15 = .ok (.aload_n 0, 1) := by decide +kernel
theorem dX0_clear_16 : decode cX0_clear 16 = .ok (.iconst (-1), 1) := by decide +kernel
theorem dX0_clear_17 : decode cX0_clear 17 = .ok (.putfield 46, 3) := by decide +kernel
theorem dX0_clear_20 : decode cX0_clear 20 = .ok (.iload_n 1, 1) := by decide +kernel
theorem dX0_clear_21 : decode cX0_clear 21 = .ok (.ireturn, 1) := by decide +kernel
set_option maxRecDepth 20000 in
theorem ggX0_run_J7_fill_53178 : GoodIn wsX0_run wsJ7_fill_53178 := goodIn_r _ [10] (by decide +kernel) (by decide +kernel)
set_option maxRecDepth 20000 in
theorem gX0_run_J7_fill_53178 : GoodIn wsX0_run (va_wsS RX0 64 yJ7_fill_53178 wsJ7_fill_53178) := goodIn_app (goodIn_of _ (by decide +kernel)) ggX0_run_J7_fill_53178
set_option maxRecDepth 20000 in
theorem ggX0_run_X0_doStep : GoodIn wsX0_run wsX0_doStep := goodIn_r _ [15, 16, 2, 17, 18, 19, 14, 20, 21, 22, 23, 24, 25, 26, 27, 28, 29, 30, 31, 32, 33, 34, 35, 36, 37, 38, 39, 40, 41, 42, 3, 43, 44, 45, 46, 47, 48, 49, 50, 51, 52, 53, 54, 55, 56, 57, 58, 59, 60, 61, 62, 63, 64, 65, 66, 67, 68, 69, 70, 71, 72, 73, 74, 75, 76, 77, 78, 79, 80, 81, 82, 83, 84, 85, 86, 87, 88, 89, 90, 91, 4, 6, 5, 92, 93, 94, 95, 96, 97, 98, 99, 100, 101, 102, 103, 104, 105, 106, 107, 108, 109] (by decide +kernel) (by decide +kernel)
set_option maxRecDepth 20000 in
theorem gX0_run_X0_doStep : GoodIn wsX0_run (wsV RX0 74 RX0 yX0_doStep wsX0_doStep) := goodIn_app (goodIn_of _ (by decide +kernel)) ggX0_run_X0_doStep
theorem dX0_run_0 : decode cX0_run 0 = .ok (.aload_n 0, 1) := by decide +kernel
theorem dX0_run_1 : decode cX0_run 1 = .ok (.getfield 43, 3) := by decide +kernel
theorem dX0_run_4 : decode cX0_run 4 = .ok (.ifCond .eq 5, 3) := by decide +kernel
theorem dX0_run_7 : decode cX0_run 7 = .ok (.iconst (-1), 1) := by decide +kernel
theorem dX0_run_8 : decode cX0_run 8 = .ok (.ireturn, 1) := by decide +kernel
theorem dX0_run_9 : decode cX0_run 9 = .ok (.aload_n 0, 1) := by decide +kernel
theorem dX0_run_10 : decode cX0_run 10 = .ok (.getfield 49, 3) := by decide +kernel
theorem dX0_run_13 : decode cX0_run 13 = .ok (.bipush (-9), 2) := by decide +kernel
theorem dX0_run_15 : decode cX0_run 15 = .ok (.invokestatic 64, 3) := by decide +kernel
theorem dX0_run_18 : decode cX0_run 18 = .ok (.aload_n 0, 1) := by decide +kernel
theorem dX0_run_19 : decode cX0_run 19 = .ok (.getfield 55, 3) := by decide +kernel
theorem dX0_run_22 : decode cX0_run 22 = .ok (.iconst 0, 1) := by decide +kernel
theorem dX0_run_23 : decode cX0_run 23 = .ok (.invokestatic 64, 3) := by decide +kernel
theorem dX0_run_26 : decode cX0_run 26 = .ok (.aload_n 0, 1) := by decide +kernel
theorem dX0_run_27 : decode cX0_run 27 = .ok (.iconst 0, 1) := by decide +kernel
theorem dX0_run_28 : decode cX0_run 28 = .ok (.putfield 52, 3) := by decide +kernel
theorem dX0_run_31 : decode cX0_run 31 = .ok (.aload_n 0, 1) := by decide +kernel
theorem dX0_run_32 : decode cX0_run 32 = .ok (.iconst 0, 1) := by decide +kernel
theorem dX0_run_33 : decode cX0_run 33 = .ok (.putfield 61, 3) := by decide +kernel
theorem dX0_run_36 : decode cX0_run 36 = .ok (.iconst 0, 1) := by decide +kernel
theorem dX0_run_37 : decode cX0_run 37 = .ok (.istore_n 1, 1) := by decide +kernel
theorem dX0_run_38 : decode cX0_run 38 = .ok (.iconst 0, 1) := by decide +kernel
theorem dX0_run_39 : decode cX0_run 39 = .ok (.istore_n 2, 1) := by decide +kernel
theorem dX0_run_40 : decode cX0_run 40 = .ok (.iload_n 2, 1) := by decide +kernel
theorem dX0_run_41 : decode cX0_run 41 = .ok (.aload_n 0, 1) := by decide +kernel
theorem dX0_run_42 : decode cX0_run 42 = .ok (.getfield 40, 3) := by decide +kernel
theorem dX0_run_45 : decode cX0_run 45 = .ok (.if_icmp .ge 25, 3) := by decide +kernel
theorem dX0_run_48 : decode cX0_run 48 = .ok (.iload_n 2, 1) := by decide +kernel
theorem dX0_run_49 : decode cX0_run 49 = .ok (.aload_n 0, 1) := by decide +kernel
theorem dX0_run_50 : decode cX0_run 50 = .ok (.getfield 61, 3) := by decide +kernel
theorem dX0_run_53 : decode cX0_run 53 = .ok (.if_icmp .lt 11, 3) := by decide +kernel
theorem dX0_run_56 : decode cX0_run 56 = .ok (.aload_n 0, 1) := by decide +kernel
theorem dX0_run_57 : decode cX0_run 57 = .ok (.iload_n 2, 1) := by decide +kernel
theorem dX0_run_58 : decode cX0_run 58 = .ok (.invokevirtual 74, 3) := by decide +kernel
theorem dX0_run_61 : decode cX0_run 61 = .ok (.iinc 1 1, 3) := by decide +kernel
theorem dX0_run_64 : decode cX0_run 64 = .ok (.iinc 2 1, 3) := by decide +kernel
theorem dX0_run_67 : decode cX0_run 67 = .ok (.goto (-27), 3) := by decide +kernel
theorem dX0_run_70 : decode cX0_run 70 = .ok (.iload_n 1, 1) := by decide +kernel
theorem dX0_run_71 : decode cX0_run 71 = .ok (.ireturn, 1) := by decide +kernel
theorem dX0_result_0 : decode cX0_result 0 = .ok (.iload_n 1, 1) := by decide +kernel
theorem dX0_result_1 : decode cX0_result 1 = .ok (.ifCond .lt 9, 3) := by decide +kernel
theorem dX0_result_4 : decode cX0_result 4 = .ok (.iload_n 1, 1) := by decide +kernel
theorem dX0_result_5 : decode cX0_result 5 = .ok (.bipush 24, 2) := by decide +kernel
theorem dX0_result_7 : decode cX0_result 7 = .ok (.if_icmp .lt 5, 3) := by decide +kernel
theorem dX0_result_10 : decode cX0_result 10 = .ok (.iconst (-1), 1) := by decide +kernel
theorem dX0_result_11 : decode cX0_result 11 = .ok (.ireturn, 1) := by decide +kernel
theorem dX0_result_12 : decode cX0_result 12 = .ok (.aload_n 0, 1) := by decide +kernel
theorem dX0_result_13 : decode cX0_result 13 = .ok (.getfield 49, 3) := by decide +kernel
theorem dX0_result_16 : decode cX0_result 16 = .ok (.iload_n 1, 1) := by decide +kernel
theorem dX0_result_17 : decode cX0_result 17 = .ok (.iaload, 1) := by decide +kernel
theorem dX0_result_18 : decode cX0_result 18 = .ok (.ireturn, 1) := by decide +kernel
theorem dX0_failure_0 : decode cX0_failure 0 = .ok (.aload_n 0, 1) := by decide +kernel
theorem dX0_failure_1 : decode cX0_failure 1 = .ok (.getfield 52, 3) := by decide +kernel
theorem dX0_failure_4 : decode cX0_failure 4 = .ok (.ireturn, 1) := by decide +kernel
set_option maxRecDepth 20000 in
theorem ggX0_state_X0_asNumber : GoodIn wsX0_state wsX0_asNumber := goodIn_r _ [8] (by decide +kernel) (by decide +kernel)
set_option maxRecDepth 20000 in
theorem gX0_state_X0_asNumber : GoodIn wsX0_state (va_wsS RX0 78 yX0_asNumber wsX0_asNumber) := goodIn_app (goodIn_of _ (by decide +kernel)) ggX0_state_X0_asNumber
set_option maxRecDepth 20000 in
theorem ggX0_state_X0_countEnded : GoodIn wsX0_state wsX0_countEnded := goodIn_r _ [12, 13, 5, 6, 7, 8, 23, 24, 25, 26, 27, 28, 29, 30, 31, 32, 33, 34, 35, 36, 37, 38, 39] (by decide +kernel) (by decide +kernel)
set_option maxRecDepth 20000 in
theorem gX0_state_X0_countEnded : GoodIn wsX0_state (wsV RX0 82 RX0 yX0_countEnded wsX0_countEnded) := goodIn_app (goodIn_of _ (by decide +kernel)) ggX0_state_X0_countEnded
set_option maxRecDepth 20000 in
theorem ggX0_state_X0_handleState : GoodIn wsX0_state wsX0_handleState := goodIn_r _ [17, 18, 19, 20, 21, 7, 22, 23, 24, 25, 26, 27, 28, 29, 30, 31, 32, 33, 34, 35, 36, 37, 38, 39] (by decide +kernel) (by decide +kernel)
set_option maxRecDepth 20000 in
theorem gX0_state_X0_handleState : GoodIn wsX0_state (wsV RX0 86 RX0 yX0_handleState wsX0_handleState) := goodIn_app (goodIn_of _ (by decide +kernel)) ggX0_state_X0_handleState
theorem dX0_state_0 : decode cX0_state 0 = .ok (.iload_n 1, 1) := by decide +kernel
theorem dX0_state_1 : decode cX0_state 1 = .ok (.tableswitch 63 0 4 #[35, 40, 45, 50, 58], 35) := by decide +kernel
theorem dX0_state_36 : decode cX0_state 36 = .ok (.aload_n 0, 1) := by decide +kernel
theorem dX0_state_37 : decode cX0_state 37 = .ok (.getfield 40, 3) := by decide +kernel
theorem dX0_state_40 : decode cX0_state 40 = .ok (.ireturn, 1) := by decide +kernel
theorem dX0_state_41 : decode cX0_state 41 = .ok (.aload_n 0, 1) := by decide +kernel
theorem dX0_state_42 : decode cX0_state 42 = .ok (.getfield 43, 3) := by decide +kernel
theorem dX0_state_45 : decode cX0_state 45 = .ok (.ireturn, 1) := by decide +kernel
theorem dX0_state_46 : decode cX0_state 46 = .ok (.aload_n 0, 1) := by decide +kernel
theorem dX0_state_47 : decode cX0_state 47 = .ok (.getfield 21, 3) := by decide +kernel
theorem dX0_state_50 : decode cX0_state 50 = .ok (.ireturn, 1) := by decide +kernel
theorem dX0_state_51 : decode cX0_state 51 = .ok (.aload_n 0, 1) := by decide +kernel
theorem dX0_state_52 : decode cX0_state 52 = .ok (.getfield 24, 3) := by decide +kernel
theorem dX0_state_55 : decode cX0_state 55 = .ok (.invokestatic 78, 3) := by decide +kernel
theorem dX0_state_58 : decode cX0_state 58 = .ok (.ireturn, 1) := by decide +kernel
theorem dX0_state_59 : decode cX0_state 59 = .ok (.aload_n 0, 1) := by decide +kernel
theorem dX0_state_60 : decode cX0_state 60 = .ok (.invokevirtual 82, 3) := by decide +kernel
theorem dX0_state_63 : decode cX0_state 63 = .ok (.ireturn, 1) := by decide +kernel
theorem dX0_state_64 : decode cX0_state 64 = .ok (.aload_n 0, 1) := by decide +kernel
theorem dX0_state_65 : decode cX0_state 65 = .ok (.iload_n 1, 1) := by decide +kernel
theorem dX0_state_66 : decode cX0_state 66 = .ok (.invokevirtual 86, 3) := by decide +kernel
theorem dX0_state_69 : decode cX0_state 69 = .ok (.ireturn, 1) := by decide +kernel
set_option maxRecDepth 20000 in
theorem ggX0_handleState_X0_leastHandle : GoodIn wsX0_handleState wsX0_leastHandle := goodIn_r _ [6, 1, 7, 8, 9, 10, 11, 12, 13, 14, 15, 16, 17, 18, 19, 20, 21, 22, 23] (by decide +kernel) (by decide +kernel)
set_option maxRecDepth 20000 in
theorem gX0_handleState_X0_leastHandle : GoodIn wsX0_handleState (wsV RX0 90 RX0 yX0_leastHandle wsX0_leastHandle) := goodIn_app (goodIn_of _ (by decide +kernel)) ggX0_handleState_X0_leastHandle
theorem dX0_handleState_0 : decode cX0_handleState 0 = .ok (.iload_n 1, 1) := by decide +kernel
theorem dX0_handleState_1 : decode cX0_handleState 1 = .ok (.iconst 5, 1) := by decide +kernel
theorem dX0_handleState_2 : decode cX0_handleState 2 = .ok (.if_icmp .lt 9, 3) := by decide +kernel
theorem dX0_handleState_5 : decode cX0_handleState 5 = .ok (.iload_n 1, 1) := by decide +kernel
theorem dX0_handleState_6 : decode cX0_handleState 6 = .ok (.bipush 10, 2) := by decide +kernel
theorem dX0_handleState_8 : decode cX0_handleState 8 = .ok (.if_icmp .lt 5, 3) := by decide +kernel
theorem dX0_handleState_11 : decode cX0_handleState 11 = .ok (.iconst (-1), 1) := by decide +kernel
theorem dX0_handleState_12 : decode cX0_handleState 12 = .ok (.ireturn, 1) := by decide +kernel
theorem dX0_handleState_13 : decode cX0_handleState 13 = .ok (.iload_n 1, 1) := by decide +kernel
theorem dX0_handleState_14 : decode cX0_handleState 14 = .ok (.iconst 5, 1) := by decide +kernel
theorem dX0_handleState_15 : decode cX0_handleState 15 = .ok (.isub, 1) := by decide +kernel
theorem dX0_handleState_16 : decode cX0_handleState 16 = .ok (.istore_n 2, 1) := by decide +kernel
theorem dX0_handleState_17 : decode cX0_handleState 17 = .ok (.aload_n 0, 1) := by decide +kernel
theorem dX0_handleState_18 : decode cX0_handleState 18 = .ok (.getfield 9, 3) := by decide +kernel
theorem dX0_handleState_21 : decode cX0_handleState 21 = .ok (.iload_n 2, 1) := by decide +kernel
theorem dX0_handleState_22 : decode cX0_handleState 22 = .ok (.iaload, 1) := by decide +kernel
theorem dX0_handleState_23 : decode cX0_handleState 23 = .ok (.ifCond .ne 8, 3) := by decide +kernel
theorem dX0_handleState_26 : decode cX0_handleState 26 = .ok (.bipush (-2), 2) := by decide +kernel
theorem dX0_handleState_28 : decode cX0_handleState 28 = .ok (.goto 8, 3) := by decide +kernel
theorem dX0_handleState_31 : decode cX0_handleState 31 = .ok (.aload_n 0, 1) := by decide +kernel
theorem dX0_handleState_32 : decode cX0_handleState 32 = .ok (.iload_n 2, 1) := by decide +kernel
theorem dX0_handleState_33 : decode cX0_handleState 33 = .ok (.invokevirtual 90, 3) := by decide +kernel
theorem dX0_handleState_36 : decode cX0_handleState 36 = .ok (.ireturn, 1) := by decide +kernel
set_option maxRecDepth 20000 in
theorem ggX0_countEnded_X0_asNumber : GoodIn wsX0_countEnded wsX0_asNumber := goodIn_r _ [5] (by decide +kernel) (by decide +kernel)
set_option maxRecDepth 20000 in
theorem gX0_countEnded_X0_asNumber : GoodIn wsX0_countEnded (va_wsS RX0 78 yX0_asNumber wsX0_asNumber) := goodIn_app (goodIn_of _ (by decide +kernel)) ggX0_countEnded_X0_asNumber
theorem dX0_countEnded_0 : decode cX0_countEnded 0 = .ok (.iconst 0, 1) := by decide +kernel
theorem dX0_countEnded_1 : decode cX0_countEnded 1 = .ok (.istore_n 1, 1) := by decide +kernel
theorem dX0_countEnded_2 : decode cX0_countEnded 2 = .ok (.iconst 0, 1) := by decide +kernel
theorem dX0_countEnded_3 : decode cX0_countEnded 3 = .ok (.istore_n 2, 1) := by decide +kernel
theorem dX0_countEnded_4 : decode cX0_countEnded 4 = .ok (.iload_n 2, 1) := by decide +kernel
theorem dX0_countEnded_5 : decode cX0_countEnded 5 = .ok (.iconst 4, 1) := by decide +kernel
theorem dX0_countEnded_6 : decode cX0_countEnded 6 = .ok (.if_icmp .ge 21, 3) := by decide +kernel
theorem dX0_countEnded_9 : decode cX0_countEnded 9 = .ok (.iload_n 1, 1) := by decide +kernel
theorem dX0_countEnded_10 : decode cX0_countEnded 10 = .ok (.aload_n 0, 1) := by decide +kernel
theorem dX0_countEnded_11 : decode cX0_countEnded 11 = .ok (.getfield 17, 3) := by decide +kernel
theorem dX0_countEnded_14 : decode cX0_countEnded 14 = .ok (.iload_n 2, 1) := by decide +kernel
theorem dX0_countEnded_15 : decode cX0_countEnded 15 = .ok (.baload, 1) := by decide +kernel
theorem dX0_countEnded_16 : decode cX0_countEnded 16 = .ok (.invokestatic 78, 3) := by decide +kernel
theorem dX0_countEnded_19 : decode cX0_countEnded 19 = .ok (.iadd, 1) := by decide +kernel
theorem dX0_countEnded_20 : decode cX0_countEnded 20 = .ok (.istore_n 1, 1) := by decide +kernel
theorem dX0_countEnded_21 : decode cX0_countEnded 21 = .ok (.iinc 2 1, 3) := by decide +kernel
theorem dX0_countEnded_24 : decode cX0_countEnded 24 = .ok (.goto (-20), 3) := by decide +kernel
theorem dX0_countEnded_27 : decode cX0_countEnded 27 = .ok (.iload_n 1, 1) := by decide +kernel
theorem dX0_countEnded_28 : decode cX0_countEnded 28 = .ok (.ireturn, 1) := by decide +kernel
theorem dX0_opensBlock_0 : decode cX0_opensBlock 0 = .ok (.iload_n 0, 1) := by decide +kernel
theorem dX0_opensBlock_1 : decode cX0_opensBlock 1 = .ok (.iconst 1, 1) := by decide +kernel
theorem dX0_opensBlock_2 : decode cX0_opensBlock 2 = .ok (.if_icmp .eq 8, 3) := by decide +kernel
theorem dX0_opensBlock_5 : decode cX0_opensBlock 5 = .ok (.iload_n 0, 1) := by decide +kernel
theorem dX0_opensBlock_6 : decode cX0_opensBlock 6 = .ok (.iconst 2, 1) := by decide +kernel
theorem dX0_opensBlock_7 : decode cX0_opensBlock 7 = .ok (.if_icmp .ne 7, 3) := by decide +kernel
theorem dX0_opensBlock_10 : decode cX0_opensBlock 10 = .ok (.iconst 1, 1) := by decide +kernel
theorem dX0_opensBlock_11 : decode cX0_opensBlock 11 = .ok (.goto 4, 3) := by decide +kernel
theorem dX0_opensBlock_14 : decode cX0_opensBlock 14 = .ok (.iconst 0, 1) := by decide +kernel
theorem dX0_opensBlock_15 : decode cX0_opensBlock 15 = .ok (.ireturn, 1) := by decide +kernel
theorem dX0_asNumber_0 : decode cX0_asNumber 0 = .ok (.iload_n 0, 1) := by decide +kernel
theorem dX0_asNumber_1 : decode cX0_asNumber 1 = .ok (.ifCond .eq 7, 3) := by decide +kernel
theorem dX0_asNumber_4 : decode cX0_asNumber 4 = .ok (.iconst 1, 1) := by decide +kernel
theorem dX0_asNumber_5 : decode cX0_asNumber 5 = .ok (.goto 4, 3) := by decide +kernel
theorem dX0_asNumber_8 : decode cX0_asNumber 8 = .ok (.iconst 0, 1) := by decide +kernel
theorem dX0_asNumber_9 : decode cX0_asNumber 9 = .ok (.ireturn, 1) := by decide +kernel
theorem dX0_leastHandle_0 : decode cX0_leastHandle 0 = .ok (.iconst 0, 1) := by decide +kernel
theorem dX0_leastHandle_1 : decode cX0_leastHandle 1 = .ok (.istore_n 2, 1) := by decide +kernel
theorem dX0_leastHandle_2 : decode cX0_leastHandle 2 = .ok (.iload_n 2, 1) := by decide +kernel
theorem dX0_leastHandle_3 : decode cX0_leastHandle 3 = .ok (.iload_n 1, 1) := by decide +kernel
theorem dX0_leastHandle_4 : decode cX0_leastHandle 4 = .ok (.if_icmp .ge 26, 3) := by decide +kernel
theorem dX0_leastHandle_7 : decode cX0_leastHandle 7 = .ok (.aload_n 0, 1) := by decide +kernel
theorem dX0_leastHandle_8 : decode cX0_leastHandle 8 = .ok (.getfield 9, 3) := by decide +kernel
theorem dX0_leastHandle_11 : decode cX0_leastHandle 11 = .ok (.iload_n 2, 1) := by decide +kernel
theorem dX0_leastHandle_12 : decode cX0_leastHandle 12 = .ok (.iaload, 1) := by decide +kernel
theorem dX0_leastHandle_13 : decode cX0_leastHandle 13 = .ok (.aload_n 0, 1) := by decide +kernel
theorem dX0_leastHandle_14 : decode cX0_leastHandle 14 = .ok (.getfield 9, 3) := by decide +kernel
theorem dX0_leastHandle_17 : decode cX0_leastHandle 17 = .ok (.iload_n 1, 1) := by decide +kernel
theorem dX0_leastHandle_18 : decode cX0_leastHandle 18 = .ok (.iaload, 1) := by decide +kernel
theorem dX0_leastHandle_19 : decode cX0_leastHandle 19 = .ok (.if_icmp .ne 5, 3) := by decide +kernel
theorem dX0_leastHandle_22 : decode cX0_leastHandle 22 = .ok (.iload_n 2, 1) := by decide +kernel
theorem dX0_leastHandle_23 : decode cX0_leastHandle 23 = .ok (.ireturn, 1) := by decide +kernel
theorem dX0_leastHandle_24 : decode cX0_leastHandle 24 = .ok (.iinc 2 1, 3) := by decide +kernel
theorem dX0_leastHandle_27 : decode cX0_leastHandle 27 = .ok (.goto (-25), 3) := by decide +kernel
theorem dX0_leastHandle_30 : decode cX0_leastHandle 30 = .ok (.iload_n 1, 1) := by decide +kernel
theorem dX0_leastHandle_31 : decode cX0_leastHandle 31 = .ok (.ireturn, 1) := by decide +kernel
set_option maxRecDepth 20000 in
theorem ggX0_doStep_X0_perform : GoodIn wsX0_doStep wsX0_perform := goodIn_r _ [7, 8, 9, 10, 11, 12, 13, 14, 15, 16, 17, 18, 19, 20, 6, 21, 22, 23, 24, 25, 26, 27, 28, 29, 30, 31, 32, 33, 34, 35, 36, 37, 38, 39, 40, 41, 42, 43, 1, 44, 45, 46, 47, 48, 49, 50, 51, 52, 53, 54, 55, 56, 57, 58, 59, 60, 61, 62, 63, 64, 65, 66, 67, 68, 69, 70, 71, 72, 73, 74, 75, 84, 85, 86, 87, 88, 89, 90, 91, 92, 93, 94, 95, 96, 97, 98, 99, 100] (by decide +kernel) (by decide +kernel)
set_option maxRecDepth 20000 in
theorem gX0_doStep_X0_perform : GoodIn wsX0_doStep (wsV RX0 93 RX0 yX0_perform wsX0_perform) := goodIn_app (goodIn_of _ (by decide +kernel)) ggX0_doStep_X0_perform
set_option maxRecDepth 20000 in
theorem ggX0_doStep_X0_leaveBlocks : GoodIn wsX0_doStep wsX0_leaveBlocks := goodIn_r _ [79, 10, 1, 80, 81, 82, 2, 83, 22, 23, 24, 6, 25, 9, 26, 27, 28, 29, 8, 30, 14, 15, 16, 17, 31, 32, 33, 34, 35, 84, 85, 86, 87, 88, 89, 90, 91, 92, 93, 94, 95, 96, 97, 98, 99, 100] (by decide +kernel) (by decide +kernel)
set_option maxRecDepth 20000 in
theorem gX0_doStep_X0_leaveBlocks : GoodIn wsX0_doStep (wsV RX0 96 RX0 yX0_leaveBlocks wsX0_leaveBlocks) := goodIn_app (goodIn_of _ (by decide +kernel)) ggX0_doStep_X0_leaveBlocks
theorem dX0_doStep_0 : decode cX0_doStep 0 = .ok (.aload_n 0, 1) := by decide +kernel
theorem dX0_doStep_1 : decode cX0_doStep 1 = .ok (.iconst 0, 1) := by decide +kernel
theorem dX0_doStep_2 : decode cX0_doStep 2 = .ok (.putfield 58, 3) := by decide +kernel
theorem dX0_doStep_5 : decode cX0_doStep 5 = .ok (.aload_n 0, 1) := by decide +kernel
theorem dX0_doStep_6 : decode cX0_doStep 6 = .ok (.iload_n 1, 1) := by decide +kernel
theorem dX0_doStep_7 : decode cX0_doStep 7 = .ok (.invokevirtual 93, 3) := by decide +kernel
theorem dX0_doStep_10 : decode cX0_doStep 10 = .ok (.istore_n 2, 1) := by decide +kernel
theorem dX0_doStep_11 : decode cX0_doStep 11 = .ok (.aload_n 0, 1) := by decide +kernel
theorem dX0_doStep_12 : decode cX0_doStep 12 = .ok (.getfield 58, 3) := by decide +kernel
theorem dX0_doStep_15 : decode cX0_doStep 15 = .ok (.ifCond .ne 13, 3) := by decide +kernel
theorem dX0_doStep_18 : decode cX0_doStep 18 = .ok (.aload_n 0, 1) := by decide +kernel
theorem dX0_doStep_19 : decode cX0_doStep 19 = .ok (.getfield 49, 3) := by decide +kernel
theorem dX0_doStep_22 : decode cX0_doStep 22 = .ok (.iload_n 1, 1) := by decide +kernel
theorem dX0_doStep_23 : decode cX0_doStep 23 = .ok (.iload_n 2, 1) := by decide +kernel
theorem dX0_doStep_24 : decode cX0_doStep 24 = .ok (.iastore, 1) := by decide +kernel
theorem dX0_doStep_25 : decode cX0_doStep 25 = .ok (.goto 22, 3) := by decide +kernel
theorem dX0_doStep_28 : decode cX0_doStep 28 = .ok (.aload_n 0, 1) := by decide +kernel
theorem dX0_doStep_29 : decode cX0_doStep 29 = .ok (.getfield 49, 3) := by decide +kernel
theorem dX0_doStep_32 : decode cX0_doStep 32 = .ok (.iload_n 1, 1) := by decide +kernel
theorem dX0_doStep_33 : decode cX0_doStep 33 = .ok (.aload_n 0, 1) := by decide +kernel
theorem dX0_doStep_34 : decode cX0_doStep 34 = .ok (.getfield 58, 3) := by decide +kernel
theorem dX0_doStep_37 : decode cX0_doStep 37 = .ok (.sipush (-1000), 3) := by decide +kernel
theorem dX0_doStep_40 : decode cX0_doStep 40 = .ok (.iadd, 1) := by decide +kernel
theorem dX0_doStep_41 : decode cX0_doStep 41 = .ok (.iastore, 1) := by decide +kernel
theorem dX0_doStep_42 : decode cX0_doStep 42 = .ok (.aload_n 0, 1) := by decide +kernel
theorem dX0_doStep_43 : decode cX0_doStep 43 = .ok (.iload_n 1, 1) := by decide +kernel
theorem dX0_doStep_44 : decode cX0_doStep 44 = .ok (.invokevirtual 96, 3) := by decide +kernel
theorem dX0_doStep_47 : decode cX0_doStep 47 = .ok (.return_, 1) := by decide +kernel
set_option maxRecDepth 20000 in
theorem ggX0_perform_J9_floorMod_7cf53 : GoodIn wsX0_perform wsJ9_floorMod_7cf53 := goodIn_r _ [10] (by decide +kernel) (by decide +kernel)
set_option maxRecDepth 20000 in
theorem gX0_perform_J9_floorMod_7cf53 : GoodIn wsX0_perform (va_wsS RX0 99 yJ9_floorMod_7cf53 wsJ9_floorMod_7cf53) := goodIn_app (goodIn_of _ (by decide +kernel)) ggX0_perform_J9_floorMod_7cf53
set_option maxRecDepth 20000 in
theorem ggX0_perform_X0_endBlock : GoodIn wsX0_perform wsX0_endBlock := goodIn_r _ [15, 16, 17, 18, 14, 19, 2, 20, 21, 22, 23, 1, 24, 7, 8, 9, 10, 25, 26, 27, 28, 29, 71, 72, 73, 74, 75, 76, 77, 78, 79, 80, 81, 82, 83, 84, 85, 86, 87] (by decide +kernel) (by decide +kernel)
set_option maxRecDepth 20000 in
theorem gX0_perform_X0_endBlock : GoodIn wsX0_perform (wsV RX0 105 RX0 yX0_endBlock wsX0_endBlock) := goodIn_app (goodIn_of _ (by decide +kernel)) ggX0_perform_X0_endBlock
set_option maxRecDepth 20000 in
theorem ggX0_perform_X0_enter : GoodIn wsX0_perform wsX0_enter := goodIn_r _ [33, 29, 24, 34, 35, 36, 14, 37, 38, 25, 26, 27, 28, 71, 72, 73, 74, 75, 76, 77, 78, 79, 80, 81, 82, 83, 84, 85, 86, 87] (by decide +kernel) (by decide +kernel)
set_option maxRecDepth 20000 in
theorem gX0_perform_X0_enter : GoodIn wsX0_perform (wsV RX0 108 RX0 yX0_enter wsX0_enter) := goodIn_app (goodIn_of _ (by decide +kernel)) ggX0_perform_X0_enter
set_option maxRecDepth 20000 in
theorem ggX0_perform_X0_notifyWaiting : GoodIn wsX0_perform wsX0_notifyWaiting := goodIn_r _ [42, 29, 24, 34, 35, 36, 14, 37, 38, 25, 26, 27, 28, 71, 72, 73, 74, 75, 76, 77, 78, 79, 80, 81, 82, 83, 84, 85, 86, 87] (by decide +kernel) (by decide +kernel)
set_option maxRecDepth 20000 in
theorem gX0_perform_X0_notifyWaiting : GoodIn wsX0_perform (wsV RX0 111 RX0 yX0_notifyWaiting wsX0_notifyWaiting) := goodIn_app (goodIn_of _ (by decide +kernel)) ggX0_perform_X0_notifyWaiting
set_option maxRecDepth 20000 in
theorem ggX0_perform_X0_holdsLock : GoodIn wsX0_perform wsX0_holdsLock := goodIn_r _ [46, 29, 24, 34, 35, 36, 14, 37, 38, 25, 26, 27, 28, 47, 48, 49, 71, 72, 73, 74, 75, 76, 77, 78, 79, 80, 81, 82, 83, 84, 85, 86, 87] (by decide +kernel) (by decide +kernel)
set_option maxRecDepth 20000 in
theorem gX0_perform_X0_holdsLock : GoodIn wsX0_perform (wsV RX0 114 RX0 yX0_holdsLock wsX0_holdsLock) := goodIn_app (goodIn_of _ (by decide +kernel)) ggX0_perform_X0_holdsLock
set_option maxRecDepth 20000 in
theorem ggX0_perform_X0_awaitNotice : GoodIn wsX0_perform wsX0_awaitNotice := goodIn_r _ [53, 54, 55, 56, 57, 58, 29, 24, 34, 35, 36, 14, 37, 38, 25, 26, 27, 28, 59, 60, 61, 62, 4, 71, 72, 73, 74, 75, 76, 77, 78, 79, 80, 81, 82, 83, 84, 85, 86, 87] (by decide +kernel) (by decide +kernel)
set_option maxRecDepth 20000 in
theorem gX0_perform_X0_awaitNotice : GoodIn wsX0_perform (wsV RX0 117 RX0 yX0_awaitNotice wsX0_awaitNotice) := goodIn_app (goodIn_of _ (by decide +kernel)) ggX0_perform_X0_awaitNotice
set_option maxRecDepth 20000 in
theorem ggX0_perform_X0_takeFlag : GoodIn wsX0_perform wsX0_takeFlag := goodIn_r _ [62, 4, 71, 72, 73, 74, 75, 76, 77, 78, 79, 80, 81, 82, 83, 84, 85, 86, 87] (by decide +kernel) (by decide +kernel)
set_option maxRecDepth 20000 in
theorem gX0_perform_X0_takeFlag : GoodIn wsX0_perform (wsV RX0 120 RX0 yX0_takeFlag wsX0_takeFlag) := goodIn_app (goodIn_of _ (by decide +kernel)) ggX0_perform_X0_takeFlag
set_option maxRecDepth 20000 in
theorem ggX0_perform_X0_asNumber : GoodIn wsX0_perform wsX0_asNumber := goodIn_r _ [49] (by decide +kernel) (by decide +kernel)
set_option maxRecDepth 20000 in
theorem gX0_perform_X0_asNumber : GoodIn wsX0_perform (va_wsS RX0 78 yX0_asNumber wsX0_asNumber) := goodIn_app (goodIn_of _ (by decide +kernel)) ggX0_perform_X0_asNumber
set_option maxRecDepth 20000 in
theorem ggX0_perform_X0_sleep : GoodIn wsX0_perform wsX0_sleep := goodIn_r _ [66, 34, 35, 36, 14, 37, 38, 59, 60, 61, 62, 4, 71, 72, 73, 74, 75, 76, 77, 78, 79, 80, 81, 82, 83, 84, 85, 86, 87] (by decide +kernel) (by decide +kernel)
set_option maxRecDepth 20000 in
theorem gX0_perform_X0_sleep : GoodIn wsX0_perform (wsV RX0 124 RX0 yX0_sleep wsX0_sleep) := goodIn_app (goodIn_of _ (by decide +kernel)) ggX0_perform_X0_sleep
set_option maxRecDepth 20000 in
theorem ggX0_perform_X0_raise : GoodIn wsX0_perform wsX0_raise := goodIn_r _ [37, 38, 71, 72, 73, 74, 75, 76, 77, 78, 79, 80, 81, 82, 83, 84, 85, 86, 87] (by decide +kernel) (by decide +kernel)
set_option maxRecDepth 20000 in
theorem gX0_perform_X0_raise : GoodIn wsX0_perform (wsV RX0 127 RX0 yX0_raise wsX0_raise) := goodIn_app (goodIn_of _ (by decide +kernel)) ggX0_perform_X0_raise
set_option maxRecDepth 20000 in
theorem ggX0_perform_X0_start : GoodIn wsX0_perform wsX0_start := goodIn_r _ [70, 5, 6, 34, 35, 36, 14, 37, 38, 71, 72, 73, 74, 75, 76, 77, 78, 79, 80, 81, 82, 83, 84, 85, 86, 87] (by decide +kernel) (by decide +kernel)
set_option maxRecDepth 20000 in
theorem gX0_perform_X0_start : GoodIn wsX0_perform (wsV RX0 130 RX0 yX0_start wsX0_start) := goodIn_app (goodIn_of _ (by decide +kernel)) ggX0_perform_X0_start
theorem dX0_perform_0 : decode cX0_perform 0 = .ok (.aload_n 0, 1) := by decide +kernel
theorem dX0_perform_1 : decode cX0_perform 1 = .ok (.getfield 31, 3) := by decide +kernel
theorem dX0_perform_4 : decode cX0_perform 4 = .ok (.iload_n 1, 1) := by decide +kernel
theorem dX0_perform_5 : decode cX0_perform 5 = .ok (.iaload, 1) := by decide +kernel
theorem dX0_perform_6 : decode cX0_perform 6 = .ok (.istore_n 2, 1) := by decide +kernel
theorem dX0_perform_7 : decode cX0_perform 7 = .ok (.iload_n 2, 1) := by decide +kernel
theorem dX0_perform_8 : decode cX0_perform 8 = .ok (.iconst 5, 1) := by decide +kernel
theorem dX0_perform_9 : decode cX0_perform 9 = .ok (.invokestatic 99, 3) := by decide +kernel
theorem dX0_perform_12 : decode cX0_perform 12 = .ok (.istore_n 3, 1) := by decide +kernel
theorem dX0_perform_13 : decode cX0_perform 13 = .ok (.iload_n 2, 1) := by decide +kernel
theorem dX0_perform_14 : decode cX0_perform 14 = .ok (.iconst 4, 1) := by decide +kernel
theorem dX0_perform_15 : decode cX0_perform 15 = .ok (.invokestatic 99, 3) := by decide +kernel
theorem dX0_perform_18 : decode cX0_perform 18 = .ok (.istore 4, 2) := by decide +kernel
theorem dX0_perform_20 : decode cX0_perform 20 = .ok (.aload_n 0, 1) := by decide +kernel
theorem dX0_perform_21 : decode cX0_perform 21 = .ok (.getfield 28, 3) := by decide +kernel
theorem dX0_perform_24 : decode cX0_perform 24 = .ok (.iload_n 1, 1) := by decide +kernel
theorem dX0_perform_25 : decode cX0_perform 25 = .ok (.iaload, 1) := by decide +kernel
theorem dX0_perform_26 : decode cX0_perform 26 = .ok (.tableswitch 189 0 15 #[78, 89, 189, 95, 95, 101, 107, 113, 120, 128, 136, 142, 156, 163, 163, 174], 78) := by decide +kernel
theorem dX0_perform_104 : decode cX0_perform 104 = .ok (.aload_n 0, 1) := by decide +kernel
theorem dX0_perform_105 : decode cX0_perform 105 = .ok (.aload_n 0, 1) := by decide +kernel
theorem dX0_perform_106 : decode cX0_perform 106 = .ok (.getfield 34, 3) := by decide +kernel
theorem dX0_perform_109 : decode cX0_perform 109 = .ok (.iload_n 1, 1) := by decide +kernel
theorem dX0_perform_110 : decode cX0_perform 110 = .ok (.iaload, 1) := by decide +kernel
theorem dX0_perform_111 : decode cX0_perform 111 = .ok (.invokevirtual 105, 3) := by decide +kernel
theorem dX0_perform_114 : decode cX0_perform 114 = .ok (.ireturn, 1) := by decide +kernel
theorem dX0_perform_115 : decode cX0_perform 115 = .ok (.aload_n 0, 1) := by decide +kernel
theorem dX0_perform_116 : decode cX0_perform 116 = .ok (.iload_n 3, 1) := by decide +kernel
theorem dX0_perform_117 : decode cX0_perform 117 = .ok (.invokevirtual 108, 3) := by decide +kernel
theorem dX0_perform_120 : decode cX0_perform 120 = .ok (.ireturn, 1) := by decide +kernel
theorem dX0_perform_121 : decode cX0_perform 121 = .ok (.aload_n 0, 1) := by decide +kernel
theorem dX0_perform_122 : decode cX0_perform 122 = .ok (.iload_n 3, 1) := by decide +kernel
theorem dX0_perform_123 : decode cX0_perform 123 = .ok (.invokevirtual 111, 3) := by decide +kernel
theorem dX0_perform_126 : decode cX0_perform 126 = .ok (.ireturn, 1) := by decide +kernel
theorem dX0_perform_127 : decode cX0_perform 127 = .ok (.aload_n 0, 1) := by decide +kernel
theorem dX0_perform_128 : decode cX0_perform 128 = .ok (.iload_n 3, 1) := by decide +kernel
theorem dX0_perform_129 : decode cX0_perform 129 = .ok (.invokevirtual 114, 3) := by decide +kernel
theorem dX0_perform_132 : decode cX0_perform 132 = .ok (.ireturn, 1) := by decide +kernel
theorem dX0_perform_133 : decode cX0_perform 133 = .ok (.aload_n 0, 1) := by decide +kernel
theorem dX0_perform_134 : decode cX0_perform 134 = .ok (.iload_n 2, 1) := by decide +kernel
theorem dX0_perform_135 : decode cX0_perform 135 = .ok (.invokevirtual 117, 3) := by decide +kernel
theorem dX0_perform_138 : decode cX0_perform 138 = .ok (.ireturn, 1) := by decide +kernel
theorem dX0_perform_139 : decode cX0_perform 139 = .ok (.aload_n 0, 1) := by decide +kernel
theorem dX0_perform_140 : decode cX0_perform 140 = .ok (.iconst 1, 1) := by decide +kernel
theorem dX0_perform_141 : decode cX0_perform 141 = .ok (.putfield 24, 3) := by decide +kernel
theorem dX0_perform_144 : decode cX0_perform 144 = .ok (.iconst 0, 1) := by decide +kernel
theorem dX0_perform_145 : decode cX0_perform 145 = .ok (.ireturn, 1) := by decide +kernel
theorem dX0_perform_146 : decode cX0_perform 146 = .ok (.aload_n 0, 1) := by decide +kernel
theorem dX0_perform_147 : decode cX0_perform 147 = .ok (.invokevirtual 120, 3) := by decide +kernel
theorem dX0_perform_150 : decode cX0_perform 150 = .ok (.invokestatic 78, 3) := by decide +kernel
theorem dX0_perform_153 : decode cX0_perform 153 = .ok (.ireturn, 1) := by decide +kernel
theorem dX0_perform_154 : decode cX0_perform 154 = .ok (.aload_n 0, 1) := by decide +kernel
theorem dX0_perform_155 : decode cX0_perform 155 = .ok (.getfield 24, 3) := by decide +kernel
theorem dX0_perform_158 : decode cX0_perform 158 = .ok (.invokestatic 78, 3) := by decide +kernel
theorem dX0_perform_161 : decode cX0_perform 161 = .ok (.ireturn, 1) := by decide +kernel
theorem dX0_perform_162 : decode cX0_perform 162 = .ok (.aload_n 0, 1) := by decide +kernel
theorem dX0_perform_163 : decode cX0_perform 163 = .ok (.iload_n 2, 1) := by decide +kernel
theorem dX0_perform_164 : decode cX0_perform 164 = .ok (.invokevirtual 124, 3) := by decide +kernel
theorem dX0_perform_167 : decode cX0_perform 167 = .ok (.ireturn, 1) := by decide +kernel
theorem dX0_perform_168 : decode cX0_perform 168 = .ok (.aload_n 0, 1) := by decide +kernel
theorem dX0_perform_169 : decode cX0_perform 169 = .ok (.bipush 100, 2) := by decide +kernel
theorem dX0_perform_171 : decode cX0_perform 171 = .ok (.iload_n 2, 1) := by decide +kernel
theorem dX0_perform_172 : decode cX0_perform 172 = .ok (.bipush 100, 2) := by decide +kernel
theorem dX0_perform_174 : decode cX0_perform 174 = .ok (.invokestatic 99, 3) := by decide +kernel
theorem dX0_perform_177 : decode cX0_perform 177 = .ok (.iadd, 1) := by decide +kernel
theorem dX0_perform_178 : decode cX0_perform 178 = .ok (.invokevirtual 127, 3) := by decide +kernel
theorem dX0_perform_181 : decode cX0_perform 181 = .ok (.ireturn, 1) := by decide +kernel
theorem dX0_perform_182 : decode cX0_perform 182 = .ok (.aload_n 0, 1) := by decide +kernel
theorem dX0_perform_183 : decode cX0_perform 183 = .ok (.iload 4, 2) := by decide +kernel
theorem dX0_perform_185 : decode cX0_perform 185 = .ok (.invokevirtual 130, 3) := by decide +kernel
theorem dX0_perform_188 : decode cX0_perform 188 = .ok (.ireturn, 1) := by decide +kernel
theorem dX0_perform_189 : decode cX0_perform 189 = .ok (.aload_n 0, 1) := by decide +kernel
theorem dX0_perform_190 : decode cX0_perform 190 = .ok (.getfield 17, 3) := by decide +kernel
theorem dX0_perform_193 : decode cX0_perform 193 = .ok (.iload 4, 2) := by decide +kernel
theorem dX0_perform_195 : decode cX0_perform 195 = .ok (.baload, 1) := by decide +kernel
theorem dX0_perform_196 : decode cX0_perform 196 = .ok (.invokestatic 78, 3) := by decide +kernel
theorem dX0_perform_199 : decode cX0_perform 199 = .ok (.ireturn, 1) := by decide +kernel
theorem dX0_perform_200 : decode cX0_perform 200 = .ok (.aload_n 0, 1) := by decide +kernel
theorem dX0_perform_201 : decode cX0_perform 201 = .ok (.dup, 1) := by decide +kernel
theorem dX0_perform_202 : decode cX0_perform 202 = .ok (.getfield 21, 3) := by decide +kernel
theorem dX0_perform_205 : decode cX0_perform 205 = .ok (.iload_n 2, 1) := by decide +kernel
theorem dX0_perform_206 : decode cX0_perform 206 = .ok (.iadd, 1) := by decide +kernel
theorem dX0_perform_207 : decode cX0_perform 207 = .ok (.putfield 21, 3) := by decide +kernel
theorem dX0_perform_210 : decode cX0_perform 210 = .ok (.aload_n 0, 1) := by decide +kernel
theorem dX0_perform_211 : decode cX0_perform 211 = .ok (.getfield 21, 3) := by decide +kernel
theorem dX0_perform_214 : decode cX0_perform 214 = .ok (.ireturn, 1) := by decide +kernel
theorem dX0_perform_215 : decode cX0_perform 215 = .ok (.iconst 0, 1) := by decide +kernel
theorem dX0_perform_216 : decode cX0_perform 216 = .ok (.ireturn, 1) := by decide +kernel
theorem dX0_raise_0 : decode cX0_raise 0 = .ok (.aload_n 0, 1) := by decide +kernel
theorem dX0_raise_1 : decode cX0_raise 1 = .ok (.iload_n 1, 1) := by decide +kernel
theorem dX0_raise_2 : decode cX0_raise 2 = .ok (.putfield 58, 3) := by decide +kernel
theorem dX0_raise_5 : decode cX0_raise 5 = .ok (.iconst 0, 1) := by decide +kernel
theorem dX0_raise_6 : decode cX0_raise 6 = .ok (.ireturn, 1) := by decide +kernel
set_option maxRecDepth 20000 in
theorem ggX0_leaveBlocks_X0_isEnter : GoodIn wsX0_leaveBlocks wsX0_isEnter := goodIn_r _ [12, 13, 29, 30, 31, 32, 33, 34, 35, 36, 37, 38, 39, 40, 41, 42, 43, 44, 45] (by decide +kernel) (by decide +kernel)
set_option maxRecDepth 20000 in
theorem gX0_leaveBlocks_X0_isEnter : GoodIn wsX0_leaveBlocks (wsV RX0 133 RX0 yX0_isEnter wsX0_isEnter) := goodIn_app (goodIn_of _ (by decide +kernel)) ggX0_leaveBlocks_X0_isEnter
set_option maxRecDepth 20000 in
theorem ggX0_leaveBlocks_X0_giveBack : GoodIn wsX0_leaveBlocks wsX0_giveBack := goodIn_r _ [17, 18, 19, 20, 21, 22, 23, 24, 25, 26, 11, 27, 28, 29, 30, 31, 32, 33, 34, 35, 36, 37, 38, 39, 40, 41, 42, 43, 44, 45] (by decide +kernel) (by decide +kernel)
set_option maxRecDepth 20000 in
theorem gX0_leaveBlocks_X0_giveBack : GoodIn wsX0_leaveBlocks (wsV RX0 136 RX0 yX0_giveBack wsX0_giveBack) := goodIn_app (goodIn_of _ (by decide +kernel)) ggX0_leaveBlocks_X0_giveBack
theorem dX0_leaveBlocks_0 : decode cX0_leaveBlocks 0 = .ok (.aload_n 0, 1) := by decide +kernel
theorem dX0_leaveBlocks_1 : decode cX0_leaveBlocks 1 = .ok (.getfield 34, 3) := by decide +kernel
theorem dX0_leaveBlocks_4 : decode cX0_leaveBlocks 4 = .ok (.iload_n 1, 1) := by decide +kernel
theorem dX0_leaveBlocks_5 : decode cX0_leaveBlocks 5 = .ok (.iaload, 1) := by decide +kernel
theorem dX0_leaveBlocks_6 : decode cX0_leaveBlocks 6 = .ok (.istore_n 2, 1) := by decide +kernel
theorem dX0_leaveBlocks_7 : decode cX0_leaveBlocks 7 = .ok (.bipush 8, 2) := by decide +kernel
theorem dX0_leaveBlocks_9 : decode cX0_leaveBlocks 9 = .ok (.istore_n 3, 1) := by decide +kernel
theorem dX0_leaveBlocks_10 : decode cX0_leaveBlocks 10 = .ok (.iload_n 3, 1) := by decide +kernel
theorem dX0_leaveBlocks_11 : decode cX0_leaveBlocks 11 = .ok (.ifCond .le 30, 3) := by decide +kernel
theorem dX0_leaveBlocks_14 : decode cX0_leaveBlocks 14 = .ok (.aload_n 0, 1) := by decide +kernel
theorem dX0_leaveBlocks_15 : decode cX0_leaveBlocks 15 = .ok (.iload_n 2, 1) := by decide +kernel
theorem dX0_leaveBlocks_16 : decode cX0_leaveBlocks 16 = .ok (.invokevirtual 133, 3) := by decide +kernel
theorem dX0_leaveBlocks_19 : decode cX0_leaveBlocks 19 = .ok (.ifCond .eq 22, 3) := by decide +kernel
theorem dX0_leaveBlocks_22 : decode cX0_leaveBlocks 22 = .ok (.aload_n 0, 1) := by decide +kernel
theorem dX0_leaveBlocks_23 : decode cX0_leaveBlocks 23 = .ok (.iload_n 2, 1) := by decide +kernel
theorem dX0_leaveBlocks_24 : decode cX0_leaveBlocks 24 = .ok (.invokevirtual 136, 3) := by decide +kernel
theorem dX0_leaveBlocks_27 : decode cX0_leaveBlocks 27 = .ok (.pop, 1) := by decide +kernel
theorem dX0_leaveBlocks_28 : decode cX0_leaveBlocks 28 = .ok (.aload_n 0, 1) := by decide +kernel
theorem dX0_leaveBlocks_29 : decode cX0_leaveBlocks 29 = .ok (.getfield 34, 3) := by decide +kernel
theorem dX0_leaveBlocks_32 : decode cX0_leaveBlocks 32 = .ok (.iload_n 2, 1) := by decide +kernel
theorem dX0_leaveBlocks_33 : decode cX0_leaveBlocks 33 = .ok (.iaload, 1) := by decide +kernel
theorem dX0_leaveBlocks_34 : decode cX0_leaveBlocks 34 = .ok (.istore_n 2, 1) := by decide +kernel
theorem dX0_leaveBlocks_35 : decode cX0_leaveBlocks 35 = .ok (.iinc 3 (-1), 3) := by decide +kernel
theorem dX0_leaveBlocks_38 : decode cX0_leaveBlocks 38 = .ok (.goto (-28), 3) := by decide +kernel
theorem dX0_leaveBlocks_41 : decode cX0_leaveBlocks 41 = .ok (.iload_n 2, 1) := by decide +kernel
theorem dX0_leaveBlocks_42 : decode cX0_leaveBlocks 42 = .ok (.iconst (-1), 1) := by decide +kernel
theorem dX0_leaveBlocks_43 : decode cX0_leaveBlocks 43 = .ok (.if_icmp .ne 22, 3) := by decide +kernel
theorem dX0_leaveBlocks_46 : decode cX0_leaveBlocks 46 = .ok (.aload_n 0, 1) := by decide +kernel
theorem dX0_leaveBlocks_47 : decode cX0_leaveBlocks 47 = .ok (.aload_n 0, 1) := by decide +kernel
theorem dX0_leaveBlocks_48 : decode cX0_leaveBlocks 48 = .ok (.getfield 58, 3) := by decide +kernel
theorem dX0_leaveBlocks_51 : decode cX0_leaveBlocks 51 = .ok (.putfield 52, 3) := by decide +kernel
theorem dX0_leaveBlocks_54 : decode cX0_leaveBlocks 54 = .ok (.aload_n 0, 1) := by decide +kernel
theorem dX0_leaveBlocks_55 : decode cX0_leaveBlocks 55 = .ok (.aload_n 0, 1) := by decide +kernel
theorem dX0_leaveBlocks_56 : decode cX0_leaveBlocks 56 = .ok (.getfield 40, 3) := by decide +kernel
theorem dX0_leaveBlocks_59 : decode cX0_leaveBlocks 59 = .ok (.putfield 61, 3) := by decide +kernel
theorem dX0_leaveBlocks_62 : decode cX0_leaveBlocks 62 = .ok (.goto 25, 3) := by decide +kernel
theorem dX0_leaveBlocks_65 : decode cX0_leaveBlocks 65 = .ok (.aload_n 0, 1) := by decide +kernel
theorem dX0_leaveBlocks_66 : decode cX0_leaveBlocks 66 = .ok (.getfield 49, 3) := by decide +kernel
theorem dX0_leaveBlocks_69 : decode cX0_leaveBlocks 69 = .ok (.iload_n 2, 1) := by decide +kernel
theorem dX0_leaveBlocks_70 : decode cX0_leaveBlocks 70 = .ok (.aload_n 0, 1) := by decide +kernel
theorem dX0_leaveBlocks_71 : decode cX0_leaveBlocks 71 = .ok (.getfield 58, 3) := by decide +kernel
theorem dX0_leaveBlocks_74 : decode cX0_leaveBlocks 74 = .ok (.iastore, 1) := by decide +kernel
theorem dX0_leaveBlocks_75 : decode cX0_leaveBlocks 75 = .ok (.aload_n 0, 1) := by decide +kernel
theorem dX0_leaveBlocks_76 : decode cX0_leaveBlocks 76 = .ok (.aload_n 0, 1) := by decide +kernel
theorem dX0_leaveBlocks_77 : decode cX0_leaveBlocks 77 = .ok (.getfield 37, 3) := by decide +kernel
theorem dX0_leaveBlocks_80 : decode cX0_leaveBlocks 80 = .ok (.iload_n 2, 1) := by decide +kernel
theorem dX0_leaveBlocks_81 : decode cX0_leaveBlocks 81 = .ok (.iaload, 1) := by decide +kernel
theorem dX0_leaveBlocks_82 : decode cX0_leaveBlocks 82 = .ok (.iconst 1, 1) := by decide +kernel
theorem dX0_leaveBlocks_83 : decode cX0_leaveBlocks 83 = .ok (.iadd, 1) := by decide +kernel
theorem dX0_leaveBlocks_84 : decode cX0_leaveBlocks 84 = .ok (.putfield 61, 3) := by decide +kernel
theorem dX0_leaveBlocks_87 : decode cX0_leaveBlocks 87 = .ok (.return_, 1) := by decide +kernel
set_option maxRecDepth 20000 in
theorem ggX0_endBlock_X0_isEnter : GoodIn wsX0_endBlock wsX0_isEnter := goodIn_r _ [5, 6, 22, 23, 24, 25, 26, 27, 28, 29, 30, 31, 32, 33, 34, 35, 36, 37, 38] (by decide +kernel) (by decide +kernel)
set_option maxRecDepth 20000 in
theorem gX0_endBlock_X0_isEnter : GoodIn wsX0_endBlock (wsV RX0 133 RX0 yX0_isEnter wsX0_isEnter) := goodIn_app (goodIn_of _ (by decide +kernel)) ggX0_endBlock_X0_isEnter
set_option maxRecDepth 20000 in
theorem ggX0_endBlock_X0_giveBack : GoodIn wsX0_endBlock wsX0_giveBack := goodIn_r _ [10, 11, 12, 13, 14, 15, 16, 17, 18, 19, 4, 20, 21, 22, 23, 24, 25, 26, 27, 28, 29, 30, 31, 32, 33, 34, 35, 36, 37, 38] (by decide +kernel) (by decide +kernel)
set_option maxRecDepth 20000 in
theorem gX0_endBlock_X0_giveBack : GoodIn wsX0_endBlock (wsV RX0 136 RX0 yX0_giveBack wsX0_giveBack) := goodIn_app (goodIn_of _ (by decide +kernel)) ggX0_endBlock_X0_giveBack
theorem dX0_endBlock_0 : decode cX0_endBlock 0 = .ok (.aload_n 0, 1) := by decide +kernel
theorem dX0_endBlock_1 : decode cX0_endBlock 1 = .ok (.iload_n 1, 1) := by decide +kernel
theorem dX0_endBlock_2 : decode cX0_endBlock 2 = .ok (.invokevirtual 133, 3) := by decide +kernel
theorem dX0_endBlock_5 : decode cX0_endBlock 5 = .ok (.ifCond .eq 11, 3) := by decide +kernel
theorem dX0_endBlock_8 : decode cX0_endBlock 8 = .ok (.aload_n 0, 1) := by decide +kernel
theorem dX0_endBlock_9 : decode cX0_endBlock 9 = .ok (.iload_n 1, 1) := by decide +kernel
theorem dX0_endBlock_10 : decode cX0_endBlock 10 = .ok (.invokevirtual 136, 3) := by decide +kernel
theorem dX0_endBlock_13 : decode cX0_endBlock 13 = .ok (.goto 4, 3) := by decide +kernel
theorem dX0_endBlock_16 : decode cX0_endBlock 16 = .ok (.iconst 0, 1) := by decide +kernel
theorem dX0_endBlock_17 : decode cX0_endBlock 17 = .ok (.ireturn, 1) := by decide +kernel
theorem dX0_isEnter_0 : decode cX0_isEnter 0 = .ok (.iload_n 1, 1) := by decide +kernel
theorem dX0_isEnter_1 : decode cX0_isEnter 1 = .ok (.iconst (-1), 1) := by decide +kernel
theorem dX0_isEnter_2 : decode cX0_isEnter 2 = .ok (.if_icmp .eq 17, 3) := by decide +kernel
theorem dX0_isEnter_5 : decode cX0_isEnter 5 = .ok (.aload_n 0, 1) := by decide +kernel
theorem dX0_isEnter_6 : decode cX0_isEnter 6 = .ok (.getfield 28, 3) := by decide +kernel
theorem dX0_isEnter_9 : decode cX0_isEnter 9 = .ok (.iload_n 1, 1) := by decide +kernel
theorem dX0_isEnter_10 : decode cX0_isEnter 10 = .ok (.iaload, 1) := by decide +kernel
theorem dX0_isEnter_11 : decode cX0_isEnter 11 = .ok (.iconst 1, 1) := by decide +kernel
theorem dX0_isEnter_12 : decode cX0_isEnter 12 = .ok (.if_icmp .ne 7, 3) := by decide +kernel
theorem dX0_isEnter_15 : decode cX0_isEnter 15 = .ok (.iconst 1, 1) := by decide +kernel
theorem dX0_isEnter_16 : decode cX0_isEnter 16 = .ok (.goto 4, 3) := by decide +kernel
theorem dX0_isEnter_19 : decode cX0_isEnter 19 = .ok (.iconst 0, 1) := by decide +kernel
theorem dX0_isEnter_20 : decode cX0_isEnter 20 = .ok (.ireturn, 1) := by decide +kernel
set_option maxRecDepth 20000 in
theorem ggX0_giveBack_J9_floorMod_7cf53 : GoodIn wsX0_giveBack wsJ9_floorMod_7cf53 := goodIn_r _ [6] (by decide +kernel) (by decide +kernel)
set_option maxRecDepth 20000 in
theorem gX0_giveBack_J9_floorMod_7cf53 : GoodIn wsX0_giveBack (va_wsS RX0 99 yJ9_floorMod_7cf53 wsJ9_floorMod_7cf53) := goodIn_app (goodIn_of _ (by decide +kernel)) ggX0_giveBack_J9_floorMod_7cf53
set_option maxRecDepth 20000 in
theorem ggX0_giveBack_X0_leastHandle : GoodIn wsX0_giveBack wsX0_leastHandle := goodIn_r _ [11, 12, 13, 14, 15, 16, 17, 18, 19, 20, 21, 22, 23, 24, 25, 26, 27, 28, 29] (by decide +kernel) (by decide +kernel)
set_option maxRecDepth 20000 in
theorem gX0_giveBack_X0_leastHandle : GoodIn wsX0_giveBack (wsV RX0 90 RX0 yX0_leastHandle wsX0_leastHandle) := goodIn_app (goodIn_of _ (by decide +kernel)) ggX0_giveBack_X0_leastHandle
theorem dX0_giveBack_0 : decode cX0_giveBack 0 = .ok (.aload_n 0, 1) := by decide +kernel
theorem dX0_giveBack_1 : decode cX0_giveBack 1 = .ok (.aload_n 0, 1) := by decide +kernel
theorem dX0_giveBack_2 : decode cX0_giveBack 2 = .ok (.getfield 31, 3) := by decide +kernel
theorem dX0_giveBack_5 : decode cX0_giveBack 5 = .ok (.iload_n 1, 1) := by decide +kernel
theorem dX0_giveBack_6 : decode cX0_giveBack 6 = .ok (.iaload, 1) := by decide +kernel
theorem dX0_giveBack_7 : decode cX0_giveBack 7 = .ok (.iconst 5, 1) := by decide +kernel
theorem dX0_giveBack_8 : decode cX0_giveBack 8 = .ok (.invokestatic 99, 3) := by decide +kernel
theorem dX0_giveBack_11 : decode cX0_giveBack 11 = .ok (.invokevirtual 90, 3) := by decide +kernel
theorem dX0_giveBack_14 : decode cX0_giveBack 14 = .ok (.istore_n 2, 1) := by decide +kernel
theorem dX0_giveBack_15 : decode cX0_giveBack 15 = .ok (.aload_n 0, 1) := by decide +kernel
theorem dX0_giveBack_16 : decode cX0_giveBack 16 = .ok (.getfield 55, 3) := by decide +kernel
theorem dX0_giveBack_19 : decode cX0_giveBack 19 = .ok (.iload_n 2, 1) := by decide +kernel
theorem dX0_giveBack_20 : decode cX0_giveBack 20 = .ok (.dup2, 1) := by decide +kernel
theorem dX0_giveBack_21 : decode cX0_giveBack 21 = .ok (.iaload, 1) := by decide +kernel
theorem dX0_giveBack_22 : decode cX0_giveBack 22 = .ok (.iconst 1, 1) := by decide +kernel
theorem dX0_giveBack_23 : decode cX0_giveBack 23 = .ok (.isub, 1) := by decide +kernel
theorem dX0_giveBack_24 : decode cX0_giveBack 24 = .ok (.iastore, 1) := by decide +kernel
theorem dX0_giveBack_25 : decode cX0_giveBack 25 = .ok (.aload_n 0, 1) := by decide +kernel
theorem dX0_giveBack_26 : decode cX0_giveBack 26 = .ok (.getfield 55, 3) := by decide +kernel
theorem dX0_giveBack_29 : decode cX0_giveBack 29 = .ok (.iload_n 2, 1) := by decide +kernel
theorem dX0_giveBack_30 : decode cX0_giveBack 30 = .ok (.iaload, 1) := by decide +kernel
theorem dX0_giveBack_31 : decode cX0_giveBack 31 = .ok (.ireturn, 1) := by decide +kernel
set_option maxRecDepth 20000 in
theorem ggX0_enter_X0_raise : GoodIn wsX0_enter wsX0_raise := goodIn_r _ [7, 8, 13, 14, 15, 16, 17, 18, 19, 20, 21, 22, 23, 24, 25, 26, 27, 28, 29] (by decide +kernel) (by decide +kernel)
set_option maxRecDepth 20000 in
theorem gX0_enter_X0_raise : GoodIn wsX0_enter (wsV RX0 127 RX0 yX0_raise wsX0_raise) := goodIn_app (goodIn_of _ (by decide +kernel)) ggX0_enter_X0_raise
set_option maxRecDepth 20000 in
theorem ggX0_enter_X0_leastHandle : GoodIn wsX0_enter wsX0_leastHandle := goodIn_r _ [12, 1, 13, 14, 15, 16, 17, 18, 19, 20, 21, 22, 23, 24, 25, 26, 27, 28, 29] (by decide +kernel) (by decide +kernel)
set_option maxRecDepth 20000 in
theorem gX0_enter_X0_leastHandle : GoodIn wsX0_enter (wsV RX0 90 RX0 yX0_leastHandle wsX0_leastHandle) := goodIn_app (goodIn_of _ (by decide +kernel)) ggX0_enter_X0_leastHandle
theorem dX0_enter_0 : decode cX0_enter 0 = .ok (.aload_n 0, 1) := by decide +kernel
theorem dX0_enter_1 : decode cX0_enter 1 = .ok (.getfield 9, 3) := by decide +kernel
theorem dX0_enter_4 : decode cX0_enter 4 = .ok (.iload_n 1, 1) := by decide +kernel
theorem dX0_enter_5 : decode cX0_enter 5 = .ok (.iaload, 1) := by decide +kernel
theorem dX0_enter_6 : decode cX0_enter 6 = .ok (.ifCond .ne 9, 3) := by decide +kernel
theorem dX0_enter_9 : decode cX0_enter 9 = .ok (.aload_n 0, 1) := by decide +kernel
theorem dX0_enter_10 : decode cX0_enter 10 = .ok (.iconst 1, 1) := by decide +kernel
theorem dX0_enter_11 : decode cX0_enter 11 = .ok (.invokevirtual 127, 3) := by decide +kernel
theorem dX0_enter_14 : decode cX0_enter 14 = .ok (.ireturn, 1) := by decide +kernel
theorem dX0_enter_15 : decode cX0_enter 15 = .ok (.aload_n 0, 1) := by decide +kernel
theorem dX0_enter_16 : decode cX0_enter 16 = .ok (.iload_n 1, 1) := by decide +kernel
theorem dX0_enter_17 : decode cX0_enter 17 = .ok (.invokevirtual 90, 3) := by decide +kernel
theorem dX0_enter_20 : decode cX0_enter 20 = .ok (.istore_n 2, 1) := by decide +kernel
theorem dX0_enter_21 : decode cX0_enter 21 = .ok (.aload_n 0, 1) := by decide +kernel
theorem dX0_enter_22 : decode cX0_enter 22 = .ok (.getfield 55, 3) := by decide +kernel
theorem dX0_enter_25 : decode cX0_enter 25 = .ok (.iload_n 2, 1) := by decide +kernel
theorem dX0_enter_26 : decode cX0_enter 26 = .ok (.dup2, 1) := by decide +kernel
theorem dX0_enter_27 : decode cX0_enter 27 = .ok (.iaload, 1) := by decide +kernel
theorem dX0_enter_28 : decode cX0_enter 28 = .ok (.iconst 1, 1) := by decide +kernel
theorem dX0_enter_29 : decode cX0_enter 29 = .ok (.iadd, 1) := by decide +kernel
theorem dX0_enter_30 : decode cX0_enter 30 = .ok (.iastore, 1) := by decide +kernel
theorem dX0_enter_31 : decode cX0_enter 31 = .ok (.aload_n 0, 1) := by decide +kernel
theorem dX0_enter_32 : decode cX0_enter 32 = .ok (.getfield 55, 3) := by decide +kernel
theorem dX0_enter_35 : decode cX0_enter 35 = .ok (.iload_n 2, 1) := by decide +kernel
theorem dX0_enter_36 : decode cX0_enter 36 = .ok (.iaload, 1) := by decide +kernel
theorem dX0_enter_37 : decode cX0_enter 37 = .ok (.ireturn, 1) := by decide +kernel
set_option maxRecDepth 20000 in
theorem ggX0_notifyWaiting_X0_raise : GoodIn wsX0_notifyWaiting wsX0_raise := goodIn_r _ [7, 8, 13, 14, 15, 16, 17, 18, 19, 20, 21, 22, 23, 24, 25, 26, 27, 28, 29] (by decide +kernel) (by decide +kernel)
set_option maxRecDepth 20000 in
theorem gX0_notifyWaiting_X0_raise : GoodIn wsX0_notifyWaiting (wsV RX0 127 RX0 yX0_raise wsX0_raise) := goodIn_app (goodIn_of _ (by decide +kernel)) ggX0_notifyWaiting_X0_raise
set_option maxRecDepth 20000 in
theorem ggX0_notifyWaiting_X0_leastHandle : GoodIn wsX0_notifyWaiting wsX0_leastHandle := goodIn_r _ [12, 1, 13, 14, 15, 16, 17, 18, 19, 20, 21, 22, 23, 24, 25, 26, 27, 28, 29] (by decide +kernel) (by decide +kernel)
set_option maxRecDepth 20000 in
theorem gX0_notifyWaiting_X0_leastHandle : GoodIn wsX0_notifyWaiting (wsV RX0 90 RX0 yX0_leastHandle wsX0_leastHandle) := goodIn_app (goodIn_of _ (by decide +kernel)) ggX0_notifyWaiting_X0_leastHandle
theorem dX0_notifyWaiting_0 : decode cX0_notifyWaiting 0 = .ok (.aload_n 0, 1) := by decide +kernel
theorem dX0_notifyWaiting_1 : decode cX0_notifyWaiting 1 = .ok (.getfield 9, 3) := by decide +kernel
theorem dX0_notifyWaiting_4 : decode cX0_notifyWaiting 4 = .ok (.iload_n 1, 1) := by decide +kernel
theorem dX0_notifyWaiting_5 : decode cX0_notifyWaiting 5 = .ok (.iaload, 1) := by decide +kernel
theorem dX0_notifyWaiting_6 : decode cX0_notifyWaiting 6 = .ok (.ifCond .ne 9, 3) := by decide +kernel
theorem dX0_notifyWaiting_9 : decode cX0_notifyWaiting 9 = .ok (.aload_n 0, 1) := by decide +kernel
theorem dX0_notifyWaiting_10 : decode cX0_notifyWaiting 10 = .ok (.iconst 1, 1) := by decide +kernel
theorem dX0_notifyWaiting_11 : decode cX0_notifyWaiting 11 = .ok (.invokevirtual 127, 3) := by decide +kernel
theorem dX0_notifyWaiting_14 : decode cX0_notifyWaiting 14 = .ok (.ireturn, 1) := by decide +kernel
theorem dX0_notifyWaiting_15 : decode cX0_notifyWaiting 15 = .ok (.aload_n 0, 1) := by decide +kernel
theorem dX0_notifyWaiting_16 : decode cX0_notifyWaiting 16 = .ok (.getfield 55, 3) := by decide +kernel
theorem dX0_notifyWaiting_19 : decode cX0_notifyWaiting 19 = .ok (.aload_n 0, 1) := by decide +kernel
theorem dX0_notifyWaiting_20 : decode cX0_notifyWaiting 20 = .ok (.iload_n 1, 1) := by decide +kernel
theorem dX0_notifyWaiting_21 : decode cX0_notifyWaiting 21 = .ok (.invokevirtual 90, 3) := by decide +kernel
theorem dX0_notifyWaiting_24 : decode cX0_notifyWaiting 24 = .ok (.iaload, 1) := by decide +kernel
theorem dX0_notifyWaiting_25 : decode cX0_notifyWaiting 25 = .ok (.ifCond .ne 9, 3) := by decide +kernel
theorem dX0_notifyWaiting_28 : decode cX0_notifyWaiting 28 = .ok (.aload_n 0, 1) := by decide +kernel
theorem dX0_notifyWaiting_29 : decode cX0_notifyWaiting 29 = .ok (.iconst 2, 1) := by decide +kernel
theorem dX0_notifyWaiting_30 : decode cX0_notifyWaiting 30 = .ok (.invokevirtual 127, 3) := by decide +kernel
theorem dX0_notifyWaiting_33 : decode cX0_notifyWaiting 33 = .ok (.ireturn, 1) := by decide +kernel
theorem dX0_notifyWaiting_34 : decode cX0_notifyWaiting 34 = .ok (.iconst 0, 1) := by decide +kernel
theorem dX0_notifyWaiting_35 : decode cX0_notifyWaiting 35 = .ok (.ireturn, 1) := by decide +kernel
set_option maxRecDepth 20000 in
theorem ggX0_holdsLock_X0_raise : GoodIn wsX0_holdsLock wsX0_raise := goodIn_r _ [7, 8, 16, 17, 18, 19, 20, 21, 22, 23, 24, 25, 26, 27, 28, 29, 30, 31, 32] (by decide +kernel) (by decide +kernel)
set_option maxRecDepth 20000 in
theorem gX0_holdsLock_X0_raise : GoodIn wsX0_holdsLock (wsV RX0 127 RX0 yX0_raise wsX0_raise) := goodIn_app (goodIn_of _ (by decide +kernel)) ggX0_holdsLock_X0_raise
set_option maxRecDepth 20000 in
theorem ggX0_holdsLock_X0_leastHandle : GoodIn wsX0_holdsLock wsX0_leastHandle := goodIn_r _ [12, 1, 16, 17, 18, 19, 20, 21, 22, 23, 24, 25, 26, 27, 28, 29, 30, 31, 32] (by decide +kernel) (by decide +kernel)
set_option maxRecDepth 20000 in
theorem gX0_holdsLock_X0_leastHandle : GoodIn wsX0_holdsLock (wsV RX0 90 RX0 yX0_leastHandle wsX0_leastHandle) := goodIn_app (goodIn_of _ (by decide +kernel)) ggX0_holdsLock_X0_leastHandle
set_option maxRecDepth 20000 in
theorem ggX0_holdsLock_X0_asNumber : GoodIn wsX0_holdsLock wsX0_asNumber := goodIn_r _ [15] (by decide +kernel) (by decide +kernel)
set_option maxRecDepth 20000 in
theorem gX0_holdsLock_X0_asNumber : GoodIn wsX0_holdsLock (va_wsS RX0 78 yX0_asNumber wsX0_asNumber) := goodIn_app (goodIn_of _ (by decide +kernel)) ggX0_holdsLock_X0_asNumber
theorem dX0_holdsLock_0 : decode cX0_holdsLock 0 = .ok (.aload_n 0, 1) := by decide +kernel
theorem dX0_holdsLock_1 : decode cX0_holdsLock 1 = .ok (.getfield 9, 3) := by decide +kernel
theorem dX0_holdsLock_4 : decode cX0_holdsLock 4 = .ok (.iload_n 1, 1) := by decide +kernel
theorem dX0_holdsLock_5 : decode cX0_holdsLock 5 = .ok (.iaload, 1) := by decide +kernel
theorem dX0_holdsLock_6 : decode cX0_holdsLock 6 = .ok (.ifCond .ne 9, 3) := by decide +kernel
theorem dX0_holdsLock_9 : decode cX0_holdsLock 9 = .ok (.aload_n 0, 1) := by decide +kernel
theorem dX0_holdsLock_10 : decode cX0_holdsLock 10 = .ok (.iconst 1, 1) := by decide +kernel
theorem dX0_holdsLock_11 : decode cX0_holdsLock 11 = .ok (.invokevirtual 127, 3) := by decide +kernel
theorem dX0_holdsLock_14 : decode cX0_holdsLock 14 = .ok (.ireturn, 1) := by decide +kernel
theorem dX0_holdsLock_15 : decode cX0_holdsLock 15 = .ok (.aload_n 0, 1) := by decide +kernel
theorem dX0_holdsLock_16 : decode cX0_holdsLock 16 = .ok (.getfield 55, 3) := by decide +kernel
theorem dX0_holdsLock_19 : decode cX0_holdsLock 19 = .ok (.aload_n 0, 1) := by decide +kernel
theorem dX0_holdsLock_20 : decode cX0_holdsLock 20 = .ok (.iload_n 1, 1) := by decide +kernel
theorem dX0_holdsLock_21 : decode cX0_holdsLock 21 = .ok (.invokevirtual 90, 3) := by decide +kernel
theorem dX0_holdsLock_24 : decode cX0_holdsLock 24 = .ok (.iaload, 1) := by decide +kernel
theorem dX0_holdsLock_25 : decode cX0_holdsLock 25 = .ok (.ifCond .le 7, 3) := by decide +kernel
theorem dX0_holdsLock_28 : decode cX0_holdsLock 28 = .ok (.iconst 1, 1) := by decide +kernel
theorem dX0_holdsLock_29 : decode cX0_holdsLock 29 = .ok (.goto 4, 3) := by decide +kernel
theorem dX0_holdsLock_32 : decode cX0_holdsLock 32 = .ok (.iconst 0, 1) := by decide +kernel
theorem dX0_holdsLock_33 : decode cX0_holdsLock 33 = .ok (.invokestatic 78, 3) := by decide +kernel
theorem dX0_holdsLock_36 : decode cX0_holdsLock 36 = .ok (.ireturn, 1) := by decide +kernel
set_option maxRecDepth 20000 in
theorem ggX0_awaitNotice_X0_raise : GoodIn wsX0_awaitNotice wsX0_raise := goodIn_r _ [12, 13, 23, 24, 25, 26, 27, 28, 29, 30, 31, 32, 33, 34, 35, 36, 37, 38, 39] (by decide +kernel) (by decide +kernel)
set_option maxRecDepth 20000 in
theorem gX0_awaitNotice_X0_raise : GoodIn wsX0_awaitNotice (wsV RX0 127 RX0 yX0_raise wsX0_raise) := goodIn_app (goodIn_of _ (by decide +kernel)) ggX0_awaitNotice_X0_raise
set_option maxRecDepth 20000 in
theorem ggX0_awaitNotice_X0_leastHandle : GoodIn wsX0_awaitNotice wsX0_leastHandle := goodIn_r _ [17, 6, 23, 24, 25, 26, 27, 28, 29, 30, 31, 32, 33, 34, 35, 36, 37, 38, 39] (by decide +kernel) (by decide +kernel)
set_option maxRecDepth 20000 in
theorem gX0_awaitNotice_X0_leastHandle : GoodIn wsX0_awaitNotice (wsV RX0 90 RX0 yX0_leastHandle wsX0_leastHandle) := goodIn_app (goodIn_of _ (by decide +kernel)) ggX0_awaitNotice_X0_leastHandle
set_option maxRecDepth 20000 in
theorem ggX0_awaitNotice_X0_takeFlag : GoodIn wsX0_awaitNotice wsX0_takeFlag := goodIn_r _ [21, 22, 23, 24, 25, 26, 27, 28, 29, 30, 31, 32, 33, 34, 35, 36, 37, 38, 39] (by decide +kernel) (by decide +kernel)
set_option maxRecDepth 20000 in
theorem gX0_awaitNotice_X0_takeFlag : GoodIn wsX0_awaitNotice (wsV RX0 120 RX0 yX0_takeFlag wsX0_takeFlag) := goodIn_app (goodIn_of _ (by decide +kernel)) ggX0_awaitNotice_X0_takeFlag
theorem dX0_awaitNotice_0 : decode cX0_awaitNotice 0 = .ok (.iload_n 1, 1) := by decide +kernel
theorem dX0_awaitNotice_1 : decode cX0_awaitNotice 1 = .ok (.ldc 141, 2) := by decide +kernel
theorem dX0_awaitNotice_3 : decode cX0_awaitNotice 3 = .ok (.if_icmp .ne 7, 3) := by decide +kernel
theorem dX0_awaitNotice_6 : decode cX0_awaitNotice 6 = .ok (.iconst 0, 1) := by decide +kernel
theorem dX0_awaitNotice_7 : decode cX0_awaitNotice 7 = .ok (.goto 9, 3) := by decide +kernel
theorem dX0_awaitNotice_10 : decode cX0_awaitNotice 10 = .ok (.iload_n 1, 1) := by decide +kernel
theorem dX0_awaitNotice_11 : decode cX0_awaitNotice 11 = .ok (.invokestatic 142, 3) := by decide +kernel
theorem dX0_awaitNotice_14 : decode cX0_awaitNotice 14 = .ok (.iconst 5, 1) := by decide +kernel
theorem dX0_awaitNotice_15 : decode cX0_awaitNotice 15 = .ok (.irem, 1) := by decide +kernel
theorem dX0_awaitNotice_16 : decode cX0_awaitNotice 16 = .ok (.istore_n 2, 1) := by decide +kernel
theorem dX0_awaitNotice_17 : decode cX0_awaitNotice 17 = .ok (.aload_n 0, 1) := by decide +kernel
theorem dX0_awaitNotice_18 : decode cX0_awaitNotice 18 = .ok (.getfield 9, 3) := by decide +kernel
theorem dX0_awaitNotice_21 : decode cX0_awaitNotice 21 = .ok (.iload_n 2, 1) := by decide +kernel
theorem dX0_awaitNotice_22 : decode cX0_awaitNotice 22 = .ok (.iaload, 1) := by decide +kernel
theorem dX0_awaitNotice_23 : decode cX0_awaitNotice 23 = .ok (.ifCond .ne 9, 3) := by decide +kernel
theorem dX0_awaitNotice_26 : decode cX0_awaitNotice 26 = .ok (.aload_n 0, 1) := by decide +kernel
theorem dX0_awaitNotice_27 : decode cX0_awaitNotice 27 = .ok (.iconst 1, 1) := by decide +kernel
theorem dX0_awaitNotice_28 : decode cX0_awaitNotice 28 = .ok (.invokevirtual 127, 3) := by decide +kernel
theorem dX0_awaitNotice_31 : decode cX0_awaitNotice 31 = .ok (.ireturn, 1) := by decide +kernel
theorem dX0_awaitNotice_32 : decode cX0_awaitNotice 32 = .ok (.iload_n 1, 1) := by decide +kernel
theorem dX0_awaitNotice_33 : decode cX0_awaitNotice 33 = .ok (.ifCond .ge 9, 3) := by decide +kernel
theorem dX0_awaitNotice_36 : decode cX0_awaitNotice 36 = .ok (.aload_n 0, 1) := by decide +kernel
theorem dX0_awaitNotice_37 : decode cX0_awaitNotice 37 = .ok (.iconst 3, 1) := by decide +kernel
theorem dX0_awaitNotice_38 : decode cX0_awaitNotice 38 = .ok (.invokevirtual 127, 3) := by decide +kernel
theorem dX0_awaitNotice_41 : decode cX0_awaitNotice 41 = .ok (.ireturn, 1) := by decide +kernel
theorem dX0_awaitNotice_42 : decode cX0_awaitNotice 42 = .ok (.aload_n 0, 1) := by decide +kernel
theorem dX0_awaitNotice_43 : decode cX0_awaitNotice 43 = .ok (.getfield 55, 3) := by decide +kernel
theorem dX0_awaitNotice_46 : decode cX0_awaitNotice 46 = .ok (.aload_n 0, 1) := by decide +kernel
theorem dX0_awaitNotice_47 : decode cX0_awaitNotice 47 = .ok (.iload_n 2, 1) := by decide +kernel
theorem dX0_awaitNotice_48 : decode cX0_awaitNotice 48 = .ok (.invokevirtual 90, 3) := by decide +kernel
theorem dX0_awaitNotice_51 : decode cX0_awaitNotice 51 = .ok (.iaload, 1) := by decide +kernel
theorem dX0_awaitNotice_52 : decode cX0_awaitNotice 52 = .ok (.ifCond .ne 9, 3) := by decide +kernel
theorem dX0_awaitNotice_55 : decode cX0_awaitNotice 55 = .ok (.aload_n 0, 1) := by decide +kernel
theorem dX0_awaitNotice_56 : decode cX0_awaitNotice 56 = .ok (.iconst 2, 1) := by decide +kernel
theorem dX0_awaitNotice_57 : decode cX0_awaitNotice 57 = .ok (.invokevirtual 127, 3) := by decide +kernel
theorem dX0_awaitNotice_60 : decode cX0_awaitNotice 60 = .ok (.ireturn, 1) := by decide +kernel
theorem dX0_awaitNotice_61 : decode cX0_awaitNotice 61 = .ok (.aload_n 0, 1) := by decide +kernel
theorem dX0_awaitNotice_62 : decode cX0_awaitNotice 62 = .ok (.invokevirtual 120, 3) := by decide +kernel
theorem dX0_awaitNotice_65 : decode cX0_awaitNotice 65 = .ok (.ifCond .eq 11, 3) := by decide +kernel
theorem dX0_awaitNotice_68 : decode cX0_awaitNotice 68 = .ok (.aload_n 0, 1) := by decide +kernel
theorem dX0_awaitNotice_69 : decode cX0_awaitNotice 69 = .ok (.iconst 4, 1) := by decide +kernel
theorem dX0_awaitNotice_70 : decode cX0_awaitNotice 70 = .ok (.invokevirtual 127, 3) := by decide +kernel
theorem dX0_awaitNotice_73 : decode cX0_awaitNotice 73 = .ok (.goto 5, 3) := by decide +kernel
theorem dX0_awaitNotice_76 : decode cX0_awaitNotice 76 = .ok (.bipush (-2), 2) := by decide +kernel
theorem dX0_awaitNotice_78 : decode cX0_awaitNotice 78 = .ok (.ireturn, 1) := by decide +kernel
set_option maxRecDepth 20000 in
theorem ggX0_sleep_X0_raise : GoodIn wsX0_sleep wsX0_raise := goodIn_r _ [5, 6, 12, 13, 14, 15, 16, 17, 18, 19, 20, 21, 22, 23, 24, 25, 26, 27, 28] (by decide +kernel) (by decide +kernel)
set_option maxRecDepth 20000 in
theorem gX0_sleep_X0_raise : GoodIn wsX0_sleep (wsV RX0 127 RX0 yX0_raise wsX0_raise) := goodIn_app (goodIn_of _ (by decide +kernel)) ggX0_sleep_X0_raise
set_option maxRecDepth 20000 in
theorem ggX0_sleep_X0_takeFlag : GoodIn wsX0_sleep wsX0_takeFlag := goodIn_r _ [10, 11, 12, 13, 14, 15, 16, 17, 18, 19, 20, 21, 22, 23, 24, 25, 26, 27, 28] (by decide +kernel) (by decide +kernel)
set_option maxRecDepth 20000 in
theorem gX0_sleep_X0_takeFlag : GoodIn wsX0_sleep (wsV RX0 120 RX0 yX0_takeFlag wsX0_takeFlag) := goodIn_app (goodIn_of _ (by decide +kernel)) ggX0_sleep_X0_takeFlag
theorem dX0_sleep_0 : decode cX0_sleep 0 = .ok (.iload_n 1, 1) := by decide +kernel
theorem dX0_sleep_1 : decode cX0_sleep 1 = .ok (.ifCond .ge 9, 3) := by decide +kernel
theorem dX0_sleep_4 : decode cX0_sleep 4 = .ok (.aload_n 0, 1) := by decide +kernel
theorem dX0_sleep_5 : decode cX0_sleep 5 = .ok (.iconst 3, 1) := by decide +kernel
theorem dX0_sleep_6 : decode cX0_sleep 6 = .ok (.invokevirtual 127, 3) := by decide +kernel
theorem dX0_sleep_9 : decode cX0_sleep 9 = .ok (.ireturn, 1) := by decide +kernel
theorem dX0_sleep_10 : decode cX0_sleep 10 = .ok (.aload_n 0, 1) := by decide +kernel
theorem dX0_sleep_11 : decode cX0_sleep 11 = .ok (.invokevirtual 120, 3) := by decide +kernel
theorem dX0_sleep_14 : decode cX0_sleep 14 = .ok (.ifCond .eq 11, 3) := by decide +kernel
theorem dX0_sleep_17 : decode cX0_sleep 17 = .ok (.aload_n 0, 1) := by decide +kernel
theorem dX0_sleep_18 : decode cX0_sleep 18 = .ok (.iconst 4, 1) := by decide +kernel
theorem dX0_sleep_19 : decode cX0_sleep 19 = .ok (.invokevirtual 127, 3) := by decide +kernel
theorem dX0_sleep_22 : decode cX0_sleep 22 = .ok (.goto 4, 3) := by decide +kernel
theorem dX0_sleep_25 : decode cX0_sleep 25 = .ok (.iconst 0, 1) := by decide +kernel
theorem dX0_sleep_26 : decode cX0_sleep 26 = .ok (.ireturn, 1) := by decide +kernel
theorem dX0_takeFlag_0 : decode cX0_takeFlag 0 = .ok (.aload_n 0, 1) := by decide +kernel
theorem dX0_takeFlag_1 : decode cX0_takeFlag 1 = .ok (.getfield 24, 3) := by decide +kernel
theorem dX0_takeFlag_4 : decode cX0_takeFlag 4 = .ok (.istore_n 1, 1) := by decide +kernel
theorem dX0_takeFlag_5 : decode cX0_takeFlag 5 = .ok (.aload_n 0, 1) := by decide +kernel
theorem dX0_takeFlag_6 : decode cX0_takeFlag 6 = .ok (.iconst 0, 1) := by decide +kernel
theorem dX0_takeFlag_7 : decode cX0_takeFlag 7 = .ok (.putfield 24, 3) := by decide +kernel
theorem dX0_takeFlag_10 : decode cX0_takeFlag 10 = .ok (.iload_n 1, 1) := by decide +kernel
theorem dX0_takeFlag_11 : decode cX0_takeFlag 11 = .ok (.ireturn, 1) := by decide +kernel
set_option maxRecDepth 20000 in
theorem ggX0_start_X0_raise : GoodIn wsX0_start wsX0_raise := goodIn_r _ [7, 8, 9, 10, 11, 12, 13, 14, 15, 16, 17, 18, 19, 20, 21, 22, 23, 24, 25] (by decide +kernel) (by decide +kernel)
set_option maxRecDepth 20000 in
theorem gX0_start_X0_raise : GoodIn wsX0_start (wsV RX0 127 RX0 yX0_raise wsX0_raise) := goodIn_app (goodIn_of _ (by decide +kernel)) ggX0_start_X0_raise
theorem dX0_start_0 : decode cX0_start 0 = .ok (.aload_n 0, 1) := by decide +kernel
theorem dX0_start_1 : decode cX0_start 1 = .ok (.getfield 17, 3) := by decide +kernel
theorem dX0_start_4 : decode cX0_start 4 = .ok (.iload_n 1, 1) := by decide +kernel
theorem dX0_start_5 : decode cX0_start 5 = .ok (.baload, 1) := by decide +kernel
theorem dX0_start_6 : decode cX0_start 6 = .ok (.ifCond .eq 9, 3) := by decide +kernel
theorem dX0_start_9 : decode cX0_start 9 = .ok (.aload_n 0, 1) := by decide +kernel
theorem dX0_start_10 : decode cX0_start 10 = .ok (.iconst 5, 1) := by decide +kernel
theorem dX0_start_11 : decode cX0_start 11 = .ok (.invokevirtual 127, 3) := by decide +kernel
theorem dX0_start_14 : decode cX0_start 14 = .ok (.ireturn, 1) := by decide +kernel
theorem dX0_start_15 : decode cX0_start 15 = .ok (.aload_n 0, 1) := by decide +kernel
theorem dX0_start_16 : decode cX0_start 16 = .ok (.getfield 17, 3) := by decide +kernel
theorem dX0_start_19 : decode cX0_start 19 = .ok (.iload_n 1, 1) := by decide +kernel
theorem dX0_start_20 : decode cX0_start 20 = .ok (.iconst 1, 1) := by decide +kernel
theorem dX0_start_21 : decode cX0_start 21 = .ok (.bastore, 1) := by decide +kernel
theorem dX0_start_22 : decode cX0_start 22 = .ok (.aload_n 0, 1) := by decide +kernel
theorem dX0_start_23 : decode cX0_start 23 = .ok (.dup, 1) := by decide +kernel
theorem dX0_start_24 : decode cX0_start 24 = .ok (.getfield 21, 3) := by decide +kernel
theorem dX0_start_27 : decode cX0_start 27 = .ok (.iload_n 1, 1) := by decide +kernel
theorem dX0_start_28 : decode cX0_start 28 = .ok (.iconst 1, 1) := by decide +kernel
theorem dX0_start_29 : decode cX0_start 29 = .ok (.iadd, 1) := by decide +kernel
theorem dX0_start_30 : decode cX0_start 30 = .ok (.iadd, 1) := by decide +kernel
theorem dX0_start_31 : decode cX0_start 31 = .ok (.putfield 21, 3) := by decide +kernel
theorem dX0_start_34 : decode cX0_start 34 = .ok (.iconst 0, 1) := by decide +kernel
theorem dX0_start_35 : decode cX0_start 35 = .ok (.ireturn, 1) := by decide +kernel
theorem dJ9_floorMod_7cf53_0 : decode cJ9_floorMod_7cf53 0 = .ok (.iload_n 0, 1) := by decide +kernel
theorem dJ9_floorMod_7cf53_1 : decode cJ9_floorMod_7cf53 1 = .ok (.iload_n 1, 1) := by decide +kernel
theorem dJ9_floorMod_7cf53_2 : decode cJ9_floorMod_7cf53 2 = .ok (.irem, 1) := by decide +kernel
theorem dJ9_floorMod_7cf53_3 : decode cJ9_floorMod_7cf53 3 = .ok (.istore_n 2, 1) := by decide +kernel
theorem dJ9_floorMod_7cf53_4 : decode cJ9_floorMod_7cf53 4 = .ok (.iload_n 0, 1) := by decide +kernel
theorem dJ9_floorMod_7cf53_5 : decode cJ9_floorMod_7cf53 5 = .ok (.iload_n 1, 1) := by decide +kernel
theorem dJ9_floorMod_7cf53_6 : decode cJ9_floorMod_7cf53 6 = .ok (.ixor, 1) := by decide +kernel
theorem dJ9_floorMod_7cf53_7 : decode cJ9_floorMod_7cf53 7 = .ok (.ifCond .ge 11, 3) := by decide +kernel
theorem dJ9_floorMod_7cf53_10 : decode cJ9_floorMod_7cf53 10 = .ok (.iload_n 2, 1) := by decide +kernel
theorem dJ9_floorMod_7cf53_11 : decode cJ9_floorMod_7cf53 11 = .ok (.ifCond .eq 7, 3) := by decide +kernel
theorem dJ9_floorMod_7cf53_14 : decode cJ9_floorMod_7cf53 14 = .ok (.iload_n 2, 1) := by decide +kernel
theorem dJ9_floorMod_7cf53_15 : decode cJ9_floorMod_7cf53 15 = .ok (.iload_n 1, 1) := by decide +kernel
theorem dJ9_floorMod_7cf53_16 : decode cJ9_floorMod_7cf53 16 = .ok (.iadd, 1) := by decide +kernel
theorem dJ9_floorMod_7cf53_17 : decode cJ9_floorMod_7cf53 17 = .ok (.ireturn, 1) := by decide +kernel
theorem dJ9_floorMod_7cf53_18 : decode cJ9_floorMod_7cf53 18 = .ok (.iload_n 2, 1) := by decide +kernel
theorem dJ9_floorMod_7cf53_19 : decode cJ9_floorMod_7cf53 19 = .ok (.ireturn, 1) := by decide +kernel
theorem dJ9_abs_0f7a4_0 : decode cJ9_abs_0f7a4 0 = .ok (.iload_n 0, 1) := by decide +kernel
theorem dJ9_abs_0f7a4_1 : decode cJ9_abs_0f7a4 1 = .ok (.ifCond .ge 8, 3) := by decide +kernel
theorem dJ9_abs_0f7a4_4 : decode cJ9_abs_0f7a4 4 = .ok (.iload_n 0, 1) := by decide +kernel
theorem dJ9_abs_0f7a4_5 : decode cJ9_abs_0f7a4 5 = .ok (.ineg, 1) := by decide +kernel
theorem dJ9_abs_0f7a4_6 : decode cJ9_abs_0f7a4 6 = .ok (.goto 4, 3) := by decide +kernel
theorem dJ9_abs_0f7a4_9 : decode cJ9_abs_0f7a4 9 = .ok (.iload_n 0, 1) := by decide +kernel
theorem dJ9_abs_0f7a4_10 : decode cJ9_abs_0f7a4 10 = .ok (.ireturn, 1) := by decide +kernel
theorem dJ7_fill_53178_0 : decode cJ7_fill_53178 0 = .ok (.iconst 0, 1) := by decide +kernel
theorem dJ7_fill_53178_1 : decode cJ7_fill_53178 1 = .ok (.istore_n 2, 1) := by decide +kernel
theorem dJ7_fill_53178_2 : decode cJ7_fill_53178 2 = .ok (.aload_n 0, 1) := by decide +kernel
theorem dJ7_fill_53178_3 : decode cJ7_fill_53178 3 = .ok (.arraylength, 1) := by decide +kernel
theorem dJ7_fill_53178_4 : decode cJ7_fill_53178 4 = .ok (.istore_n 3, 1) := by decide +kernel
theorem dJ7_fill_53178_5 : decode cJ7_fill_53178 5 = .ok (.iload_n 2, 1) := by decide +kernel
theorem dJ7_fill_53178_6 : decode cJ7_fill_53178 6 = .ok (.iload_n 3, 1) := by decide +kernel
theorem dJ7_fill_53178_7 : decode cJ7_fill_53178 7 = .ok (.if_icmp .ge 13, 3) := by decide +kernel
theorem dJ7_fill_53178_10 : decode cJ7_fill_53178 10 = .ok (.aload_n 0, 1) := by decide +kernel
theorem dJ7_fill_53178_11 : decode cJ7_fill_53178 11 = .ok (.iload_n 2, 1) := by decide +kernel
theorem dJ7_fill_53178_12 : decode cJ7_fill_53178 12 = .ok (.iload_n 1, 1) := by decide +kernel
theorem dJ7_fill_53178_13 : decode cJ7_fill_53178 13 = .ok (.iastore, 1) := by decide +kernel
theorem dJ7_fill_53178_14 : decode cJ7_fill_53178 14 = .ok (.iinc 2 1, 3) := by decide +kernel
theorem dJ7_fill_53178_17 : decode cJ7_fill_53178 17 = .ok (.goto (-12), 3) := by decide +kernel
theorem dJ7_fill_53178_20 : decode cJ7_fill_53178 20 = .ok (.return_, 1) := by decide +kernel
set_option maxRecDepth 20000 in
theorem ggL_type_X0_state : GoodIn wsL_type wsX0_state := goodIn_r _ [5, 6, 7, 8, 9, 10, 11, 4, 12, 13, 14, 15, 16, 17, 18, 19, 20, 21, 22, 23, 24, 25, 26, 39, 40, 41, 42, 43, 44, 45, 46, 47, 48, 49, 50, 51, 52, 53, 54, 55] (by decide +kernel) (by decide +kernel)
set_option maxRecDepth 20000 in
theorem gL_type_X0_state : GoodIn wsL_type (wsV RL 7 RX0 yX0_state wsX0_state) := goodIn_app (goodIn_of _ (by decide +kernel)) ggL_type_X0_state
set_option maxRecDepth 20000 in
theorem ggL_type_X0_step : GoodIn wsL_type wsX0_step := goodIn_r _ [30, 6, 31, 7, 32, 33, 34, 35, 36, 37, 4, 38, 39, 40, 41, 42, 43, 44, 45, 46, 47, 48, 49, 50, 51, 52, 53, 54, 55] (by decide +kernel) (by decide +kernel)
set_option maxRecDepth 20000 in
theorem gL_type_X0_step : GoodIn wsL_type (wsV RL 13 RX0 yX0_step wsX0_step) := goodIn_app (goodIn_of _ (by decide +kernel)) ggL_type_X0_step
theorem dL_type_0 : decode cL_type 0 = .ok (.iconst 0, 1) := by decide +kernel
theorem dL_type_1 : decode cL_type 1 = .ok (.istore 4, 2) := by decide +kernel
theorem dL_type_3 : decode cL_type 3 = .ok (.iload_n 2, 1) := by decide +kernel
theorem dL_type_4 : decode cL_type 4 = .ok (.istore 5, 2) := by decide +kernel
theorem dL_type_6 : decode cL_type 6 = .ok (.iload 5, 2) := by decide +kernel
theorem dL_type_8 : decode cL_type 8 = .ok (.iconst 2, 1) := by decide +kernel
theorem dL_type_9 : decode cL_type 9 = .ok (.iadd, 1) := by decide +kernel
theorem dL_type_10 : decode cL_type 10 = .ok (.iload_n 3, 1) := by decide +kernel
theorem dL_type_11 : decode cL_type 11 = .ok (.if_icmp .gt 153, 3) := by decide +kernel
theorem dL_type_14 : decode cL_type 14 = .ok (.aload_n 1, 1) := by decide +kernel
theorem dL_type_15 : decode cL_type 15 = .ok (.iload 5, 2) := by decide +kernel
theorem dL_type_17 : decode cL_type 17 = .ok (.iaload, 1) := by decide +kernel
theorem dL_type_18 : decode cL_type 18 = .ok (.bipush 31, 2) := by decide +kernel
theorem dL_type_20 : decode cL_type 20 = .ok (.iand, 1) := by decide +kernel
theorem dL_type_21 : decode cL_type 21 = .ok (.istore 6, 2) := by decide +kernel
theorem dL_type_23 : decode cL_type 23 = .ok (.iload 6, 2) := by decide +kernel
theorem dL_type_25 : decode cL_type 25 = .ok (.bipush 16, 2) := by decide +kernel
theorem dL_type_27 : decode cL_type 27 = .ok (.if_icmp .ge 8, 3) := by decide +kernel
theorem dL_type_30 : decode cL_type 30 = .ok (.iload 6, 2) := by decide +kernel
theorem dL_type_32 : decode cL_type 32 = .ok (.goto 72, 3) := by decide +kernel
theorem dL_type_35 : decode cL_type 35 = .ok (.iload 6, 2) := by decide +kernel
theorem dL_type_37 : decode cL_type 37 = .ok (.bipush 20, 2) := by decide +kernel
theorem dL_type_39 : decode cL_type 39 = .ok (.if_icmp .ge 7, 3) := by decide +kernel
theorem dL_type_42 : decode cL_type 42 = .ok (.iconst 0, 1) := by decide +kernel
theorem dL_type_43 : decode cL_type 43 = .ok (.goto 61, 3) := by decide +kernel
theorem dL_type_46 : decode cL_type 46 = .ok (.iload 6, 2) := by decide +kernel
theorem dL_type_48 : decode cL_type 48 = .ok (.bipush 23, 2) := by decide +kernel
theorem dL_type_50 : decode cL_type 50 = .ok (.if_icmp .ge 7, 3) := by decide +kernel
theorem dL_type_53 : decode cL_type 53 = .ok (.iconst 1, 1) := by decide +kernel
theorem dL_type_54 : decode cL_type 54 = .ok (.goto 50, 3) := by decide +kernel
theorem dL_type_57 : decode cL_type 57 = .ok (.iload 6, 2) := by decide +kernel
theorem dL_type_59 : decode cL_type 59 = .ok (.bipush 26, 2) := by decide +kernel
theorem dL_type_61 : decode cL_type 61 = .ok (.if_icmp .ge 7, 3) := by decide +kernel
theorem dL_type_64 : decode cL_type 64 = .ok (.iconst 2, 1) := by decide +kernel
theorem dL_type_65 : decode cL_type 65 = .ok (.goto 39, 3) := by decide +kernel
theorem dL_type_68 : decode cL_type 68 = .ok (.iload 6, 2) := by decide +kernel
theorem dL_type_70 : decode cL_type 70 = .ok (.bipush 28, 2) := by decide +kernel
theorem dL_type_72 : decode cL_type 72 = .ok (.if_icmp .ge 7, 3) := by decide +kernel
theorem dL_type_75 : decode cL_type 75 = .ok (.iconst 3, 1) := by decide +kernel
theorem dL_type_76 : decode cL_type 76 = .ok (.goto 28, 3) := by decide +kernel
theorem dL_type_79 : decode cL_type 79 = .ok (.iload 6, 2) := by decide +kernel
theorem dL_type_81 : decode cL_type 81 = .ok (.bipush 29, 2) := by decide +kernel
theorem dL_type_83 : decode cL_type 83 = .ok (.if_icmp .ge 8, 3) := by decide +kernel
theorem dL_type_86 : decode cL_type 86 = .ok (.bipush 6, 2) := by decide +kernel
theorem dL_type_88 : decode cL_type 88 = .ok (.goto 16, 3) := by decide +kernel
theorem dL_type_91 : decode cL_type 91 = .ok (.iload 6, 2) := by decide +kernel
theorem dL_type_93 : decode cL_type 93 = .ok (.bipush 31, 2) := by decide +kernel
theorem dL_type_95 : decode cL_type 95 = .ok (.if_icmp .ge 7, 3) := by decide +kernel
theorem dL_type_98 : decode cL_type 98 = .ok (.iconst 5, 1) := by decide +kernel
theorem dL_type_99 : decode cL_type 99 = .ok (.goto 5, 3) := by decide +kernel
theorem dL_type_102 : decode cL_type 102 = .ok (.bipush 11, 2) := by decide +kernel
theorem dL_type_104 : decode cL_type 104 = .ok (.istore 7, 2) := by decide +kernel
theorem dL_type_106 : decode cL_type 106 = .ok (.aload_n 0, 1) := by decide +kernel
theorem dL_type_107 : decode cL_type 107 = .ok (.iconst 0, 1) := by decide +kernel
theorem dL_type_108 : decode cL_type 108 = .ok (.invokevirtual 7, 3) := by decide +kernel
theorem dL_type_111 : decode cL_type 111 = .ok (.aload_n 0, 1) := by decide +kernel
theorem dL_type_112 : decode cL_type 112 = .ok (.iconst 1, 1) := by decide +kernel
theorem dL_type_113 : decode cL_type 113 = .ok (.invokevirtual 7, 3) := by decide +kernel
theorem dL_type_116 : decode cL_type 116 = .ok (.iadd, 1) := by decide +kernel
theorem dL_type_117 : decode cL_type 117 = .ok (.bipush 22, 2) := by decide +kernel
theorem dL_type_119 : decode cL_type 119 = .ok (.if_icmp .ge 39, 3) := by decide +kernel
theorem dL_type_122 : decode cL_type 122 = .ok (.aload_n 0, 1) := by decide +kernel
theorem dL_type_123 : decode cL_type 123 = .ok (.iload 7, 2) := by decide +kernel
theorem dL_type_125 : decode cL_type 125 = .ok (.aload_n 1, 1) := by decide +kernel
theorem dL_type_126 : decode cL_type 126 = .ok (.iload 5, 2) := by decide +kernel
theorem dL_type_128 : decode cL_type 128 = .ok (.iaload, 1) := by decide +kernel
theorem dL_type_129 : decode cL_type 129 = .ok (.bipush 32, 2) := by decide +kernel
theorem dL_type_131 : decode cL_type 131 = .ok (.iand, 1) := by decide +kernel
theorem dL_type_132 : decode cL_type 132 = .ok (.ifCond .eq 12, 3) := by decide +kernel
theorem dL_type_135 : decode cL_type 135 = .ok (.aload_n 1, 1) := by decide +kernel
theorem dL_type_136 : decode cL_type 136 = .ok (.iload 5, 2) := by decide +kernel
theorem dL_type_138 : decode cL_type 138 = .ok (.iconst 1, 1) := by decide +kernel
theorem dL_type_139 : decode cL_type 139 = .ok (.iadd, 1) := by decide +kernel
theorem dL_type_140 : decode cL_type 140 = .ok (.iaload, 1) := by decide +kernel
theorem dL_type_141 : decode cL_type 141 = .ok (.goto 12, 3) := by decide +kernel
theorem dL_type_144 : decode cL_type 144 = .ok (.aload_n 1, 1) := by decide +kernel
theorem dL_type_145 : decode cL_type 145 = .ok (.iload 5, 2) := by decide +kernel
theorem dL_type_147 : decode cL_type 147 = .ok (.iconst 1, 1) := by decide +kernel
theorem dL_type_148 : decode cL_type 148 = .ok (.iadd, 1) := by decide +kernel
theorem dL_type_149 : decode cL_type 149 = .ok (.iaload, 1) := by decide +kernel
theorem dL_type_150 : decode cL_type 150 = .ok (.bipush 7, 2) := by decide +kernel
theorem dL_type_152 : decode cL_type 152 = .ok (.iand, 1) := by decide +kernel
theorem dL_type_153 : decode cL_type 153 = .ok (.invokevirtual 13, 3) := by decide +kernel
theorem dL_type_156 : decode cL_type 156 = .ok (.istore 4, 2) := by decide +kernel
theorem dL_type_158 : decode cL_type 158 = .ok (.iinc 5 2, 3) := by decide +kernel
theorem dL_type_161 : decode cL_type 161 = .ok (.goto (-155), 3) := by decide +kernel
theorem dL_type_164 : decode cL_type 164 = .ok (.aload_n 0, 1) := by decide +kernel
theorem dL_type_165 : decode cL_type 165 = .ok (.iconst 1, 1) := by decide +kernel
theorem dL_type_166 : decode cL_type 166 = .ok (.invokevirtual 7, 3) := by decide +kernel
theorem dL_type_169 : decode cL_type 169 = .ok (.ifCond .le 14, 3) := by decide +kernel
theorem dL_type_172 : decode cL_type 172 = .ok (.aload_n 0, 1) := by decide +kernel
theorem dL_type_173 : decode cL_type 173 = .ok (.iconst 0, 1) := by decide +kernel
theorem dL_type_174 : decode cL_type 174 = .ok (.iconst 0, 1) := by decide +kernel
theorem dL_type_175 : decode cL_type 175 = .ok (.invokevirtual 13, 3) := by decide +kernel
theorem dL_type_178 : decode cL_type 178 = .ok (.istore 4, 2) := by decide +kernel
theorem dL_type_180 : decode cL_type 180 = .ok (.goto (-16), 3) := by decide +kernel
theorem dL_type_183 : decode cL_type 183 = .ok (.return_, 1) := by decide +kernel
set_option maxRecDepth 20000 in
theorem ggL_free_X0_clear : GoodIn wsL_free wsX0_clear := goodIn_r _ [5, 6, 7, 8, 129, 130, 131, 132, 133, 134, 135, 136, 137, 138, 139, 140, 141, 142, 143, 144, 145] (by decide +kernel) (by decide +kernel)
set_option maxRecDepth 20000 in
theorem gL_free_X0_clear : GoodIn wsL_free (wsV RL 17 RX0 yX0_clear wsX0_clear) := goodIn_app (goodIn_of _ (by decide +kernel)) ggL_free_X0_clear
set_option maxRecDepth 20000 in
theorem ggL_free_X0_step : GoodIn wsL_free wsX0_step := goodIn_r _ [12, 6, 8, 7, 13, 14, 15, 16, 17, 18, 4, 19, 129, 130, 131, 132, 133, 134, 135, 136, 137, 138, 139, 140, 141, 142, 143, 144, 145] (by decide +kernel) (by decide +kernel)
set_option maxRecDepth 20000 in
theorem gL_free_X0_step : GoodIn wsL_free (wsV RL 13 RX0 yX0_step wsX0_step) := goodIn_app (goodIn_of _ (by decide +kernel)) ggL_free_X0_step
set_option maxRecDepth 20000 in
theorem ggL_free_X0_run : GoodIn wsL_free wsX0_run := goodIn_r _ [23, 7, 24, 25, 26, 27, 6, 28, 29, 30, 31, 32, 33, 34, 4, 35, 36, 37, 38, 39, 40, 14, 13, 15, 41, 42, 43, 44, 45, 46, 47, 48, 49, 50, 51, 52, 53, 54, 55, 56, 57, 58, 59, 60, 61, 62, 63, 64, 65, 66, 67, 68, 69, 70, 71, 72, 73, 74, 75, 76, 77, 78, 79, 80, 81, 82, 83, 84, 85, 86, 87, 88, 89, 90, 91, 92, 93, 94, 95, 96, 97, 98, 99, 100, 101, 102, 103, 104, 105, 106, 107, 108, 16, 129, 130, 131, 132, 133, 134, 135, 136, 137, 138, 139, 140, 141, 142, 143, 144, 145] (by decide +kernel) (by decide +kernel)
set_option maxRecDepth 20000 in
theorem gL_free_X0_run : GoodIn wsL_free (wsV RL 21 RX0 yX0_run wsX0_run) := goodIn_app (goodIn_of _ (by decide +kernel)) ggL_free_X0_run
set_option maxRecDepth 20000 in
theorem ggL_free_X0_state : GoodIn wsL_free wsX0_state := goodIn_r _ [112, 6, 7, 43, 41, 81, 82, 4, 83, 113, 114, 115, 116, 42, 117, 118, 119, 120, 64, 60, 61, 62, 63, 129, 130, 131, 132, 133, 134, 135, 136, 137, 138, 139, 140, 141, 142, 143, 144, 145] (by decide +kernel) (by decide +kernel)
set_option maxRecDepth 20000 in
theorem gL_free_X0_state : GoodIn wsL_free (wsV RL 7 RX0 yX0_state wsX0_state) := goodIn_app (goodIn_of _ (by decide +kernel)) ggL_free_X0_state
set_option maxRecDepth 20000 in
theorem ggL_free_X0_result : GoodIn wsL_free wsX0_result := goodIn_r _ [124, 24, 129, 130, 131, 132, 133, 134, 135, 136, 137, 138, 139, 140, 141, 142, 143, 144, 145] (by decide +kernel) (by decide +kernel)
set_option maxRecDepth 20000 in
theorem gL_free_X0_result : GoodIn wsL_free (wsV RL 24 RX0 yX0_result wsX0_result) := goodIn_app (goodIn_of _ (by decide +kernel)) ggL_free_X0_result
set_option maxRecDepth 20000 in
theorem ggL_free_X0_failure : GoodIn wsL_free wsX0_failure := goodIn_r _ [128, 26, 129, 130, 131, 132, 133, 134, 135, 136, 137, 138, 139, 140, 141, 142, 143, 144, 145] (by decide +kernel) (by decide +kernel)
set_option maxRecDepth 20000 in
theorem gL_free_X0_failure : GoodIn wsL_free (wsV RL 27 RX0 yX0_failure wsX0_failure) := goodIn_app (goodIn_of _ (by decide +kernel)) ggL_free_X0_failure
theorem dL_free_0 : decode cL_free 0 = .ok (.aload_n 0, 1) := by decide +kernel
theorem dL_free_1 : decode cL_free 1 = .ok (.invokevirtual 17, 3) := by decide +kernel
theorem dL_free_4 : decode cL_free 4 = .ok (.ifCond .lt 43, 3) := by decide +kernel
theorem dL_free_7 : decode cL_free 7 = .ok (.aload_n 0, 1) := by decide +kernel
theorem dL_free_8 : decode cL_free 8 = .ok (.iconst 5, 1) := by decide +kernel
theorem dL_free_9 : decode cL_free 9 = .ok (.iload_n 1, 1) := by decide +kernel
theorem dL_free_10 : decode cL_free 10 = .ok (.invokevirtual 13, 3) := by decide +kernel
theorem dL_free_13 : decode cL_free 13 = .ok (.iconst 1, 1) := by decide +kernel
theorem dL_free_14 : decode cL_free 14 = .ok (.if_icmp .ne 33, 3) := by decide +kernel
theorem dL_free_17 : decode cL_free 17 = .ok (.aload_n 0, 1) := by decide +kernel
theorem dL_free_18 : decode cL_free 18 = .ok (.iconst 2, 1) := by decide +kernel
theorem dL_free_19 : decode cL_free 19 = .ok (.iconst 0, 1) := by decide +kernel
theorem dL_free_20 : decode cL_free 20 = .ok (.invokevirtual 13, 3) := by decide +kernel
theorem dL_free_23 : decode cL_free 23 = .ok (.iconst 2, 1) := by decide +kernel
theorem dL_free_24 : decode cL_free 24 = .ok (.if_icmp .ne 23, 3) := by decide +kernel
theorem dL_free_27 : decode cL_free 27 = .ok (.aload_n 0, 1) := by decide +kernel
theorem dL_free_28 : decode cL_free 28 = .ok (.iconst 3, 1) := by decide +kernel
theorem dL_free_29 : decode cL_free 29 = .ok (.iload_n 1, 1) := by decide +kernel
theorem dL_free_30 : decode cL_free 30 = .ok (.invokevirtual 13, 3) := by decide +kernel
theorem dL_free_33 : decode cL_free 33 = .ok (.iconst 3, 1) := by decide +kernel
theorem dL_free_34 : decode cL_free 34 = .ok (.if_icmp .ne 13, 3) := by decide +kernel
theorem dL_free_37 : decode cL_free 37 = .ok (.aload_n 0, 1) := by decide +kernel
theorem dL_free_38 : decode cL_free 38 = .ok (.iconst 0, 1) := by decide +kernel
theorem dL_free_39 : decode cL_free 39 = .ok (.iconst 0, 1) := by decide +kernel
theorem dL_free_40 : decode cL_free 40 = .ok (.invokevirtual 13, 3) := by decide +kernel
theorem dL_free_43 : decode cL_free 43 = .ok (.iconst 4, 1) := by decide +kernel
theorem dL_free_44 : decode cL_free 44 = .ok (.if_icmp .eq 5, 3) := by decide +kernel
theorem dL_free_47 : decode cL_free 47 = .ok (.iconst 0, 1) := by decide +kernel
theorem dL_free_48 : decode cL_free 48 = .ok (.ireturn, 1) := by decide +kernel
theorem dL_free_49 : decode cL_free 49 = .ok (.aload_n 0, 1) := by decide +kernel
theorem dL_free_50 : decode cL_free 50 = .ok (.invokevirtual 21, 3) := by decide +kernel
theorem dL_free_53 : decode cL_free 53 = .ok (.istore_n 2, 1) := by decide +kernel
theorem dL_free_54 : decode cL_free 54 = .ok (.aload_n 0, 1) := by decide +kernel
theorem dL_free_55 : decode cL_free 55 = .ok (.iconst 5, 1) := by decide +kernel
theorem dL_free_56 : decode cL_free 56 = .ok (.iload_n 1, 1) := by decide +kernel
theorem dL_free_57 : decode cL_free 57 = .ok (.iadd, 1) := by decide +kernel
theorem dL_free_58 : decode cL_free 58 = .ok (.invokevirtual 7, 3) := by decide +kernel
theorem dL_free_61 : decode cL_free 61 = .ok (.ifCond .ge 33, 3) := by decide +kernel
theorem dL_free_64 : decode cL_free 64 = .ok (.iload_n 2, 1) := by decide +kernel
theorem dL_free_65 : decode cL_free 65 = .ok (.iconst 1, 1) := by decide +kernel
theorem dL_free_66 : decode cL_free 66 = .ok (.if_icmp .ne 26, 3) := by decide +kernel
theorem dL_free_69 : decode cL_free 69 = .ok (.aload_n 0, 1) := by decide +kernel
theorem dL_free_70 : decode cL_free 70 = .ok (.iconst 0, 1) := by decide +kernel
theorem dL_free_71 : decode cL_free 71 = .ok (.invokevirtual 24, 3) := by decide +kernel
theorem dL_free_74 : decode cL_free 74 = .ok (.sipush (-999), 3) := by decide +kernel
theorem dL_free_77 : decode cL_free 77 = .ok (.if_icmp .ne 15, 3) := by decide +kernel
theorem dL_free_80 : decode cL_free 80 = .ok (.aload_n 0, 1) := by decide +kernel
theorem dL_free_81 : decode cL_free 81 = .ok (.invokevirtual 27, 3) := by decide +kernel
theorem dL_free_84 : decode cL_free 84 = .ok (.iconst 1, 1) := by decide +kernel
theorem dL_free_85 : decode cL_free 85 = .ok (.if_icmp .ne 7, 3) := by decide +kernel
theorem dL_free_88 : decode cL_free 88 = .ok (.iconst 1, 1) := by decide +kernel
theorem dL_free_89 : decode cL_free 89 = .ok (.goto 4, 3) := by decide +kernel
theorem dL_free_92 : decode cL_free 92 = .ok (.iconst 0, 1) := by decide +kernel
theorem dL_free_93 : decode cL_free 93 = .ok (.ireturn, 1) := by decide +kernel
theorem dL_free_94 : decode cL_free 94 = .ok (.iload_n 2, 1) := by decide +kernel
theorem dL_free_95 : decode cL_free 95 = .ok (.iconst 3, 1) := by decide +kernel
theorem dL_free_96 : decode cL_free 96 = .ok (.if_icmp .ne 33, 3) := by decide +kernel
theorem dL_free_99 : decode cL_free 99 = .ok (.aload_n 0, 1) := by decide +kernel
theorem dL_free_100 : decode cL_free 100 = .ok (.iconst 0, 1) := by decide +kernel
theorem dL_free_101 : decode cL_free 101 = .ok (.invokevirtual 24, 3) := by decide +kernel
theorem dL_free_104 : decode cL_free 104 = .ok (.ifCond .ne 25, 3) := by decide +kernel
theorem dL_free_107 : decode cL_free 107 = .ok (.aload_n 0, 1) := by decide +kernel
theorem dL_free_108 : decode cL_free 108 = .ok (.iconst 2, 1) := by decide +kernel
theorem dL_free_109 : decode cL_free 109 = .ok (.invokevirtual 24, 3) := by decide +kernel
theorem dL_free_112 : decode cL_free 112 = .ok (.sipush (-998), 3) := by decide +kernel
theorem dL_free_115 : decode cL_free 115 = .ok (.if_icmp .ne 14, 3) := by decide +kernel
theorem dL_free_118 : decode cL_free 118 = .ok (.aload_n 0, 1) := by decide +kernel
theorem dL_free_119 : decode cL_free 119 = .ok (.invokevirtual 27, 3) := by decide +kernel
theorem dL_free_122 : decode cL_free 122 = .ok (.ifCond .ne 7, 3) := by decide +kernel
theorem dL_free_125 : decode cL_free 125 = .ok (.iconst 1, 1) := by decide +kernel
theorem dL_free_126 : decode cL_free 126 = .ok (.goto 4, 3) := by decide +kernel
theorem dL_free_129 : decode cL_free 129 = .ok (.iconst 0, 1) := by decide +kernel
theorem dL_free_130 : decode cL_free 130 = .ok (.ireturn, 1) := by decide +kernel
set_option maxRecDepth 20000 in
theorem ggL_law_X0_init : GoodIn wsL_law wsX0_init := goodIn_r _ [5, 6, 7, 8, 9, 10, 11, 12, 13, 14, 15, 16, 17, 18, 19, 20, 21, 22, 23, 24, 25, 26, 27, 28, 29, 30, 31, 150, 151, 152, 153, 154, 155, 156, 157, 158, 159, 160, 161, 162, 163, 164, 165, 166] (by decide +kernel) (by decide +kernel)
set_option maxRecDepth 20000 in
theorem gL_law_X0_init : GoodIn wsL_law (wsX0_init) := ggL_law_X0_init
set_option maxRecDepth 20000 in
theorem ggL_law_X0_hold : GoodIn wsL_law wsX0_hold := goodIn_r _ [35, 11, 10, 150, 151, 152, 153, 154, 155, 156, 157, 158, 159, 160, 161, 162, 163, 164, 165, 166] (by decide +kernel) (by decide +kernel)
set_option maxRecDepth 20000 in
theorem gL_law_X0_hold : GoodIn wsL_law (wsV RL 31 RX0 yX0_hold wsX0_hold) := goodIn_app (goodIn_of _ (by decide +kernel)) ggL_law_X0_hold
set_option maxRecDepth 20000 in
theorem ggL_law_X0_clear : GoodIn wsL_law wsX0_clear := goodIn_r _ [39, 20, 21, 22, 150, 151, 152, 153, 154, 155, 156, 157, 158, 159, 160, 161, 162, 163, 164, 165, 166] (by decide +kernel) (by decide +kernel)
set_option maxRecDepth 20000 in
theorem gL_law_X0_clear : GoodIn wsL_law (wsV RL 17 RX0 yX0_clear wsX0_clear) := goodIn_app (goodIn_of _ (by decide +kernel)) ggL_law_X0_clear
set_option maxRecDepth 20000 in
theorem ggL_law_L_type : GoodIn wsL_law wsL_type := goodIn_r _ [43, 44, 45, 46, 2, 47, 20, 21, 14, 15, 48, 49, 50, 51, 52, 53, 54, 13, 55, 56, 57, 58, 10, 59, 60, 61, 62, 63, 64, 65, 66, 22, 16, 17, 18, 19, 67, 68, 69, 150, 151, 152, 153, 154, 155, 156, 157, 158, 159, 160, 161, 162, 163, 164, 165, 166] (by decide +kernel) (by decide +kernel)
set_option maxRecDepth 20000 in
theorem gL_law_L_type : GoodIn wsL_law (va_wsS RL 34 yL_type wsL_type) := goodIn_app (goodIn_of _ (by decide +kernel)) ggL_law_L_type
set_option maxRecDepth 20000 in
theorem ggL_law_X0_run : GoodIn wsL_law wsX0_run := goodIn_r _ [73, 21, 23, 25, 24, 27, 20, 28, 29, 30, 31, 74, 75, 76, 2, 77, 26, 78, 79, 80, 81, 17, 16, 18, 15, 13, 14, 82, 83, 84, 85, 86, 87, 88, 89, 90, 91, 92, 93, 94, 95, 96, 97, 59, 60, 61, 62, 10, 98, 99, 100, 101, 102, 103, 104, 105, 106, 107, 108, 109, 110, 111, 112, 113, 48, 49, 50, 114, 115, 116, 117, 118, 119, 120, 121, 122, 123, 124, 125, 126, 127, 128, 129, 130, 131, 132, 133, 134, 135, 136, 137, 138, 19, 150, 151, 152, 153, 154, 155, 156, 157, 158, 159, 160, 161, 162, 163, 164, 165, 166] (by decide +kernel) (by decide +kernel)
set_option maxRecDepth 20000 in
theorem gL_law_X0_run : GoodIn wsL_law (wsV RL 21 RX0 yX0_run wsX0_run) := goodIn_app (goodIn_of _ (by decide +kernel)) ggL_law_X0_run
set_option maxRecDepth 20000 in
theorem ggL_law_L_free : GoodIn wsL_law wsL_free := goodIn_r _ [141, 36, 37, 38, 2, 39, 20, 21, 22, 63, 64, 65, 66, 16, 17, 18, 19, 67, 68, 69, 70, 71, 72, 73, 23, 25, 24, 27, 28, 29, 30, 31, 74, 75, 76, 77, 26, 78, 79, 80, 81, 15, 13, 14, 82, 83, 84, 85, 86, 87, 88, 89, 90, 91, 92, 93, 94, 95, 96, 97, 59, 60, 61, 62, 10, 98, 99, 100, 101, 102, 103, 104, 105, 106, 107, 108, 109, 110, 111, 112, 113, 48, 49, 50, 114, 115, 116, 117, 118, 119, 120, 121, 122, 123, 124, 125, 126, 127, 128, 129, 130, 131, 132, 133, 134, 135, 136, 137, 138, 44, 45, 46, 47, 51, 52, 53, 54, 55, 56, 57, 58, 142, 143, 144, 145, 146, 147, 148, 149, 150, 151, 152, 153, 154, 155, 156, 157, 158, 159, 160, 161, 162, 163, 164, 165, 166] (by decide +kernel) (by decide +kernel)
set_option maxRecDepth 20000 in
theorem gL_law_L_free : GoodIn wsL_law (va_wsS RL 40 yL_free wsL_free) := goodIn_app (goodIn_of _ (by decide +kernel)) ggL_law_L_free
theorem dL_law_0 : decode cL_law 0 = .ok (.new 8, 3) := by decide +kernel
theorem dL_law_3 : decode cL_law 3 = .ok (.dup, 1) := by decide +kernel
theorem dL_law_4 : decode cL_law 4 = .ok (.invokespecial 30, 3) := by decide +kernel
theorem dL_law_7 : decode cL_law 7 = .ok (.astore_n 1, 1) := by decide +kernel
theorem dL_law_8 : decode cL_law 8 = .ok (.iconst 0, 1) := by decide +kernel
theorem dL_law_9 : decode cL_law 9 = .ok (.istore_n 2, 1) := by decide +kernel
theorem dL_law_10 : decode cL_law 10 = .ok (.iload_n 2, 1) := by decide +kernel
theorem dL_law_11 : decode cL_law 11 = .ok (.bipush 16, 2) := by decide +kernel
theorem dL_law_13 : decode cL_law 13 = .ok (.iadd, 1) := by decide +kernel
theorem dL_law_14 : decode cL_law 14 = .ok (.aload_n 0, 1) := by decide +kernel
theorem dL_law_15 : decode cL_law 15 = .ok (.arraylength, 1) := by decide +kernel
theorem dL_law_16 : decode cL_law 16 = .ok (.if_icmp .gt 115, 3) := by decide +kernel
theorem dL_law_19 : decode cL_law 19 = .ok (.iconst 0, 1) := by decide +kernel
theorem dL_law_20 : decode cL_law 20 = .ok (.istore_n 3, 1) := by decide +kernel
theorem dL_law_21 : decode cL_law 21 = .ok (.iload_n 3, 1) := by decide +kernel
theorem dL_law_22 : decode cL_law 22 = .ok (.iconst 4, 1) := by decide +kernel
theorem dL_law_23 : decode cL_law 23 = .ok (.if_icmp .ge 46, 3) := by decide +kernel
theorem dL_law_26 : decode cL_law 26 = .ok (.aload_n 1, 1) := by decide +kernel
theorem dL_law_27 : decode cL_law 27 = .ok (.iload_n 3, 1) := by decide +kernel
theorem dL_law_28 : decode cL_law 28 = .ok (.aload_n 0, 1) := by decide +kernel
theorem dL_law_29 : decode cL_law 29 = .ok (.iload_n 2, 1) := by decide +kernel
theorem dL_law_30 : decode cL_law 30 = .ok (.iaload, 1) := by decide +kernel
theorem dL_law_31 : decode cL_law 31 = .ok (.bipush 6, 2) := by decide +kernel
theorem dL_law_33 : decode cL_law 33 = .ok (.ishr, 1) := by decide +kernel
theorem dL_law_34 : decode cL_law 34 = .ok (.iconst 1, 1) := by decide +kernel
theorem dL_law_35 : decode cL_law 35 = .ok (.iand, 1) := by decide +kernel
theorem dL_law_36 : decode cL_law 36 = .ok (.iadd, 1) := by decide +kernel
theorem dL_law_37 : decode cL_law 37 = .ok (.aload_n 0, 1) := by decide +kernel
theorem dL_law_38 : decode cL_law 38 = .ok (.iload_n 2, 1) := by decide +kernel
theorem dL_law_39 : decode cL_law 39 = .ok (.iconst 2, 1) := by decide +kernel
theorem dL_law_40 : decode cL_law 40 = .ok (.iload_n 3, 1) := by decide +kernel
theorem dL_law_41 : decode cL_law 41 = .ok (.imul, 1) := by decide +kernel
theorem dL_law_42 : decode cL_law 42 = .ok (.iadd, 1) := by decide +kernel
theorem dL_law_43 : decode cL_law 43 = .ok (.iaload, 1) := by decide +kernel
theorem dL_law_44 : decode cL_law 44 = .ok (.bipush 7, 2) := by decide +kernel
theorem dL_law_46 : decode cL_law 46 = .ok (.ishr, 1) := by decide +kernel
theorem dL_law_47 : decode cL_law 47 = .ok (.bipush 7, 2) := by decide +kernel
theorem dL_law_49 : decode cL_law 49 = .ok (.iand, 1) := by decide +kernel
theorem dL_law_50 : decode cL_law 50 = .ok (.bipush 6, 2) := by decide +kernel
theorem dL_law_52 : decode cL_law 52 = .ok (.irem, 1) := by decide +kernel
theorem dL_law_53 : decode cL_law 53 = .ok (.iconst 2, 1) := by decide +kernel
theorem dL_law_54 : decode cL_law 54 = .ok (.isub, 1) := by decide +kernel
theorem dL_law_55 : decode cL_law 55 = .ok (.invokevirtual 31, 3) := by decide +kernel
theorem dL_law_58 : decode cL_law 58 = .ok (.ifCond .eq 5, 3) := by decide +kernel
theorem dL_law_61 : decode cL_law 61 = .ok (.iconst 0, 1) := by decide +kernel
theorem dL_law_62 : decode cL_law 62 = .ok (.ireturn, 1) := by decide +kernel
theorem dL_law_63 : decode cL_law 63 = .ok (.iinc 3 1, 3) := by decide +kernel
theorem dL_law_66 : decode cL_law 66 = .ok (.goto (-45), 3) := by decide +kernel
theorem dL_law_69 : decode cL_law 69 = .ok (.aload_n 1, 1) := by decide +kernel
theorem dL_law_70 : decode cL_law 70 = .ok (.invokevirtual 17, 3) := by decide +kernel
theorem dL_law_73 : decode cL_law 73 = .ok (.ifCond .ge 5, 3) := by decide +kernel
theorem dL_law_76 : decode cL_law 76 = .ok (.iconst 0, 1) := by decide +kernel
theorem dL_law_77 : decode cL_law 77 = .ok (.ireturn, 1) := by decide +kernel
theorem dL_law_78 : decode cL_law 78 = .ok (.aload_n 1, 1) := by decide +kernel
theorem dL_law_79 : decode cL_law 79 = .ok (.aload_n 0, 1) := by decide +kernel
theorem dL_law_80 : decode cL_law 80 = .ok (.iload_n 2, 1) := by decide +kernel
theorem dL_law_81 : decode cL_law 81 = .ok (.iload_n 2, 1) := by decide +kernel
theorem dL_law_82 : decode cL_law 82 = .ok (.bipush 16, 2) := by decide +kernel
theorem dL_law_84 : decode cL_law 84 = .ok (.iadd, 1) := by decide +kernel
theorem dL_law_85 : decode cL_law 85 = .ok (.invokestatic 34, 3) := by decide +kernel
theorem dL_law_88 : decode cL_law 88 = .ok (.aload_n 1, 1) := by decide +kernel
theorem dL_law_89 : decode cL_law 89 = .ok (.invokevirtual 21, 3) := by decide +kernel
theorem dL_law_92 : decode cL_law 92 = .ok (.istore_n 3, 1) := by decide +kernel
theorem dL_law_93 : decode cL_law 93 = .ok (.iload_n 3, 1) := by decide +kernel
theorem dL_law_94 : decode cL_law 94 = .ok (.ifCond .ge 5, 3) := by decide +kernel
theorem dL_law_97 : decode cL_law 97 = .ok (.iconst 0, 1) := by decide +kernel
theorem dL_law_98 : decode cL_law 98 = .ok (.ireturn, 1) := by decide +kernel
theorem dL_law_99 : decode cL_law 99 = .ok (.iconst 0, 1) := by decide +kernel
theorem dL_law_100 : decode cL_law 100 = .ok (.istore 4, 2) := by decide +kernel
theorem dL_law_102 : decode cL_law 102 = .ok (.iload 4, 2) := by decide +kernel
theorem dL_law_104 : decode cL_law 104 = .ok (.iconst 5, 1) := by decide +kernel
theorem dL_law_105 : decode cL_law 105 = .ok (.if_icmp .ge 20, 3) := by decide +kernel
theorem dL_law_108 : decode cL_law 108 = .ok (.aload_n 1, 1) := by decide +kernel
theorem dL_law_109 : decode cL_law 109 = .ok (.iload 4, 2) := by decide +kernel
theorem dL_law_111 : decode cL_law 111 = .ok (.invokestatic 40, 3) := by decide +kernel
theorem dL_law_114 : decode cL_law 114 = .ok (.ifCond .ne 5, 3) := by decide +kernel
theorem dL_law_117 : decode cL_law 117 = .ok (.iconst 0, 1) := by decide +kernel
theorem dL_law_118 : decode cL_law 118 = .ok (.ireturn, 1) := by decide +kernel
theorem dL_law_119 : decode cL_law 119 = .ok (.iinc 4 1, 3) := by decide +kernel
theorem dL_law_122 : decode cL_law 122 = .ok (.goto (-20), 3) := by decide +kernel
theorem dL_law_125 : decode cL_law 125 = .ok (.iinc 2 16, 3) := by decide +kernel
theorem dL_law_128 : decode cL_law 128 = .ok (.goto (-118), 3) := by decide +kernel
theorem dL_law_131 : decode cL_law 131 = .ok (.iconst 1, 1) := by decide +kernel
theorem dL_law_132 : decode cL_law 132 = .ok (.ireturn, 1) := by decide +kernel
abbrev vwCl : List vw_C := [(RX0, TX0, 17)]
end
section
/-! what a state is: scalar fields and arrays by the field's slot; worlds; rows of the kit for whole worlds -/
abbrev st_T : Type := (Nat → Int32) × (Nat → Nat → Int32)
def st_si (u : st_T) (k : Nat) (v : Int32) : st_T := (va_up u.1 k v, u.2)
def st_sa (u : st_T) (k i : Nat) (v : Int32) : st_T := (u.1, va_up u.2 k (upd (u.2 k) i v))
def st_sf (u : st_T) (k : Nat) (f : Nat → Int32) : st_T := (u.1, va_up u.2 k f)
theorem st_si_2 (u : st_T) (k : Nat) (v : Int32) (j : Nat) : (st_si u k v).2 j = u.2 j := rfl
theorem st_sa_2 (u : st_T) {k j : Nat} (i : Nat) (v : Int32) (h : j ≠ k) : (st_sa u k i v).2 j = u.2 j := va_up_ne _ _ h
theorem st_sf_2 (u : st_T) {k j : Nat} (f : Nat → Int32) (h : j ≠ k) : (st_sf u k f).2 j = u.2 j := va_up_ne _ _ h
def pj_fill (n : Nat) (v : Int32) (f : Nat → Int32) : Nat → Int32 := fun j => if j < n then v else f j
abbrev ix (i : Int32) : Nat := i.toNatClampNeg
abbrev ty_IZ (cI cZ : ClassId) : List (ClassId × FieldType) := [(cI, .int), (cZ, .boolean)]
def gx_ (D : va_G) (A : Nat → Prop) (H0 H : Heap) (locs : List Loc) (ws : va_W) : Prop := va_P D vwCl ws H ∧ va_D A ws ∧ va_S A H0 H locs
def gx_I (D : va_G) (cI cZ : ClassId) (ws : va_W) (sz : Nat) : State → Prop := fun U => U.heap.size = sz ∧ va_P D vwCl ws U.heap ∧ va_K D vwCl (ty_IZ cI cZ) U ∧ va_D (fun _ => True) ws
def gx_O {S : Type} (D : va_G) (cI cZ : ClassId) (wf : S → va_W) (ws : va_W) (sz : Nat) : S → State → Prop := fun u t => va_P D vwCl (wf u) t.heap ∧ va_K D vwCl (ty_IZ cI cZ) t ∧ va_D (va_A ws sz) (wf u)
theorem gx_blind {av : List Value} {D : va_G} {cI cZ : ClassId} {ws : va_W} {sz : Nat} : FrameBlind (va_Pc av (gx_I D cI cZ ws sz)) := fun a U g mk h => by
  obtain ⟨h0, h1, h2, h3, h4⟩ := h
  exact ⟨h0, h1, h2, va_K.moved (u := U) (U := U.calling g mk a) (Vm.Alike.refl U.vm) h3, h4⟩
theorem gx_in {C : String} {T : u_T} {N : Nat} {x : Cond} {l : List Cond} : ∀ w ∈ u_ws C T N, w ∈ x :: (l ++ u_ws C T N) := fun _ h => List.mem_cons_of_mem _ (List.mem_append_right _ h)
/-- the contracts of this proof: an int or nothing comes back, the world goes over -/
abbrev gx_Mi {S : Type} (l : Launch) (y : MethodName) (wsy : List Cond) (rm : Room) (av : List Value) (D : va_G) (cI cZ : ClassId) (wf : S → va_W) (u : S) (sz : Nat) (f : Int32 × S) : Prop :=
  Met l y wsy rm (va_Pc av (gx_I D cI cZ (wf u) sz)) (va_Qi (fun r u1 => r = f.1 ∧ u1 = f.2) (gx_O D cI cZ wf (wf u) sz) (va_A (wf u) sz)) 0 0 (va_A (wf u) sz)
abbrev gx_Mv {S : Type} (l : Launch) (y : MethodName) (wsy : List Cond) (rm : Room) (av : List Value) (D : va_G) (cI cZ : ClassId) (wf : S → va_W) (u : S) (sz : Nat) (f : S) : Prop :=
  Met l y wsy rm (va_Pc av (gx_I D cI cZ (wf u) sz)) (va_Qv (fun u1 => u1 = f) (gx_O D cI cZ wf (wf u) sz) (va_A (wf u) sz)) 0 0 (va_A (wf u) sz)
abbrev gx_Ms (l : Launch) (y : MethodName) (wsy : List Cond) (rm : Room) (av : List Value) (f : Int32) : Prop :=
  Met l y wsy rm (fun v _ => v = av.toArray) (vp_Si (fun r => r = f)) 0 0 (fun _ => False)
theorem gx_met {y : MethodName} {l : Launch} {wsy ws' : List Cond} {rm : Room} {cc : ByteArray} {maxL : Nat} {ret : Option FieldType} {av : List Value} {D : va_G} {cI cZ : ClassId} {ws0 : va_W} {sz : Nat} {Qc : Array Value → State → Outcome → State → Prop} {free : Addr → Prop}
    (hy : plainFor y = true) (hw : wsy = Cond.code y cc maxL ret :: ws') (hle : (lg_sl av).length ≤ maxL)
    (body : ∀ (p : Program) (e : Env) (s : State) (m : MethodId) (args : Array Value) (below : List Frame) (meth : Method) (c : Code) (A : Nat → Prop) (ls : Array Slot), s.heap.size = sz → p.tables.exec = Jvm.exec → c.code = cc → meth.sig.returnType = ret → meth.locks = false → (∀ w ∈ wsy, w.before args s = true) → s.vm.findClass y.cls = some m.cls → c.maxLocals = maxL → va_K D vwCl (ty_IZ cI cZ) s → A = va_A ws0 sz → (∀ x, s.heap.size ≤ x → A x) → gx_ D A s.heap s.heap [] ws0 → lv_has ls maxL (lv_args 0 av) →
      W p l e rm s m args below meth c s.heap [] 0 0 (MQ below Qc args s 0 0 free) (F0 m 0 ls [])) : Met l y wsy rm (va_Pc av (gx_I D cI cZ ws0 sz)) Qc 0 0 free := by
  refine va_MetF (cc := cc) (maxL := maxL) (ret := ret) hy hw ?_
  intro p e s m args below meth c s₁ B hml hv
  obtain ⟨rfl, hsz, hP, hK, hD0⟩ := hv
  have hts := atoms_spec (ws := wsy) B.pre
  rw [lg_entry_eq]
  subst hsz
  exact body p e s m _ below meth c (va_A ws0 s.heap.size) _ rfl B.exec B.bytes B.returns B.notSynchronized hts (findClass_of_methodNamed B.named) hml hK rfl (fun x hx => Or.inr hx) ⟨hP, hD0.self, va_S.rf⟩ (lv_entry av hle)
theorem gx_metS {y : MethodName} {l : Launch} {wsy ws' : List Cond} {rm : Room} {cc : ByteArray} {maxL : Nat} {ret : Option FieldType} {av : List Value} {Qc : Array Value → State → Outcome → State → Prop} {free : Addr → Prop}
    (hy : plainFor y = true) (hw : wsy = Cond.code y cc maxL ret :: ws') (hle : (lg_sl av).length ≤ maxL)
    (body : ∀ (p : Program) (e : Env) (s : State) (m : MethodId) (args : Array Value) (below : List Frame) (meth : Method) (c : Code) (ls : Array Slot), p.tables.exec = Jvm.exec → c.code = cc → meth.sig.returnType = ret → meth.locks = false → (∀ w ∈ wsy, w.before args s = true) → s.vm.findClass y.cls = some m.cls → c.maxLocals = maxL → lv_has ls maxL (lv_args 0 av) →
      W p l e rm s m args below meth c s.heap [] 0 0 (MQ below Qc args s 0 0 free) (F0 m 0 ls [])) : Met l y wsy rm (fun v _ => v = av.toArray) Qc 0 0 free := by
  refine va_MetF (cc := cc) (maxL := maxL) (ret := ret) hy hw ?_
  intro p e s m args below meth c s₁ B hml hv
  subst hv
  have hts := atoms_spec (ws := wsy) B.pre
  rw [lg_entry_eq]
  exact body p e s m _ below meth c _ B.exec B.bytes B.returns B.notSynchronized hts (findClass_of_methodNamed B.named) hml (lv_entry av hle)
section GX
variable {p : Program} {l : Launch} {e : Env} {R : Room} {s : State} {m : MethodId} {args : Array Value} {below : List Frame} {meth : Method} {c : Code} {H : Heap} {locs : List Loc} {cells slots : Nat} {Q : State → Prop}
variable {cc : ByteArray} {pc : Nat} {ls : Array Slot} {rest : List Value} {D : va_G} {A : Nat → Prop} {H0 : Heap} {cI cZ : ClassId} {h : Nat} {q : Nat → Nat} {u : st_T} {Ts : List Cond} {own : String} {sz : Nat} {ws0 : va_W}
theorem gx_iret {S : Type} {wf : S → va_W} {u1 : S} {f : Int32 × S} {v : Int32} (hx : p.tables.exec = Jvm.exec) (hb : c.code = cc) (hr : meth.sig.returnType = some .int) (hlocks : meth.locks = false) (hsz : s.heap.size = sz) (hK : va_K D vwCl (ty_IZ cI cZ) s) (hAe : A = va_A ws0 sz) (G : gx_ D A s.heap H locs (wf u1)) (hdg : decode cc pc = .ok (.ireturn, 1)) (hp : f = (v, u1)) :
    W p l e R s m args below meth c H locs cells slots (MQ below (va_Qi (fun r u1 => r = f.1 ∧ u1 = f.2) (gx_O D cI cZ wf ws0 sz) (va_A ws0 sz)) args s cells slots (va_A ws0 sz)) (F0 m pc ls [.int v]) := by
  subst hAe
  subst hp
  exact W.iret hx hb hr (fun t ht hW => ⟨⟨v, u1, rfl, ⟨rfl, rfl⟩, by rw [ht]; exact G.1, va_K.moved hW.alike hK, G.2.1⟩, G.2.2.F ht⟩) G.2.2.2.2 hdg hlocks
theorem gx_zret {S : Type} {wf : S → va_W} {u1 : S} {f : Int32 × S} {v : Int32} (hx : p.tables.exec = Jvm.exec) (hb : c.code = cc) (hr : meth.sig.returnType = some .boolean) (hlocks : meth.locks = false) (hsz : s.heap.size = sz) (hK : va_K D vwCl (ty_IZ cI cZ) s) (hAe : A = va_A ws0 sz) (G : gx_ D A s.heap H locs (wf u1)) (hdg : decode cc pc = .ok (.ireturn, 1)) (hn : narrow .boolean (.int v) = .int v) (hp : f = (v, u1)) :
    W p l e R s m args below meth c H locs cells slots (MQ below (va_Qi (fun r u1 => r = f.1 ∧ u1 = f.2) (gx_O D cI cZ wf ws0 sz) (va_A ws0 sz)) args s cells slots (va_A ws0 sz)) (F0 m pc ls [.int v]) := by
  subst hAe
  subst hp
  exact W.zret hx hb hr hn (fun t ht hW => ⟨⟨v, u1, rfl, ⟨rfl, rfl⟩, by rw [ht]; exact G.1, va_K.moved hW.alike hK, G.2.1⟩, G.2.2.F ht⟩) G.2.2.2.2 hdg hlocks
theorem gx_vret {S : Type} {wf : S → va_W} {u1 : S} {f : S} (hx : p.tables.exec = Jvm.exec) (hb : c.code = cc) (hr : meth.sig.returnType = none) (hlocks : meth.locks = false) (hsz : s.heap.size = sz) (hK : va_K D vwCl (ty_IZ cI cZ) s) (hAe : A = va_A ws0 sz) (G : gx_ D A s.heap H locs (wf u1)) (hdg : decode cc pc = .ok (.return_, 1)) (hp : f = u1) :
    W p l e R s m args below meth c H locs cells slots (MQ below (va_Qv (fun u1 => u1 = f) (gx_O D cI cZ wf ws0 sz) (va_A ws0 sz)) args s cells slots (va_A ws0 sz)) (F0 m pc ls []) := by
  subst hAe
  subst hp
  exact W.vret hx hb hr (fun t ht hW => ⟨⟨_, rfl, rfl, by rw [ht]; exact G.1, va_K.moved hW.alike hK, G.2.1⟩, G.2.2.F ht⟩) G.2.2.2.2 hdg hlocks
theorem gx_sret {f v : Int32} (hx : p.tables.exec = Jvm.exec) (hb : c.code = cc) (hr : meth.sig.returnType = some .int) (hlocks : meth.locks = false) (hdg : decode cc pc = .ok (.ireturn, 1)) (hp : f = v) :
    W p l e R s m args below meth c s.heap [] cells slots (MQ below (vp_Si (fun r => r = f)) args s cells slots (fun _ => False)) (F0 m pc ls [.int v]) := by
  subst hp
  exact W.iret hx hb hr (fun t ht hW => ⟨_, rfl, rfl, ht⟩) (fun _ h => by cases h) hdg hlocks
theorem gx_szret {f v : Int32} (hx : p.tables.exec = Jvm.exec) (hb : c.code = cc) (hr : meth.sig.returnType = some .boolean) (hlocks : meth.locks = false) (hdg : decode cc pc = .ok (.ireturn, 1)) (hn : narrow .boolean (.int v) = .int v) (hp : f = v) :
    W p l e R s m args below meth c s.heap [] cells slots (MQ below (vp_Si (fun r => r = f)) args s cells slots (fun _ => False)) (F0 m pc ls [.int v]) := by
  subst hp
  exact W.zret hx hb hr hn (fun t ht hW => ⟨_, rfl, rfl, ht⟩) (fun _ h => by cases h) hdg hlocks
theorem gx_free {ws : va_W} (hA : ∀ x, H0.size ≤ x → A x) (G : gx_ D A H0 H locs ws) : ∀ x, va_A ws H.size x → A x := fun x hx => hx.elim (fun ⟨k, e, hk⟩ => G.2.1.2 k (x, e) hk) (fun hx => hA x (Nat.le_trans G.2.2.1 hx))
theorem gx_calli {S : Type} {wf : S → va_W} {u : S} {f : Int32 × S} {C : String} {T : u_T} {N ci : Nat} {fs : List Value} {index maxL nL : Nat} {y : MethodName} {bytes : ByteArray} {ret : Option FieldType} {wsy ws' : List Cond} {rm : Room} {As st0 : List Value} (n : Nat)
    (hx : p.tables.exec = Jvm.exec) (hb : c.code = cc) (hml : c.maxLocals = nL) (hown : s.vm.findClass own = some m.cls) (hts : ∀ w ∈ Ts, w.before args s = true) (hK : va_K D vwCl (ty_IZ cI cZ) s) (hA : ∀ x, H0.size ≤ x → A x) (G : gx_ D A H0 H locs (wf u)) (hrec : (wf u)[0]? = some (h, .inr (ci, fs))) (hc : vwCl[ci]? = some (C, T, N))
    (hM : gx_Mi l y wsy rm (.ref h :: As) D cI cZ wf u H.size f) (gin : GoodIn Ts (wsV own index C y wsy)) (hw : wsy = Cond.code y bytes maxL ret :: ws') (hr0 : rm.cells = 0) (hr1 : rm.slots = 0)
    (hd : y.cls = C ∧ y.cls ≠ "java/lang/invoke/MethodHandle" ∧ y.cls ≠ "java/lang/invoke/VarHandle" ∧ (parseMethodDescriptor y.desc).map (fun d => d.parameters.length) = some n) (hR : rm.frames + 1 ≤ R.frames ∧ 8 + (maxL + 11) + rm.locals ≤ R.locals)
    (hn : As.length = n) (hls : ls.size = nL) (hst : st0 = As.reverse ++ .ref h :: rest) (hroom : (rest.map fun v => v.category).sum ≤ 8) (hdg : decode cc pc = .ok (.invokevirtual index, 3)) (hcl : cells ≤ R.cells) (hsl : slots ≤ R.slots)
    (kk : ∀ (H1 : Heap) (locs1 : List Loc), gx_ D A H0 H1 locs1 (wf f.2) → W p l e R s m args below meth c H1 locs1 cells slots Q (F0 m (pc + 3) ls (.int f.1 :: rest))) : W p l e R s m args below meth c H locs cells slots Q (F0 m pc ls st0) := by
  have hFc := gx_free hA G
  obtain ⟨hP, hD, hS⟩ := G
  refine va_calli (va_runV (As := As) (rest := rest) ⟨hx, hb, hml, hown, hts⟩ hM (cwV n hts gin hw hr0 hr1 hd hR) ⟨gx_blind, va_recv hK hP hc hrec, fun U hU hW => ⟨rfl, by rw [hU], by rw [hU]; exact hP, va_K.moved hW.alike hK, hD.weaken (fun _ _ _ _ => trivial)⟩⟩ rfl hn hls hst (lv_room hroom) hdg ⟨hcl, hsl⟩) hS (fun x _ h => hFc x h) hFc (fun r u1 t H1 locs1 ht hvm hw hB hz1 hk1 hS1 => ?_)
  obtain ⟨hP1, hK1, hD1⟩ := hB
  obtain ⟨rfl, rfl⟩ := hw
  rw [ht] at hP1
  exact kk H1 locs1 ⟨hP1, hD1.weaken (fun _ _ _ z => hFc _ z), hS1⟩
theorem gx_callv {S : Type} {wf : S → va_W} {u : S} {f : S} {C : String} {T : u_T} {N ci : Nat} {fs : List Value} {index maxL nL : Nat} {y : MethodName} {bytes : ByteArray} {ret : Option FieldType} {wsy ws' : List Cond} {rm : Room} {As st0 : List Value} (n : Nat)
    (hx : p.tables.exec = Jvm.exec) (hb : c.code = cc) (hml : c.maxLocals = nL) (hown : s.vm.findClass own = some m.cls) (hts : ∀ w ∈ Ts, w.before args s = true) (hK : va_K D vwCl (ty_IZ cI cZ) s) (hA : ∀ x, H0.size ≤ x → A x) (G : gx_ D A H0 H locs (wf u)) (hrec : (wf u)[0]? = some (h, .inr (ci, fs))) (hc : vwCl[ci]? = some (C, T, N))
    (hM : gx_Mv l y wsy rm (.ref h :: As) D cI cZ wf u H.size f) (gin : GoodIn Ts (wsV own index C y wsy)) (hw : wsy = Cond.code y bytes maxL ret :: ws') (hr0 : rm.cells = 0) (hr1 : rm.slots = 0)
    (hd : y.cls = C ∧ y.cls ≠ "java/lang/invoke/MethodHandle" ∧ y.cls ≠ "java/lang/invoke/VarHandle" ∧ (parseMethodDescriptor y.desc).map (fun d => d.parameters.length) = some n) (hR : rm.frames + 1 ≤ R.frames ∧ 8 + (maxL + 11) + rm.locals ≤ R.locals)
    (hn : As.length = n) (hls : ls.size = nL) (hst : st0 = As.reverse ++ .ref h :: rest) (hroom : (rest.map fun v => v.category).sum ≤ 8) (hdg : decode cc pc = .ok (.invokevirtual index, 3)) (hcl : cells ≤ R.cells) (hsl : slots ≤ R.slots)
    (kk : ∀ (H1 : Heap) (locs1 : List Loc), gx_ D A H0 H1 locs1 (wf f) → W p l e R s m args below meth c H1 locs1 cells slots Q (F0 m (pc + 3) ls rest)) : W p l e R s m args below meth c H locs cells slots Q (F0 m pc ls st0) := by
  have hFc := gx_free hA G
  obtain ⟨hP, hD, hS⟩ := G
  refine va_callv (va_runV (As := As) (rest := rest) ⟨hx, hb, hml, hown, hts⟩ hM (cwV n hts gin hw hr0 hr1 hd hR) ⟨gx_blind, va_recv hK hP hc hrec, fun U hU hW => ⟨rfl, by rw [hU], by rw [hU]; exact hP, va_K.moved hW.alike hK, hD.weaken (fun _ _ _ _ => trivial)⟩⟩ rfl hn hls hst (lv_room hroom) hdg ⟨hcl, hsl⟩) hS (fun x _ h => hFc x h) hFc (fun u1 t H1 locs1 ht hvm hw hB hz1 hk1 hS1 => ?_)
  obtain ⟨hP1, hK1, hD1⟩ := hB
  subst hw
  rw [ht] at hP1
  exact kk H1 locs1 ⟨hP1, hD1.weaken (fun _ _ _ z => hFc _ z), hS1⟩
theorem gx_calls {f : Int32} {index maxL nL : Nat} {y : MethodName} {bytes : ByteArray} {ret : Option FieldType} {wsy ws' : List Cond} {rm : Room} {As st0 : List Value} (n : Nat)
    (hx : p.tables.exec = Jvm.exec) (hb : c.code = cc) (hml : c.maxLocals = nL) (hown : s.vm.findClass own = some m.cls) (hts : ∀ w ∈ Ts, w.before args s = true)
    (hM : gx_Ms l y wsy rm As f) (gin : GoodIn Ts (va_wsS own index y wsy)) (hw : wsy = Cond.code y bytes maxL ret :: ws') (hr0 : rm.cells = 0) (hr1 : rm.slots = 0)
    (hd : y.cls ≠ "java/lang/invoke/MethodHandle" ∧ y.cls ≠ "java/lang/invoke/VarHandle" ∧ (parseMethodDescriptor y.desc).map (fun d => d.parameters.length) = some n) (hR : rm.frames + 1 ≤ R.frames ∧ 8 + (maxL + 11) + rm.locals ≤ R.locals)
    (hn : As.length = n) (hls : ls.size = nL) (hst : st0 = As.reverse ++ rest) (hroom : (rest.map fun v => v.category).sum ≤ 8) (hdg : decode cc pc = .ok (.invokestatic index, 3)) (hcl : cells ≤ R.cells) (hsl : slots ≤ R.slots)
    (kk : W p l e R s m args below meth c H locs cells slots Q (F0 m (pc + 3) ls (.int f :: rest))) : W p l e R s m args below meth c H locs cells slots Q (F0 m pc ls st0) :=
  vp_callSi (W.runS ⟨hx, hb, hml, hown, hts⟩ hM (va_cwS n hts gin hw hr0 hr1 hd hR) preEq rfl hn hls hst (lv_room hroom) hdg ⟨hcl, hsl⟩) (fun r hr => by subst hr; exact kk)
def gf0_ (q : Nat → Nat) (u : st_T) : List Value := [.ref (q 0), .int (u.1 1), .ref (q 2), .int (u.1 3), .int (u.1 4), .ref (q 5), .ref (q 6), .ref (q 7), .ref (q 8), .int (u.1 9), .int (u.1 10), .int (u.1 11), .ref (q 12), .int (u.1 13), .ref (q 14), .int (u.1 15), .int (u.1 16)]
def gw0_ (cI cZ : ClassId) (h : Nat) (q : Nat → Nat) (u : st_T) : va_W := [(h, .inr (0, gf0_ q u)), (q 0, .inl (cI, 5, .inl (u.2 0))), (q 2, .inl (cZ, 4, .inl (u.2 2))), (q 5, .inl (cI, 24, .inl (u.2 5))), (q 6, .inl (cI, 24, .inl (u.2 6))), (q 7, .inl (cI, 24, .inl (u.2 7))), (q 8, .inl (cI, 24, .inl (u.2 8))), (q 12, .inl (cI, 24, .inl (u.2 12))), (q 14, .inl (cI, 5, .inl (u.2 14)))]
theorem gt0_ : ∀ k, (TX0 k).1 = "MonitorDesk" := fun k => by unfold TX0; split <;> rfl
theorem gg0_get (hx : p.tables.exec = Jvm.exec) (hb : c.code = cc) (hts : ∀ w ∈ Ts, w.before args s = true) (hin : ∀ w ∈ wsX00, w ∈ Ts) (hown : s.vm.findClass RX0 = some m.cls) (hK : va_K D vwCl (ty_IZ cI cZ) s) (G : gx_ D A H0 H locs (gw0_ cI cZ h q u)) (k : Nat) (hk : k < 17) {index : Nat} (hlk : (Cond.fieldLink RX0 index "MonitorDesk" (TX0 k).2.1 (TX0 k).2.2.1) ∈ Ts) {v : Value} (hv : (gf0_ q u)[k]? = some v) (hdg : decode cc pc = .ok (.getfield index, 3))
    (kk : W p l e R s m args below meth c H locs cells slots Q (F0 m (pc + 3) ls (v :: rest))) : W p l e R s m args below meth c H locs cells slots Q (F0 m pc ls (.ref h :: rest)) :=
  va_get (D := D) (ci := 0) (C := RX0) (T := TX0) (N := 17) hx hb hts hin hown hK G.1 0 rfl rfl k hk (hts _ hlk) (fun x h9 => by rw [gt0_ k] at h9; exact h9) hv hdg kk
theorem gg0_putW (hx : p.tables.exec = Jvm.exec) (hb : c.code = cc) (hts : ∀ w ∈ Ts, w.before args s = true) (hin : ∀ w ∈ wsX00, w ∈ Ts) (hown : s.vm.findClass RX0 = some m.cls) (hK : va_K D vwCl (ty_IZ cI cZ) s) (G : gx_ D A H0 H locs (gw0_ cI cZ h q u)) (k : Nat) (hk : k < 17) {index : Nat} (hlk : (Cond.fieldLink RX0 index "MonitorDesk" (TX0 k).2.1 (TX0 k).2.2.1) ∈ Ts) {v : Int32} (hfin : (TX0 k).2.2.2 = false) (hn : narrow (tyX0 k) (.int v) = .int v) (hfit : fits (tyX0 k) (.int v) = true) (hset : (gw0_ cI cZ h q u).set 0 (h, .inr (0, (gf0_ q u).set k (.int v))) = gw0_ cI cZ h q (st_si u k v)) (hdg : decode cc pc = .ok (.putfield index, 3))
    (kk : ∀ (H1 : Heap) (locs1 : List Loc), gx_ D A H0 H1 locs1 (gw0_ cI cZ h q (st_si u k v)) → W p l e R s m args below meth c H1 locs1 cells slots Q (F0 m (pc + 3) ls rest)) : W p l e R s m args below meth c H locs cells slots Q (F0 m pc ls (.int v :: .ref h :: rest)) :=
  va_put (D := D) (ci := 0) (ty := tyX0 k) (C := RX0) (T := TX0) (N := 17) hx hb hts hin tyX0 tyX0_ok nmX0 hown hK G.1 G.2.1 G.2.2 0 rfl rfl k hk (hts _ hlk) (fun x h9 => by rw [gt0_ k] at h9; exact h9) hfin (tyX0_ok k hk) hn hfit (by simpa [gf0_] using hk) hdg (fun H1 locs1 h1 h2 h3 => kk H1 locs1 ⟨hset ▸ h1, hset ▸ h2, h3⟩)
theorem gg0_ld0 (hx : p.tables.exec = Jvm.exec) (hb : c.code = cc) (hK : va_K D vwCl (ty_IZ cI cZ) s) (G : gx_ D A H0 H locs (gw0_ cI cZ h q u)) {i : Int32} (hi : vp_in i 5) (hdg : decode cc pc = .ok (.iaload, 1))
    (kk : W p l e R s m args below meth c H locs cells slots Q (F0 m (pc + 1) ls (.int (u.2 0 (ix i)) :: rest))) : W p l e R s m args below meth c H locs cells slots Q (F0 m pc ls (.int i :: .ref (q 0) :: rest)) :=
  va_iald hx hb hK G.1 1 0 rfl rfl hi hdg kk
theorem gg0_st0 (hx : p.tables.exec = Jvm.exec) (hb : c.code = cc) (hK : va_K D vwCl (ty_IZ cI cZ) s) (G : gx_ D A H0 H locs (gw0_ cI cZ h q u)) {i x : Int32} (hi : vp_in i 5) (hdg : decode cc pc = .ok (.iastore, 1))
    (kk : ∀ (H1 : Heap) (locs1 : List Loc), gx_ D A H0 H1 locs1 (gw0_ cI cZ h q (st_sa u 0 (ix i) x)) → W p l e R s m args below meth c H1 locs1 cells slots Q (F0 m (pc + 1) ls rest)) : W p l e R s m args below meth c H locs cells slots Q (F0 m pc ls (.int x :: .int i :: .ref (q 0) :: rest)) :=
  va_iast hx hb hK G.1 G.2.1 G.2.2 1 0 rfl rfl hi hdg (fun H1 locs1 h1 h2 h3 => kk H1 locs1 ⟨h1, h2, h3⟩)
theorem gg0_put1 (hx : p.tables.exec = Jvm.exec) (hb : c.code = cc) (hts : ∀ w ∈ Ts, w.before args s = true) (hin : ∀ w ∈ wsX00, w ∈ Ts) (hown : s.vm.findClass RX0 = some m.cls) (hK : va_K D vwCl (ty_IZ cI cZ) s) (G : gx_ D A H0 H locs (gw0_ cI cZ h q u)) {index : Nat} (hlk : (Cond.fieldLink RX0 index "MonitorDesk" (TX0 1).2.1 (TX0 1).2.2.1) ∈ Ts) {v : Int32} (hdg : decode cc pc = .ok (.putfield index, 3))
    (kk : ∀ (H1 : Heap) (locs1 : List Loc), gx_ D A H0 H1 locs1 (gw0_ cI cZ h q (st_si u 1 v)) → W p l e R s m args below meth c H1 locs1 cells slots Q (F0 m (pc + 3) ls rest)) : W p l e R s m args below meth c H locs cells slots Q (F0 m pc ls (.int v :: .ref h :: rest)) :=
  gg0_putW hx hb hts hin hown hK G 1 (by decide) hlk rfl rfl rfl rfl hdg kk
theorem gg0_ld2 (hx : p.tables.exec = Jvm.exec) (hb : c.code = cc) (hK : va_K D vwCl (ty_IZ cI cZ) s) (G : gx_ D A H0 H locs (gw0_ cI cZ h q u)) {i : Int32} (hi : vp_in i 4) (hdg : decode cc pc = .ok (.baload, 1))
    (kk : W p l e R s m args below meth c H locs cells slots Q (F0 m (pc + 1) ls (.int (u.2 2 (ix i)) :: rest))) : W p l e R s m args below meth c H locs cells slots Q (F0 m pc ls (.int i :: .ref (q 2) :: rest)) :=
  va_zald hx hb hK G.1 2 1 rfl rfl hi hdg kk
theorem gg0_st2 (hx : p.tables.exec = Jvm.exec) (hb : c.code = cc) (hK : va_K D vwCl (ty_IZ cI cZ) s) (G : gx_ D A H0 H locs (gw0_ cI cZ h q u)) {i x : Int32} (hi : vp_in i 4) (hn : vp_nar .boolean x = x) (hdg : decode cc pc = .ok (.bastore, 1))
    (kk : ∀ (H1 : Heap) (locs1 : List Loc), gx_ D A H0 H1 locs1 (gw0_ cI cZ h q (st_sa u 2 (ix i) x)) → W p l e R s m args below meth c H1 locs1 cells slots Q (F0 m (pc + 1) ls rest)) : W p l e R s m args below meth c H locs cells slots Q (F0 m pc ls (.int x :: .int i :: .ref (q 2) :: rest)) :=
  va_zast hx hb hK G.1 G.2.1 G.2.2 2 1 rfl rfl hi hdg (fun H1 locs1 h1 h2 h3 => by rw [hn] at h1 h2; exact kk H1 locs1 ⟨h1, h2, h3⟩)
theorem gg0_put3 (hx : p.tables.exec = Jvm.exec) (hb : c.code = cc) (hts : ∀ w ∈ Ts, w.before args s = true) (hin : ∀ w ∈ wsX00, w ∈ Ts) (hown : s.vm.findClass RX0 = some m.cls) (hK : va_K D vwCl (ty_IZ cI cZ) s) (G : gx_ D A H0 H locs (gw0_ cI cZ h q u)) {index : Nat} (hlk : (Cond.fieldLink RX0 index "MonitorDesk" (TX0 3).2.1 (TX0 3).2.2.1) ∈ Ts) {v : Int32} (hdg : decode cc pc = .ok (.putfield index, 3))
    (kk : ∀ (H1 : Heap) (locs1 : List Loc), gx_ D A H0 H1 locs1 (gw0_ cI cZ h q (st_si u 3 v)) → W p l e R s m args below meth c H1 locs1 cells slots Q (F0 m (pc + 3) ls rest)) : W p l e R s m args below meth c H locs cells slots Q (F0 m pc ls (.int v :: .ref h :: rest)) :=
  gg0_putW hx hb hts hin hown hK G 3 (by decide) hlk rfl rfl rfl rfl hdg kk
theorem gg0_put4 (hx : p.tables.exec = Jvm.exec) (hb : c.code = cc) (hts : ∀ w ∈ Ts, w.before args s = true) (hin : ∀ w ∈ wsX00, w ∈ Ts) (hown : s.vm.findClass RX0 = some m.cls) (hK : va_K D vwCl (ty_IZ cI cZ) s) (G : gx_ D A H0 H locs (gw0_ cI cZ h q u)) {index : Nat} (hlk : (Cond.fieldLink RX0 index "MonitorDesk" (TX0 4).2.1 (TX0 4).2.2.1) ∈ Ts) {v : Int32} (hn : narrow .boolean (.int v) = .int v) (hf : fits .boolean (.int v) = true) (hdg : decode cc pc = .ok (.putfield index, 3))
    (kk : ∀ (H1 : Heap) (locs1 : List Loc), gx_ D A H0 H1 locs1 (gw0_ cI cZ h q (st_si u 4 v)) → W p l e R s m args below meth c H1 locs1 cells slots Q (F0 m (pc + 3) ls rest)) : W p l e R s m args below meth c H locs cells slots Q (F0 m pc ls (.int v :: .ref h :: rest)) :=
  gg0_putW hx hb hts hin hown hK G 4 (by decide) hlk rfl hn hf rfl hdg kk
theorem gg0_ld5 (hx : p.tables.exec = Jvm.exec) (hb : c.code = cc) (hK : va_K D vwCl (ty_IZ cI cZ) s) (G : gx_ D A H0 H locs (gw0_ cI cZ h q u)) {i : Int32} (hi : vp_in i 24) (hdg : decode cc pc = .ok (.iaload, 1))
    (kk : W p l e R s m args below meth c H locs cells slots Q (F0 m (pc + 1) ls (.int (u.2 5 (ix i)) :: rest))) : W p l e R s m args below meth c H locs cells slots Q (F0 m pc ls (.int i :: .ref (q 5) :: rest)) :=
  va_iald hx hb hK G.1 3 0 rfl rfl hi hdg kk
theorem gg0_st5 (hx : p.tables.exec = Jvm.exec) (hb : c.code = cc) (hK : va_K D vwCl (ty_IZ cI cZ) s) (G : gx_ D A H0 H locs (gw0_ cI cZ h q u)) {i x : Int32} (hi : vp_in i 24) (hdg : decode cc pc = .ok (.iastore, 1))
    (kk : ∀ (H1 : Heap) (locs1 : List Loc), gx_ D A H0 H1 locs1 (gw0_ cI cZ h q (st_sa u 5 (ix i) x)) → W p l e R s m args below meth c H1 locs1 cells slots Q (F0 m (pc + 1) ls rest)) : W p l e R s m args below meth c H locs cells slots Q (F0 m pc ls (.int x :: .int i :: .ref (q 5) :: rest)) :=
  va_iast hx hb hK G.1 G.2.1 G.2.2 3 0 rfl rfl hi hdg (fun H1 locs1 h1 h2 h3 => kk H1 locs1 ⟨h1, h2, h3⟩)
theorem gg0_ld6 (hx : p.tables.exec = Jvm.exec) (hb : c.code = cc) (hK : va_K D vwCl (ty_IZ cI cZ) s) (G : gx_ D A H0 H locs (gw0_ cI cZ h q u)) {i : Int32} (hi : vp_in i 24) (hdg : decode cc pc = .ok (.iaload, 1))
    (kk : W p l e R s m args below meth c H locs cells slots Q (F0 m (pc + 1) ls (.int (u.2 6 (ix i)) :: rest))) : W p l e R s m args below meth c H locs cells slots Q (F0 m pc ls (.int i :: .ref (q 6) :: rest)) :=
  va_iald hx hb hK G.1 4 0 rfl rfl hi hdg kk
theorem gg0_st6 (hx : p.tables.exec = Jvm.exec) (hb : c.code = cc) (hK : va_K D vwCl (ty_IZ cI cZ) s) (G : gx_ D A H0 H locs (gw0_ cI cZ h q u)) {i x : Int32} (hi : vp_in i 24) (hdg : decode cc pc = .ok (.iastore, 1))
    (kk : ∀ (H1 : Heap) (locs1 : List Loc), gx_ D A H0 H1 locs1 (gw0_ cI cZ h q (st_sa u 6 (ix i) x)) → W p l e R s m args below meth c H1 locs1 cells slots Q (F0 m (pc + 1) ls rest)) : W p l e R s m args below meth c H locs cells slots Q (F0 m pc ls (.int x :: .int i :: .ref (q 6) :: rest)) :=
  va_iast hx hb hK G.1 G.2.1 G.2.2 4 0 rfl rfl hi hdg (fun H1 locs1 h1 h2 h3 => kk H1 locs1 ⟨h1, h2, h3⟩)
theorem gg0_ld7 (hx : p.tables.exec = Jvm.exec) (hb : c.code = cc) (hK : va_K D vwCl (ty_IZ cI cZ) s) (G : gx_ D A H0 H locs (gw0_ cI cZ h q u)) {i : Int32} (hi : vp_in i 24) (hdg : decode cc pc = .ok (.iaload, 1))
    (kk : W p l e R s m args below meth c H locs cells slots Q (F0 m (pc + 1) ls (.int (u.2 7 (ix i)) :: rest))) : W p l e R s m args below meth c H locs cells slots Q (F0 m pc ls (.int i :: .ref (q 7) :: rest)) :=
  va_iald hx hb hK G.1 5 0 rfl rfl hi hdg kk
theorem gg0_st7 (hx : p.tables.exec = Jvm.exec) (hb : c.code = cc) (hK : va_K D vwCl (ty_IZ cI cZ) s) (G : gx_ D A H0 H locs (gw0_ cI cZ h q u)) {i x : Int32} (hi : vp_in i 24) (hdg : decode cc pc = .ok (.iastore, 1))
    (kk : ∀ (H1 : Heap) (locs1 : List Loc), gx_ D A H0 H1 locs1 (gw0_ cI cZ h q (st_sa u 7 (ix i) x)) → W p l e R s m args below meth c H1 locs1 cells slots Q (F0 m (pc + 1) ls rest)) : W p l e R s m args below meth c H locs cells slots Q (F0 m pc ls (.int x :: .int i :: .ref (q 7) :: rest)) :=
  va_iast hx hb hK G.1 G.2.1 G.2.2 5 0 rfl rfl hi hdg (fun H1 locs1 h1 h2 h3 => kk H1 locs1 ⟨h1, h2, h3⟩)
theorem gg0_ld8 (hx : p.tables.exec = Jvm.exec) (hb : c.code = cc) (hK : va_K D vwCl (ty_IZ cI cZ) s) (G : gx_ D A H0 H locs (gw0_ cI cZ h q u)) {i : Int32} (hi : vp_in i 24) (hdg : decode cc pc = .ok (.iaload, 1))
    (kk : W p l e R s m args below meth c H locs cells slots Q (F0 m (pc + 1) ls (.int (u.2 8 (ix i)) :: rest))) : W p l e R s m args below meth c H locs cells slots Q (F0 m pc ls (.int i :: .ref (q 8) :: rest)) :=
  va_iald hx hb hK G.1 6 0 rfl rfl hi hdg kk
theorem gg0_st8 (hx : p.tables.exec = Jvm.exec) (hb : c.code = cc) (hK : va_K D vwCl (ty_IZ cI cZ) s) (G : gx_ D A H0 H locs (gw0_ cI cZ h q u)) {i x : Int32} (hi : vp_in i 24) (hdg : decode cc pc = .ok (.iastore, 1))
    (kk : ∀ (H1 : Heap) (locs1 : List Loc), gx_ D A H0 H1 locs1 (gw0_ cI cZ h q (st_sa u 8 (ix i) x)) → W p l e R s m args below meth c H1 locs1 cells slots Q (F0 m (pc + 1) ls rest)) : W p l e R s m args below meth c H locs cells slots Q (F0 m pc ls (.int x :: .int i :: .ref (q 8) :: rest)) :=
  va_iast hx hb hK G.1 G.2.1 G.2.2 6 0 rfl rfl hi hdg (fun H1 locs1 h1 h2 h3 => kk H1 locs1 ⟨h1, h2, h3⟩)
theorem gg0_put9 (hx : p.tables.exec = Jvm.exec) (hb : c.code = cc) (hts : ∀ w ∈ Ts, w.before args s = true) (hin : ∀ w ∈ wsX00, w ∈ Ts) (hown : s.vm.findClass RX0 = some m.cls) (hK : va_K D vwCl (ty_IZ cI cZ) s) (G : gx_ D A H0 H locs (gw0_ cI cZ h q u)) {index : Nat} (hlk : (Cond.fieldLink RX0 index "MonitorDesk" (TX0 9).2.1 (TX0 9).2.2.1) ∈ Ts) {v : Int32} (hdg : decode cc pc = .ok (.putfield index, 3))
    (kk : ∀ (H1 : Heap) (locs1 : List Loc), gx_ D A H0 H1 locs1 (gw0_ cI cZ h q (st_si u 9 v)) → W p l e R s m args below meth c H1 locs1 cells slots Q (F0 m (pc + 3) ls rest)) : W p l e R s m args below meth c H locs cells slots Q (F0 m pc ls (.int v :: .ref h :: rest)) :=
  gg0_putW hx hb hts hin hown hK G 9 (by decide) hlk rfl rfl rfl rfl hdg kk
theorem gg0_put10 (hx : p.tables.exec = Jvm.exec) (hb : c.code = cc) (hts : ∀ w ∈ Ts, w.before args s = true) (hin : ∀ w ∈ wsX00, w ∈ Ts) (hown : s.vm.findClass RX0 = some m.cls) (hK : va_K D vwCl (ty_IZ cI cZ) s) (G : gx_ D A H0 H locs (gw0_ cI cZ h q u)) {index : Nat} (hlk : (Cond.fieldLink RX0 index "MonitorDesk" (TX0 10).2.1 (TX0 10).2.2.1) ∈ Ts) {v : Int32} (hdg : decode cc pc = .ok (.putfield index, 3))
    (kk : ∀ (H1 : Heap) (locs1 : List Loc), gx_ D A H0 H1 locs1 (gw0_ cI cZ h q (st_si u 10 v)) → W p l e R s m args below meth c H1 locs1 cells slots Q (F0 m (pc + 3) ls rest)) : W p l e R s m args below meth c H locs cells slots Q (F0 m pc ls (.int v :: .ref h :: rest)) :=
  gg0_putW hx hb hts hin hown hK G 10 (by decide) hlk rfl rfl rfl rfl hdg kk
theorem gg0_put11 (hx : p.tables.exec = Jvm.exec) (hb : c.code = cc) (hts : ∀ w ∈ Ts, w.before args s = true) (hin : ∀ w ∈ wsX00, w ∈ Ts) (hown : s.vm.findClass RX0 = some m.cls) (hK : va_K D vwCl (ty_IZ cI cZ) s) (G : gx_ D A H0 H locs (gw0_ cI cZ h q u)) {index : Nat} (hlk : (Cond.fieldLink RX0 index "MonitorDesk" (TX0 11).2.1 (TX0 11).2.2.1) ∈ Ts) {v : Int32} (hdg : decode cc pc = .ok (.putfield index, 3))
    (kk : ∀ (H1 : Heap) (locs1 : List Loc), gx_ D A H0 H1 locs1 (gw0_ cI cZ h q (st_si u 11 v)) → W p l e R s m args below meth c H1 locs1 cells slots Q (F0 m (pc + 3) ls rest)) : W p l e R s m args below meth c H locs cells slots Q (F0 m pc ls (.int v :: .ref h :: rest)) :=
  gg0_putW hx hb hts hin hown hK G 11 (by decide) hlk rfl rfl rfl rfl hdg kk
theorem gg0_ld12 (hx : p.tables.exec = Jvm.exec) (hb : c.code = cc) (hK : va_K D vwCl (ty_IZ cI cZ) s) (G : gx_ D A H0 H locs (gw0_ cI cZ h q u)) {i : Int32} (hi : vp_in i 24) (hdg : decode cc pc = .ok (.iaload, 1))
    (kk : W p l e R s m args below meth c H locs cells slots Q (F0 m (pc + 1) ls (.int (u.2 12 (ix i)) :: rest))) : W p l e R s m args below meth c H locs cells slots Q (F0 m pc ls (.int i :: .ref (q 12) :: rest)) :=
  va_iald hx hb hK G.1 7 0 rfl rfl hi hdg kk
theorem gg0_st12 (hx : p.tables.exec = Jvm.exec) (hb : c.code = cc) (hK : va_K D vwCl (ty_IZ cI cZ) s) (G : gx_ D A H0 H locs (gw0_ cI cZ h q u)) {i x : Int32} (hi : vp_in i 24) (hdg : decode cc pc = .ok (.iastore, 1))
    (kk : ∀ (H1 : Heap) (locs1 : List Loc), gx_ D A H0 H1 locs1 (gw0_ cI cZ h q (st_sa u 12 (ix i) x)) → W p l e R s m args below meth c H1 locs1 cells slots Q (F0 m (pc + 1) ls rest)) : W p l e R s m args below meth c H locs cells slots Q (F0 m pc ls (.int x :: .int i :: .ref (q 12) :: rest)) :=
  va_iast hx hb hK G.1 G.2.1 G.2.2 7 0 rfl rfl hi hdg (fun H1 locs1 h1 h2 h3 => kk H1 locs1 ⟨h1, h2, h3⟩)
theorem gg0_put13 (hx : p.tables.exec = Jvm.exec) (hb : c.code = cc) (hts : ∀ w ∈ Ts, w.before args s = true) (hin : ∀ w ∈ wsX00, w ∈ Ts) (hown : s.vm.findClass RX0 = some m.cls) (hK : va_K D vwCl (ty_IZ cI cZ) s) (G : gx_ D A H0 H locs (gw0_ cI cZ h q u)) {index : Nat} (hlk : (Cond.fieldLink RX0 index "MonitorDesk" (TX0 13).2.1 (TX0 13).2.2.1) ∈ Ts) {v : Int32} (hdg : decode cc pc = .ok (.putfield index, 3))
    (kk : ∀ (H1 : Heap) (locs1 : List Loc), gx_ D A H0 H1 locs1 (gw0_ cI cZ h q (st_si u 13 v)) → W p l e R s m args below meth c H1 locs1 cells slots Q (F0 m (pc + 3) ls rest)) : W p l e R s m args below meth c H locs cells slots Q (F0 m pc ls (.int v :: .ref h :: rest)) :=
  gg0_putW hx hb hts hin hown hK G 13 (by decide) hlk rfl rfl rfl rfl hdg kk
theorem gg0_ld14 (hx : p.tables.exec = Jvm.exec) (hb : c.code = cc) (hK : va_K D vwCl (ty_IZ cI cZ) s) (G : gx_ D A H0 H locs (gw0_ cI cZ h q u)) {i : Int32} (hi : vp_in i 5) (hdg : decode cc pc = .ok (.iaload, 1))
    (kk : W p l e R s m args below meth c H locs cells slots Q (F0 m (pc + 1) ls (.int (u.2 14 (ix i)) :: rest))) : W p l e R s m args below meth c H locs cells slots Q (F0 m pc ls (.int i :: .ref (q 14) :: rest)) :=
  va_iald hx hb hK G.1 8 0 rfl rfl hi hdg kk
theorem gg0_st14 (hx : p.tables.exec = Jvm.exec) (hb : c.code = cc) (hK : va_K D vwCl (ty_IZ cI cZ) s) (G : gx_ D A H0 H locs (gw0_ cI cZ h q u)) {i x : Int32} (hi : vp_in i 5) (hdg : decode cc pc = .ok (.iastore, 1))
    (kk : ∀ (H1 : Heap) (locs1 : List Loc), gx_ D A H0 H1 locs1 (gw0_ cI cZ h q (st_sa u 14 (ix i) x)) → W p l e R s m args below meth c H1 locs1 cells slots Q (F0 m (pc + 1) ls rest)) : W p l e R s m args below meth c H locs cells slots Q (F0 m pc ls (.int x :: .int i :: .ref (q 14) :: rest)) :=
  va_iast hx hb hK G.1 G.2.1 G.2.2 8 0 rfl rfl hi hdg (fun H1 locs1 h1 h2 h3 => kk H1 locs1 ⟨h1, h2, h3⟩)
theorem gg0_put15 (hx : p.tables.exec = Jvm.exec) (hb : c.code = cc) (hts : ∀ w ∈ Ts, w.before args s = true) (hin : ∀ w ∈ wsX00, w ∈ Ts) (hown : s.vm.findClass RX0 = some m.cls) (hK : va_K D vwCl (ty_IZ cI cZ) s) (G : gx_ D A H0 H locs (gw0_ cI cZ h q u)) {index : Nat} (hlk : (Cond.fieldLink RX0 index "MonitorDesk" (TX0 15).2.1 (TX0 15).2.2.1) ∈ Ts) {v : Int32} (hdg : decode cc pc = .ok (.putfield index, 3))
    (kk : ∀ (H1 : Heap) (locs1 : List Loc), gx_ D A H0 H1 locs1 (gw0_ cI cZ h q (st_si u 15 v)) → W p l e R s m args below meth c H1 locs1 cells slots Q (F0 m (pc + 3) ls rest)) : W p l e R s m args below meth c H locs cells slots Q (F0 m pc ls (.int v :: .ref h :: rest)) :=
  gg0_putW hx hb hts hin hown hK G 15 (by decide) hlk rfl rfl rfl rfl hdg kk
theorem gg0_put16 (hx : p.tables.exec = Jvm.exec) (hb : c.code = cc) (hts : ∀ w ∈ Ts, w.before args s = true) (hin : ∀ w ∈ wsX00, w ∈ Ts) (hown : s.vm.findClass RX0 = some m.cls) (hK : va_K D vwCl (ty_IZ cI cZ) s) (G : gx_ D A H0 H locs (gw0_ cI cZ h q u)) {index : Nat} (hlk : (Cond.fieldLink RX0 index "MonitorDesk" (TX0 16).2.1 (TX0 16).2.2.1) ∈ Ts) {v : Int32} (hdg : decode cc pc = .ok (.putfield index, 3))
    (kk : ∀ (H1 : Heap) (locs1 : List Loc), gx_ D A H0 H1 locs1 (gw0_ cI cZ h q (st_si u 16 v)) → W p l e R s m args below meth c H1 locs1 cells slots Q (F0 m (pc + 3) ls rest)) : W p l e R s m args below meth c H locs cells slots Q (F0 m pc ls (.int v :: .ref h :: rest)) :=
  gg0_putW hx hb hts hin hown hK G 16 (by decide) hlk rfl rfl rfl rfl hdg kk
theorem gx_is {x y : Int32} (e1 : x = y) (k : W p l e R s m args below meth c H locs cells slots Q (F0 m pc ls (.int y :: rest))) : W p l e R s m args below meth c H locs cells slots Q (F0 m pc ls (.int x :: rest)) := e1 ▸ k
theorem gx_callr {S : Type} {wf : S → va_W} {u : S} {f : Int32} {C : String} {T : u_T} {N ci : Nat} {fs : List Value} {index maxL nL : Nat} {y : MethodName} {bytes : ByteArray} {ret : Option FieldType} {wsy ws' : List Cond} {rm : Room} {As st0 : List Value} (n : Nat)
    (hx : p.tables.exec = Jvm.exec) (hb : c.code = cc) (hml : c.maxLocals = nL) (hown : s.vm.findClass own = some m.cls) (hts : ∀ w ∈ Ts, w.before args s = true) (hK : va_K D vwCl (ty_IZ cI cZ) s) (hA : ∀ x, H0.size ≤ x → A x) (G : gx_ D A H0 H locs (wf u)) (hrec : (wf u)[0]? = some (h, .inr (ci, fs))) (hc : vwCl[ci]? = some (C, T, N))
    (hM : gx_Mi l y wsy rm (.ref h :: As) D cI cZ wf u H.size (f, u)) (gin : GoodIn Ts (wsV own index C y wsy)) (hw : wsy = Cond.code y bytes maxL ret :: ws') (hr0 : rm.cells = 0) (hr1 : rm.slots = 0)
    (hd : y.cls = C ∧ y.cls ≠ "java/lang/invoke/MethodHandle" ∧ y.cls ≠ "java/lang/invoke/VarHandle" ∧ (parseMethodDescriptor y.desc).map (fun d => d.parameters.length) = some n) (hR : rm.frames + 1 ≤ R.frames ∧ 8 + (maxL + 11) + rm.locals ≤ R.locals)
    (hn : As.length = n) (hls : ls.size = nL) (hst : st0 = As.reverse ++ .ref h :: rest) (hroom : (rest.map fun v => v.category).sum ≤ 8) (hdg : decode cc pc = .ok (.invokevirtual index, 3)) (hcl : cells ≤ R.cells) (hsl : slots ≤ R.slots)
    (kk : ∀ (H1 : Heap) (locs1 : List Loc), gx_ D A H0 H1 locs1 (wf u) → W p l e R s m args below meth c H1 locs1 cells slots Q (F0 m (pc + 3) ls (.int f :: rest))) : W p l e R s m args below meth c H locs cells slots Q (F0 m pc ls st0) :=
  gx_calli (wf := wf) (f := (f, u)) n hx hb hml hown hts hK hA G hrec hc hM gin hw hr0 hr1 hd hR hn hls hst hroom hdg hcl hsl kk
end GX
end
section
/-! static methods: the numbers that they answer -/
theorem in_1 {x M : Int32} {n : Nat} (hM : M.toInt = n) (h0 : ¬ x < 0) (h1 : ¬ M ≤ x) : vp_in x n := by
  rw [Int32.lt_iff_toInt_lt, Int32.toInt_zero] at h0
  rw [Int32.le_iff_toInt_le, hM] at h1
  exact vp_in_iff.mpr ⟨by omega, by omega⟩
theorem in_2 {x M : Int32} {n : Nat} (hM : M.toInt = n) (h0 : ¬ x < 0) (h1 : x < M) : vp_in x n := by
  rw [Int32.lt_iff_toInt_lt, Int32.toInt_zero] at h0
  rw [Int32.lt_iff_toInt_lt, hM] at h1
  exact vp_in_iff.mpr ⟨by omega, by omega⟩
theorem in_3 {x : Int32} (h0 : ¬ x < -2) (h1 : x < 5) (h2 : ¬ x = -2) (h3 : ¬ x = -1) : vp_in x 5 := by
  rw [Int32.lt_iff_toInt_lt] at h0 h1
  have e2 := lv_neT h2 (a := -2) (by decide)
  have e3 := lv_neT h3 (a := -1) (by decide)
  rw [show (-2 : Int32).toInt = -2 by decide] at h0
  rw [show (5 : Int32).toInt = 5 by decide] at h1
  exact vp_in_iff.mpr ⟨by omega, by omega⟩
theorem in_4 {x : Int32} (h0 : ¬ x < -2) (h1 : x ≤ 4) (h2 : ¬ x = -2) (h3 : ¬ x = -1) : vp_in x 5 := by
  refine in_3 h0 ?_ h2 h3
  rw [Int32.le_iff_toInt_le, show (4 : Int32).toInt = 4 by decide] at h1
  rw [Int32.lt_iff_toInt_lt, show (5 : Int32).toInt = 5 by decide]
  omega
theorem in_z {n : Nat} (h : 0 < n) : vp_in 0 n := vp_in_iff.mpr ⟨by simp, by simpa using h⟩
def pj_floorMod_7cf53 (p0 p1 : Int32) : Int32 :=
  if 0 ≤ p0 ^^^ p1 then
    p0 - p0 / p1 * p1
  else
    if p0 - p0 / p1 * p1 = 0 then
      p0 - p0 / p1 * p1
    else
      (p0 - p0 / p1 * p1) + p1
set_option maxHeartbeats 4000000 in
set_option maxRecDepth 100000 in
theorem kj_floorMod_7cf53 (l : Launch) (p0 p1 : Int32) (hz : ¬ p1 = 0) : gx_Ms l yJ9_floorMod_7cf53 wsJ9_floorMod_7cf53 { frames := 0, cells := 0, slots := 0, locals := 0 } [.int p0, .int p1] (pj_floorMod_7cf53 p0 p1) := by
  refine gx_metS (cc := cJ9_floorMod_7cf53) (maxL := 3) (ret := (some .int)) (by decide +kernel) rfl (Nat.le_of_ble_eq_true rfl) (fun p e s m args below meth c ls hx hb hr hlocks hts hown hml hl => ?_)
  have hl : lv_has ls 3 [(0, .int p0), (1, .int p1)] := hl
  refine lv_iload_n hx hb dJ9_floorMod_7cf53_0 rfl (lv_at hl 0 rfl) ?_
  refine lv_iload_n hx hb dJ9_floorMod_7cf53_1 rfl (lv_at hl 1 rfl) ?_
  refine lv_irem hx hb dJ9_floorMod_7cf53_2 hz ?_
  refine lv_istore_n (lv' := [(2, .int (p0 - p0 / p1 * p1)), (0, .int p0), (1, .int p1)]) hx hb dJ9_floorMod_7cf53_3 rfl hl (by decide) rfl (fun ls hl => ?_)
  refine lv_iload_n hx hb dJ9_floorMod_7cf53_4 rfl (lv_at hl 1 rfl) ?_
  refine lv_iload_n hx hb dJ9_floorMod_7cf53_5 rfl (lv_at hl 2 rfl) ?_
  refine lv_ixor hx hb dJ9_floorMod_7cf53_6 ?_
  refine lv_if_ge (tgt := 18) hx hb dJ9_floorMod_7cf53_7 (by decide) (fun c_7 => ?_) (fun c_7 => ?_)
  · refine lv_iload_n hx hb dJ9_floorMod_7cf53_18 rfl (lv_at hl 0 rfl) ?_
    exact gx_sret hx hb hr hlocks dJ9_floorMod_7cf53_19 (by unfold pj_floorMod_7cf53; rw [if_pos c_7])
  · refine lv_iload_n hx hb dJ9_floorMod_7cf53_10 rfl (lv_at hl 0 rfl) ?_
    refine lv_if_eq (tgt := 18) hx hb dJ9_floorMod_7cf53_11 (by decide) (fun c_11 => ?_) (fun c_11 => ?_)
    · refine lv_iload_n hx hb dJ9_floorMod_7cf53_18 rfl (lv_at hl 0 rfl) ?_
      exact gx_sret hx hb hr hlocks dJ9_floorMod_7cf53_19 (by unfold pj_floorMod_7cf53; rw [if_neg c_7, if_pos c_11])
    · refine lv_iload_n hx hb dJ9_floorMod_7cf53_14 rfl (lv_at hl 0 rfl) ?_
      refine lv_iload_n hx hb dJ9_floorMod_7cf53_15 rfl (lv_at hl 2 rfl) ?_
      refine lv_iadd hx hb dJ9_floorMod_7cf53_16 ?_
      exact gx_sret hx hb hr hlocks dJ9_floorMod_7cf53_17 (by unfold pj_floorMod_7cf53; rw [if_neg c_7, if_neg c_11])
theorem hd_J9_floorMod_7cf53 : yJ9_floorMod_7cf53.cls ≠ "java/lang/invoke/MethodHandle" ∧ yJ9_floorMod_7cf53.cls ≠ "java/lang/invoke/VarHandle" ∧ (parseMethodDescriptor yJ9_floorMod_7cf53.desc).map (fun d => d.parameters.length) = some 2 := by decide +kernel
def pd_opensBlock (p0 : Int32) : Int32 :=
  if p0 = 1 then
    1
  else
    if p0 = 2 then
      1
    else
      0
set_option maxHeartbeats 4000000 in
set_option maxRecDepth 100000 in
theorem kd_opensBlock (l : Launch) (p0 : Int32) : gx_Ms l yX0_opensBlock wsX0_opensBlock { frames := 0, cells := 0, slots := 0, locals := 0 } [.int p0] (pd_opensBlock p0) := by
  refine gx_metS (cc := cX0_opensBlock) (maxL := 1) (ret := (some .boolean)) (by decide +kernel) rfl (Nat.le_of_ble_eq_true rfl) (fun p e s m args below meth c ls hx hb hr hlocks hts hown hml hl => ?_)
  have hl : lv_has ls 1 [(0, .int p0)] := hl
  refine lv_iload_n hx hb dX0_opensBlock_0 rfl (lv_at hl 0 rfl) ?_
  refine lv_iconst (v := 1) hx hb dX0_opensBlock_1 (by decide) ?_
  refine lv_icmp_eq (tgt := 10) hx hb dX0_opensBlock_2 (by decide) (fun c_2 => ?_) (fun c_2 => ?_)
  · refine lv_iconst (v := 1) hx hb dX0_opensBlock_10 (by decide) ?_
    refine lv_goto (tgt := 15) hx hb dX0_opensBlock_11 (by decide) ?_
    exact gx_szret hx hb hr hlocks dX0_opensBlock_15 rfl (by unfold pd_opensBlock; rw [if_pos c_2])
  · refine lv_iload_n hx hb dX0_opensBlock_5 rfl (lv_at hl 0 rfl) ?_
    refine lv_iconst (v := 2) hx hb dX0_opensBlock_6 (by decide) ?_
    refine lv_icmp_ne (tgt := 14) hx hb dX0_opensBlock_7 (by decide) (fun c_7 => ?_) (fun c_7 => ?_)
    · refine lv_iconst (v := 0) hx hb dX0_opensBlock_14 (by decide) ?_
      exact gx_szret hx hb hr hlocks dX0_opensBlock_15 rfl (by unfold pd_opensBlock; rw [if_neg c_2, if_neg c_7])
    · refine lv_iconst (v := 1) hx hb dX0_opensBlock_10 (by decide) ?_
      refine lv_goto (tgt := 15) hx hb dX0_opensBlock_11 (by decide) ?_
      exact gx_szret hx hb hr hlocks dX0_opensBlock_15 rfl (by unfold pd_opensBlock; rw [if_neg c_2, if_pos c_7])
theorem hd_X0_opensBlock : yX0_opensBlock.cls ≠ "java/lang/invoke/MethodHandle" ∧ yX0_opensBlock.cls ≠ "java/lang/invoke/VarHandle" ∧ (parseMethodDescriptor yX0_opensBlock.desc).map (fun d => d.parameters.length) = some 1 := by decide +kernel
def pd_asNumber (p0 : Int32) : Int32 :=
  if p0 = 0 then
    0
  else
    1
set_option maxHeartbeats 4000000 in
set_option maxRecDepth 100000 in
theorem kd_asNumber (l : Launch) (p0 : Int32) : gx_Ms l yX0_asNumber wsX0_asNumber { frames := 0, cells := 0, slots := 0, locals := 0 } [.int p0] (pd_asNumber p0) := by
  refine gx_metS (cc := cX0_asNumber) (maxL := 1) (ret := (some .int)) (by decide +kernel) rfl (Nat.le_of_ble_eq_true rfl) (fun p e s m args below meth c ls hx hb hr hlocks hts hown hml hl => ?_)
  have hl : lv_has ls 1 [(0, .int p0)] := hl
  refine lv_iload_n hx hb dX0_asNumber_0 rfl (lv_at hl 0 rfl) ?_
  refine lv_if_eq (tgt := 8) hx hb dX0_asNumber_1 (by decide) (fun c_1 => ?_) (fun c_1 => ?_)
  · refine lv_iconst (v := 0) hx hb dX0_asNumber_8 (by decide) ?_
    exact gx_sret hx hb hr hlocks dX0_asNumber_9 (by unfold pd_asNumber; rw [if_pos c_1])
  · refine lv_iconst (v := 1) hx hb dX0_asNumber_4 (by decide) ?_
    refine lv_goto (tgt := 9) hx hb dX0_asNumber_5 (by decide) ?_
    exact gx_sret hx hb hr hlocks dX0_asNumber_9 (by unfold pd_asNumber; rw [if_neg c_1])
theorem hd_X0_asNumber : yX0_asNumber.cls ≠ "java/lang/invoke/MethodHandle" ∧ yX0_asNumber.cls ≠ "java/lang/invoke/VarHandle" ∧ (parseMethodDescriptor yX0_asNumber.desc).map (fun d => d.parameters.length) = some 1 := by decide +kernel
end
section
/-! remainders: floorMod and modulo are one number, in its range -/
theorem xo_sign {a m : Int32} (hm : 0 ≤ m.toInt) : 0 ≤ a ^^^ m ↔ 0 ≤ a.toInt := by
  rw [Int32.le_iff_toInt_le, Int32.toInt_zero]
  have e1 : (a ^^^ m).toInt = (a.toBitVec ^^^ m.toBitVec).toInt := by rw [← Int32.toBitVec_xor]; rfl
  have e2 : a.toInt = a.toBitVec.toInt := rfl
  have e3 : m.toInt = m.toBitVec.toInt := rfl
  have h1 : (a.toBitVec ^^^ m.toBitVec).msb = (a.toBitVec.msb ^^ m.toBitVec.msb) := BitVec.msb_xor
  rw [BitVec.msb_eq_toInt, BitVec.msb_eq_toInt, BitVec.msb_eq_toInt] at h1
  rw [e1, e2]
  rw [e3] at hm
  rw [show decide (m.toBitVec.toInt < 0) = false from decide_eq_false (by omega), Bool.xor_false] at h1
  have h2 := decide_eq_decide.mp h1
  omega
theorem fm_toInt {a m : Int32} (hm : 0 < m.toInt) : (pj_floorMod_7cf53 a m).toInt = a.toInt % m.toInt := by
  have hr := rem_toInt a m
  have hb := tmod_bounds (a := a.toInt) hm
  have ha1 := Int32.toInt_lt a
  have ha2 := Int32.le_toInt a
  have hm1 := Int32.toInt_lt m
  unfold pj_floorMod_7cf53
  have hx := xo_sign (a := a) (m := m) (by omega)
  generalize hre : a - a / m * m = r at hr ⊢
  by_cases h : 0 ≤ a ^^^ m
  · rw [if_pos h, hr]
    exact Int.tmod_eq_emod_of_nonneg (hx.mp h)
  · rw [if_neg h]
    have hneg : ¬ 0 ≤ a.toInt := fun z => h (hx.mpr z)
    have hte : a.toInt.tmod m.toInt = -((-a.toInt) % m.toInt) := by
      have e : a.toInt.tmod m.toInt = -((-a.toInt).tmod m.toInt) := by
        first | (rw [Int.neg_tmod, Int.neg_neg]) | simp [Int.neg_tmod]
      rw [e, Int.tmod_eq_emod_of_nonneg (by omega)]
    have g1 := Int.emod_nonneg (-a.toInt) (by omega : m.toInt ≠ 0)
    have g2 := Int.emod_lt_of_pos (-a.toInt) hm
    have g3 := Int.mul_ediv_add_emod (-a.toInt) m.toInt
    by_cases h0 : r = 0
    · rw [if_pos h0, h0, Int32.toInt_zero]
      rw [h0, Int32.toInt_zero] at hr
      have : (-a.toInt) % m.toInt = 0 := by omega
      have hd : m.toInt ∣ -a.toInt := Int.dvd_of_emod_eq_zero this
      have hd2 : m.toInt ∣ a.toInt := by simpa using hd
      exact (Int.emod_eq_zero_of_dvd hd2).symm
    · rw [if_neg h0]
      have hr0 : r.toInt ≠ 0 := fun z => h0 (Int32.toInt_inj.mp (by rw [z, Int32.toInt_zero]))
      rw [Jvm.Kit.i32_add (by omega) (by omega)]
      have e1 : a.toInt = (r.toInt + m.toInt) + m.toInt * (-((-a.toInt) / m.toInt) - 1) := by
        rw [hr, hte]
        have := Int.mul_sub m.toInt (-((-a.toInt) / m.toInt)) 1
        rw [this, Int.mul_neg, Int.mul_one]
        omega
      have e2 : a.toInt % m.toInt = (r.toInt + m.toInt) % m.toInt := by
        conv => lhs; rw [e1]
        exact Int.add_mul_emod_self_left _ _ _
      rw [e2, Int.emod_eq_of_lt (by omega) (by omega)]
theorem fm_in {a m : Int32} {n : Nat} (hm : m.toInt = n) (hn : 0 < n) : vp_in (pj_floorMod_7cf53 a m) n := by
  have h1 := Int.emod_nonneg a.toInt (by omega : m.toInt ≠ 0)
  have h2 := Int.emod_lt_of_pos a.toInt (by omega : 0 < m.toInt)
  exact vp_in_iff.mpr (by rw [fm_toInt (by omega)]; omega)
theorem fm_in5 (a : Int32) : vp_in (pj_floorMod_7cf53 a 5) 5 := fm_in (by decide) (by decide)
theorem fm_in4 (a : Int32) : vp_in (pj_floorMod_7cf53 a 4) 4 := fm_in (by decide) (by decide)
theorem re_in {x : Int32} (h : 0 ≤ x.toInt) : vp_in (x - x / 5 * 5) 5 := by
  refine vp_in_iff.mpr ?_
  rw [rem_toInt, show (5 : Int32).toInt = 5 by decide, Int.tmod_eq_emod_of_nonneg h]
  omega
theorem ng_toInt {x : Int32} (h : ¬ x = -2147483648) : (-x).toInt = -x.toInt := by
  have h1 := lv_neT h (a := -2147483648) (by decide)
  have h2 := Int32.le_toInt x
  have h3 := Int32.toInt_lt x
  rw [Int32.toInt_neg]
  exact Int.bmod_eq_of_le_mul_two (by omega) (by omega)
theorem wt_abs {x : Int32} (h : ¬ x = -2147483648) : 0 ≤ (if 0 ≤ x then x else 0 - x).toInt := by
  by_cases h0 : 0 ≤ x
  · rw [if_pos h0]
    rw [Int32.le_iff_toInt_le, Int32.toInt_zero] at h0
    exact h0
  · rw [if_neg h0, Int32.zero_sub, ng_toInt h]
    rw [Int32.le_iff_toInt_le, Int32.toInt_zero] at h0
    omega
theorem wt_in {x : Int32} (h : ¬ x = -2147483648) : vp_in ((if 0 ≤ x then x else 0 - x) - (if 0 ≤ x then x else 0 - x) / 5 * 5) 5 := re_in (wt_abs h)
theorem wt_p {x : Int32} (h : 0 ≤ x) : vp_in (x - x / 5 * 5) 5 := re_in (by rw [Int32.le_iff_toInt_le, Int32.toInt_zero] at h; exact h)
theorem wt_n {x : Int32} (h : ¬ x = -2147483648) (h0 : ¬ 0 ≤ x) : vp_in (-x - -x / 5 * 5) 5 := re_in (by
  rw [Int32.le_iff_toInt_le, Int32.toInt_zero] at h0
  rw [ng_toInt h]
  omega)
theorem nz_flag {x : Int32} (h : x = 0 ∨ x = 1) : narrow .boolean (.int x) = .int x := by rcases h with rfl | rfl <;> rfl
end
section
/-! the class: a pure function and a contract for each method -/
def pd_lh (u : st_T) (p0 : Int32) : Nat → Int32 → Int32
  | 0, _ => p0
  | n + 1, i => if p0 ≤ i then p0 else if u.2 0 (ix i) = u.2 0 (ix p0) then i else pd_lh u p0 n (i + 1)
def pd_leastHandle (u : st_T) (p0 : Int32) : Int32 := pd_lh u p0 6 0
theorem lh_toInt1 {i : Int32} (h : i.toInt < 1000) (h0 : 0 ≤ i.toInt) : (i + 1).toInt = i.toInt + 1 := by rw [Jvm.Kit.i32_add (by simp; omega) (by simp; omega)]; simp
theorem lh_in {u : st_T} {p0 : Int32} (hp : vp_in p0 5) : ∀ (n : Nat) (i : Int32), 0 ≤ i.toInt → vp_in (pd_lh u p0 n i) 5 := by
  intro n
  induction n with
  | zero => intro i _; exact hp
  | succ n ih =>
    intro i hi
    unfold pd_lh
    by_cases h1 : p0 ≤ i
    · rw [if_pos h1]; exact hp
    · rw [if_neg h1]
      have hp2 := vp_in_iff.mp hp
      rw [Int32.le_iff_toInt_le] at h1
      by_cases h2 : u.2 0 (ix i) = u.2 0 (ix p0)
      · rw [if_pos h2]; exact vp_in_iff.mpr ⟨hi, by omega⟩
      · rw [if_neg h2]; exact ih _ (by rw [lh_toInt1 (by omega) hi]; omega)
theorem least_in {u : st_T} {p0 : Int32} (hp : vp_in p0 5) : vp_in (pd_leastHandle u p0) 5 := lh_in hp 6 0 (by simp)
set_option maxHeartbeats 4000000 in
set_option maxRecDepth 100000 in
theorem kd_leastHandle (l : Launch) (dC : Nat → ClassId) (dI : Nat → Nat → Nat) (cI cZ : ClassId) (h : Nat) (q : Nat → Nat) (sz : Nat) (u : st_T) (p0 : Int32) (hp0 : vp_in p0 5) : gx_Mi l yX0_leastHandle wsX0_leastHandle { frames := 0, cells := 0, slots := 0, locals := 0 } [.ref h, .int p0] (dC, dI) cI cZ (gw0_ cI cZ h q) u sz (pd_leastHandle u p0, u) := by
  refine gx_met (cc := cX0_leastHandle) (maxL := 3) (ret := (some .int)) (by decide +kernel) rfl (Nat.le_of_ble_eq_true rfl) (fun p e s m args below meth c A ls hsz hx hb hr hlocks hts hown hml hK hAe hA G hl => ?_)
  have hown : s.vm.findClass RX0 = some m.cls := hown
  have hin : ∀ w ∈ wsX00, w ∈ wsX0_leastHandle := gx_in
  have hl : lv_has ls 3 [(0, .ref h), (1, .int p0)] := hl
  have hp2 := vp_in_iff.mp hp0
  have loop : ∀ (n : Nat) (i : Int32), 0 ≤ i.toInt → i.toInt ≤ p0.toInt → p0.toInt - i.toInt < n → pd_leastHandle u p0 = pd_lh u p0 n i → ∀ (H : Heap) (locs : List Loc) (ls : Array Slot), gx_ (dC, dI) A s.heap H locs (gw0_ cI cZ h q u) → lv_has ls 3 [(2, .int i), (0, .ref h), (1, .int p0)] → W p l e { frames := 0, cells := 0, slots := 0, locals := 0 } s m args below meth c H locs 0 0 (MQ below (va_Qi (fun r u1 => r = (pd_leastHandle u p0, u).1 ∧ u1 = (pd_leastHandle u p0, u).2) (gx_O (dC, dI) cI cZ (gw0_ cI cZ h q) (gw0_ cI cZ h q u) sz) (va_A (gw0_ cI cZ h q u) sz)) args s 0 0 (va_A (gw0_ cI cZ h q u) sz)) (F0 m 2 ls []) := by
    intro n
    induction n with
    | zero => intro i h1 h2 h3; exact absurd h3 (by omega)
    | succ n ih =>
      intro i hi0 hip hin2 hf H locs ls G hl
      unfold pd_lh at hf
      refine lv_iload_n hx hb dX0_leastHandle_2 rfl (lv_at hl 0 rfl) ?_
      refine lv_iload_n hx hb dX0_leastHandle_3 rfl (lv_at hl 2 rfl) ?_
      refine lv_icmp_ge (tgt := 30) hx hb dX0_leastHandle_4 (by decide) (fun c_4 => ?_) (fun c_4 => ?_)
      · refine lv_iload_n hx hb dX0_leastHandle_30 rfl (lv_at hl 2 rfl) ?_
        exact gx_iret (wf := gw0_ cI cZ h q) (u1 := u) hx hb hr hlocks hsz hK hAe G dX0_leastHandle_31 (congrArg (fun z => (z, u)) (by rw [hf, if_pos c_4]))
      · refine lv_aload_n hx hb dX0_leastHandle_7 rfl (lv_at hl 1 rfl) ?_
        refine gg0_get (v := .ref (q 0)) hx hb hts hin hown hK G 0 (by decide) (index := 9) (by decide +kernel) rfl dX0_leastHandle_8 ?_
        refine lv_iload_n hx hb dX0_leastHandle_11 rfl (lv_at hl 0 rfl) ?_
        refine gg0_ld0 hx hb hK G (i := i) (vp_in_iff.mpr (by have q4 := c_4; rw [Int32.le_iff_toInt_le] at q4; omega)) dX0_leastHandle_12 ?_
        refine lv_aload_n hx hb dX0_leastHandle_13 rfl (lv_at hl 1 rfl) ?_
        refine gg0_get (v := .ref (q 0)) hx hb hts hin hown hK G 0 (by decide) (index := 9) (by decide +kernel) rfl dX0_leastHandle_14 ?_
        refine lv_iload_n hx hb dX0_leastHandle_17 rfl (lv_at hl 2 rfl) ?_
        refine gg0_ld0 hx hb hK G (i := p0) hp0 dX0_leastHandle_18 ?_
        refine lv_icmp_ne (tgt := 24) hx hb dX0_leastHandle_19 (by decide) (fun c_19 => ?_) (fun c_19 => ?_)
        · refine lv_iinc (v := i + 1) (lv' := [(2, .int (i + 1)), (0, .ref h), (1, .int p0)]) hx hb dX0_leastHandle_24 hl (k := 0) rfl (congrArg (fun z => i + z) (by decide)) (by decide) rfl (fun ls hl => ?_)
          refine lv_goto (tgt := 2) hx hb dX0_leastHandle_27 (by decide) ?_
          rw [if_neg c_4, if_neg c_19] at hf
          have q4 := c_4
          rw [Int32.le_iff_toInt_le] at q4
          have q5 := lh_toInt1 (i := i) (by omega) hi0
          exact ih (i + 1) (by omega) (by omega) (by omega) hf H locs ls G (lv_sub hl [0, 1, 2] rfl)
        · refine lv_iload_n hx hb dX0_leastHandle_22 rfl (lv_at hl 0 rfl) ?_
          exact gx_iret (wf := gw0_ cI cZ h q) (u1 := u) hx hb hr hlocks hsz hK hAe G dX0_leastHandle_23 (congrArg (fun z => (z, u)) (by rw [hf, if_neg c_4, if_pos c_19]))
  refine lv_iconst (v := 0) hx hb dX0_leastHandle_0 (by decide) ?_
  refine lv_istore_n (lv' := [(2, .int 0), (0, .ref h), (1, .int p0)]) hx hb dX0_leastHandle_1 rfl hl (by decide) rfl (fun ls hl => ?_)
  exact loop 6 0 (by simp) (by simp; omega) (by simp; omega) rfl _ _ ls G hl
theorem hd_X0_leastHandle : yX0_leastHandle.cls = RX0 ∧ yX0_leastHandle.cls ≠ "java/lang/invoke/MethodHandle" ∧ yX0_leastHandle.cls ≠ "java/lang/invoke/VarHandle" ∧ (parseMethodDescriptor yX0_leastHandle.desc).map (fun d => d.parameters.length) = some 1 := by decide +kernel
def pd_ce (u : st_T) : Nat → Int32 → Int32 → Int32
  | 0, c, _ => c
  | n + 1, c, i => if 4 ≤ i then c else pd_ce u n (c + pd_asNumber (u.2 2 (ix i))) (i + 1)
def pd_countEnded (u : st_T) : Int32 := pd_ce u 5 0 0
set_option maxHeartbeats 4000000 in
set_option maxRecDepth 100000 in
theorem kd_countEnded (l : Launch) (dC : Nat → ClassId) (dI : Nat → Nat → Nat) (cI cZ : ClassId) (h : Nat) (q : Nat → Nat) (sz : Nat) (u : st_T) : gx_Mi l yX0_countEnded wsX0_countEnded { frames := 1, cells := 0, slots := 0, locals := 20 } [.ref h] (dC, dI) cI cZ (gw0_ cI cZ h q) u sz (pd_countEnded u, u) := by
  refine gx_met (cc := cX0_countEnded) (maxL := 3) (ret := (some .int)) (by decide +kernel) rfl (Nat.le_of_ble_eq_true rfl) (fun p e s m args below meth c A ls hsz hx hb hr hlocks hts hown hml hK hAe hA G hl => ?_)
  have hown : s.vm.findClass RX0 = some m.cls := hown
  have hin : ∀ w ∈ wsX00, w ∈ wsX0_countEnded := gx_in
  have hl : lv_has ls 3 [(0, .ref h)] := hl
  have loop : ∀ (n : Nat) (cn i : Int32), 0 ≤ i.toInt → i.toInt ≤ 4 → 4 - i.toInt < n → pd_countEnded u = pd_ce u n cn i → ∀ (H : Heap) (locs : List Loc) (ls : Array Slot), gx_ (dC, dI) A s.heap H locs (gw0_ cI cZ h q u) → lv_has ls 3 [(2, .int i), (1, .int cn), (0, .ref h)] → W p l e { frames := 1, cells := 0, slots := 0, locals := 20 } s m args below meth c H locs 0 0 (MQ below (va_Qi (fun r u1 => r = (pd_countEnded u, u).1 ∧ u1 = (pd_countEnded u, u).2) (gx_O (dC, dI) cI cZ (gw0_ cI cZ h q) (gw0_ cI cZ h q u) sz) (va_A (gw0_ cI cZ h q u) sz)) args s 0 0 (va_A (gw0_ cI cZ h q u) sz)) (F0 m 4 ls []) := by
    intro n
    induction n with
    | zero => intro cn i h1 h2 h3; exact absurd h3 (by omega)
    | succ n ih =>
      intro cn i hi0 hip hin2 hf H locs ls G hl
      unfold pd_ce at hf
      refine lv_iload_n hx hb dX0_countEnded_4 rfl (lv_at hl 0 rfl) ?_
      refine lv_iconst (v := 4) hx hb dX0_countEnded_5 (by decide) ?_
      refine lv_icmp_ge (tgt := 27) hx hb dX0_countEnded_6 (by decide) (fun c_6 => ?_) (fun c_6 => ?_)
      · refine lv_iload_n hx hb dX0_countEnded_27 rfl (lv_at hl 1 rfl) ?_
        exact gx_iret (wf := gw0_ cI cZ h q) (u1 := u) hx hb hr hlocks hsz hK hAe G dX0_countEnded_28 (congrArg (fun z => (z, u)) (by rw [hf, if_pos c_6]))
      · refine lv_iload_n hx hb dX0_countEnded_9 rfl (lv_at hl 1 rfl) ?_
        refine lv_aload_n hx hb dX0_countEnded_10 rfl (lv_at hl 2 rfl) ?_
        refine gg0_get (v := .ref (q 2)) hx hb hts hin hown hK G 2 (by decide) (index := 17) (by decide +kernel) rfl dX0_countEnded_11 ?_
        refine lv_iload_n hx hb dX0_countEnded_14 rfl (lv_at hl 0 rfl) ?_
        refine gg0_ld2 hx hb hK G (i := i) (in_1 (M := 4) (by decide) (by rw [Int32.lt_iff_toInt_lt, Int32.toInt_zero]; omega) c_6) dX0_countEnded_15 ?_
        refine gx_calls (f := pd_asNumber (u.2 2 (ix i))) (As := [.int (u.2 2 (ix i))]) (rest := [.int cn]) 1 hx hb hml hown hts (kd_asNumber l (u.2 2 (ix i)) ) gX0_countEnded_X0_asNumber rfl rfl rfl hd_X0_asNumber ⟨Nat.le_of_ble_eq_true rfl, Nat.le_of_ble_eq_true rfl⟩ rfl hl.1 rfl (Nat.le_of_ble_eq_true rfl) dX0_countEnded_16 (Nat.zero_le _) (Nat.zero_le _) ?_
        refine lv_iadd hx hb dX0_countEnded_19 ?_
        refine lv_istore_n (lv' := [(1, .int (cn + (pd_asNumber (u.2 2 (ix i))))), (2, .int i), (0, .ref h)]) hx hb dX0_countEnded_20 rfl hl (by decide) rfl (fun ls hl => ?_)
        refine lv_iinc (v := i + 1) (lv' := [(2, .int (i + 1)), (1, .int (cn + (pd_asNumber (u.2 2 (ix i))))), (0, .ref h)]) hx hb dX0_countEnded_21 hl (k := 1) rfl (congrArg (fun z => i + z) (by decide)) (by decide) rfl (fun ls hl => ?_)
        refine lv_goto (tgt := 4) hx hb dX0_countEnded_24 (by decide) ?_
        rw [if_neg c_6] at hf
        have q4 := c_6
        rw [Int32.le_iff_toInt_le, show (4 : Int32).toInt = 4 by decide] at q4
        have q5 := lh_toInt1 (i := i) (by omega) hi0
        exact ih _ (i + 1) (by omega) (by omega) (by omega) hf H locs ls G (lv_sub hl [0, 1, 2] rfl)
  refine lv_iconst (v := 0) hx hb dX0_countEnded_0 (by decide) ?_
  refine lv_istore_n (lv' := [(1, .int 0), (0, .ref h)]) hx hb dX0_countEnded_1 rfl hl (by decide) rfl (fun ls hl => ?_)
  refine lv_iconst (v := 0) hx hb dX0_countEnded_2 (by decide) ?_
  refine lv_istore_n (lv' := [(2, .int 0), (1, .int 0), (0, .ref h)]) hx hb dX0_countEnded_3 rfl hl (by decide) rfl (fun ls hl => ?_)
  exact loop 5 0 0 (by simp) (by simp) (by simp) rfl _ _ ls G hl
theorem hd_X0_countEnded : yX0_countEnded.cls = RX0 ∧ yX0_countEnded.cls ≠ "java/lang/invoke/MethodHandle" ∧ yX0_countEnded.cls ≠ "java/lang/invoke/VarHandle" ∧ (parseMethodDescriptor yX0_countEnded.desc).map (fun d => d.parameters.length) = some 0 := by decide +kernel
def pd_hold (u : st_T) (p0 p1 : Int32) : Int32 × st_T :=
  if p0 < 0 then
    ((-1), u)
  else
    if 5 ≤ p0 then
      ((-1), u)
    else
      if p1 < (-2) then
        ((-1), u)
      else
        if p1 < 5 then
          if p1 = (-2) then
            (0, st_sa (st_si u 1 ((u.1 1) + 1)) 0 (ix p0) ((u.1 1) + 1))
          else
            if p1 = (-1) then
              (0, st_sa u 0 (ix p0) 0)
            else
              (0, st_sa u 0 (ix p0) (u.2 0 (ix p1)))
        else
          ((-1), u)
set_option maxHeartbeats 4000000 in
set_option maxRecDepth 100000 in
theorem kd_hold (l : Launch) (dC : Nat → ClassId) (dI : Nat → Nat → Nat) (cI cZ : ClassId) (h : Nat) (q : Nat → Nat) (sz : Nat) (u : st_T) (p0 p1 : Int32) : gx_Mi l yX0_hold wsX0_hold { frames := 0, cells := 0, slots := 0, locals := 0 } [.ref h, .int p0, .int p1] (dC, dI) cI cZ (gw0_ cI cZ h q) u sz (pd_hold u p0 p1) := by
  refine gx_met (cc := cX0_hold) (maxL := 3) (ret := (some .int)) (by decide +kernel) rfl (Nat.le_of_ble_eq_true rfl) (fun p e s m args below meth c A ls hsz hx hb hr hlocks hts hown hml hK hAe hA G hl => ?_)
  have hown : s.vm.findClass RX0 = some m.cls := hown
  have hin : ∀ w ∈ wsX00, w ∈ wsX0_hold := gx_in
  have hl : lv_has ls 3 [(0, .ref h), (1, .int p0), (2, .int p1)] := hl
  refine lv_iload_n hx hb dX0_hold_0 rfl (lv_at hl 1 rfl) ?_
  refine lv_if_lt (tgt := 20) hx hb dX0_hold_1 (by decide) (fun c_1 => ?_) (fun c_1 => ?_)
  · refine lv_iconst (v := (-1)) hx hb dX0_hold_20 (by decide) ?_
    exact gx_iret (wf := gw0_ cI cZ h q) (u1 := u) hx hb hr hlocks hsz hK hAe G dX0_hold_21 (by unfold pd_hold; rw [if_pos c_1])
  · refine lv_iload_n hx hb dX0_hold_4 rfl (lv_at hl 1 rfl) ?_
    refine lv_iconst (v := 5) hx hb dX0_hold_5 (by decide) ?_
    refine lv_icmp_ge (tgt := 20) hx hb dX0_hold_6 (by decide) (fun c_6 => ?_) (fun c_6 => ?_)
    · refine lv_iconst (v := (-1)) hx hb dX0_hold_20 (by decide) ?_
      exact gx_iret (wf := gw0_ cI cZ h q) (u1 := u) hx hb hr hlocks hsz hK hAe G dX0_hold_21 (by unfold pd_hold; rw [if_neg c_1, if_pos c_6])
    · refine lv_iload_n hx hb dX0_hold_9 rfl (lv_at hl 2 rfl) ?_
      refine lv_bipush (v := (-2)) hx hb dX0_hold_10 (by decide) ?_
      refine lv_icmp_lt (tgt := 20) hx hb dX0_hold_12 (by decide) (fun c_12 => ?_) (fun c_12 => ?_)
      · refine lv_iconst (v := (-1)) hx hb dX0_hold_20 (by decide) ?_
        exact gx_iret (wf := gw0_ cI cZ h q) (u1 := u) hx hb hr hlocks hsz hK hAe G dX0_hold_21 (by unfold pd_hold; rw [if_neg c_1, if_neg c_6, if_pos c_12])
      · refine lv_iload_n hx hb dX0_hold_15 rfl (lv_at hl 2 rfl) ?_
        refine lv_iconst (v := 5) hx hb dX0_hold_16 (by decide) ?_
        refine lv_icmp_lt (tgt := 22) hx hb dX0_hold_17 (by decide) (fun c_17 => ?_) (fun c_17 => ?_)
        · refine lv_iload_n hx hb dX0_hold_22 rfl (lv_at hl 2 rfl) ?_
          refine lv_bipush (v := (-2)) hx hb dX0_hold_23 (by decide) ?_
          refine lv_icmp_ne (tgt := 51) hx hb dX0_hold_25 (by decide) (fun c_25 => ?_) (fun c_25 => ?_)
          · refine lv_iload_n hx hb dX0_hold_51 rfl (lv_at hl 2 rfl) ?_
            refine lv_iconst (v := (-1)) hx hb dX0_hold_52 (by decide) ?_
            refine lv_icmp_ne (tgt := 66) hx hb dX0_hold_53 (by decide) (fun c_53 => ?_) (fun c_53 => ?_)
            · refine lv_aload_n hx hb dX0_hold_66 rfl (lv_at hl 0 rfl) ?_
              refine gg0_get (v := .ref (q 0)) hx hb hts hin hown hK G 0 (by decide) (index := 9) (by decide +kernel) rfl dX0_hold_67 ?_
              refine lv_iload_n hx hb dX0_hold_70 rfl (lv_at hl 1 rfl) ?_
              refine lv_aload_n hx hb dX0_hold_71 rfl (lv_at hl 0 rfl) ?_
              refine gg0_get (v := .ref (q 0)) hx hb hts hin hown hK G 0 (by decide) (index := 9) (by decide +kernel) rfl dX0_hold_72 ?_
              refine lv_iload_n hx hb dX0_hold_75 rfl (lv_at hl 2 rfl) ?_
              refine gg0_ld0 hx hb hK G (i := p1) (in_3 c_12 c_17 c_25 c_53) dX0_hold_76 ?_
              refine gg0_st0 hx hb hK G (i := p0) (x := u.2 0 (ix p1)) (in_1 (M := 5) (by decide) c_1 c_6) dX0_hold_77 (fun H locs G => ?_)
              refine lv_iconst (v := 0) hx hb dX0_hold_78 (by decide) ?_
              exact gx_iret (wf := gw0_ cI cZ h q) (u1 := st_sa u 0 (ix p0) (u.2 0 (ix p1))) hx hb hr hlocks hsz hK hAe G dX0_hold_79 (by unfold pd_hold; rw [if_neg c_1, if_neg c_6, if_neg c_12, if_pos c_17, if_neg c_25, if_neg c_53])
            · refine lv_aload_n hx hb dX0_hold_56 rfl (lv_at hl 0 rfl) ?_
              refine gg0_get (v := .ref (q 0)) hx hb hts hin hown hK G 0 (by decide) (index := 9) (by decide +kernel) rfl dX0_hold_57 ?_
              refine lv_iload_n hx hb dX0_hold_60 rfl (lv_at hl 1 rfl) ?_
              refine lv_iconst (v := 0) hx hb dX0_hold_61 (by decide) ?_
              refine gg0_st0 hx hb hK G (i := p0) (x := 0) (in_1 (M := 5) (by decide) c_1 c_6) dX0_hold_62 (fun H locs G => ?_)
              refine lv_goto (tgt := 78) hx hb dX0_hold_63 (by decide) ?_
              refine lv_iconst (v := 0) hx hb dX0_hold_78 (by decide) ?_
              exact gx_iret (wf := gw0_ cI cZ h q) (u1 := st_sa u 0 (ix p0) 0) hx hb hr hlocks hsz hK hAe G dX0_hold_79 (by unfold pd_hold; rw [if_neg c_1, if_neg c_6, if_neg c_12, if_pos c_17, if_neg c_25, if_pos c_53])
          · refine lv_aload_n hx hb dX0_hold_28 rfl (lv_at hl 0 rfl) ?_
            refine lv_dup hx hb dX0_hold_29 rfl ?_
            refine gg0_get (v := .int (u.1 1)) hx hb hts hin hown hK G 1 (by decide) (index := 13) (by decide +kernel) rfl dX0_hold_30 ?_
            refine lv_iconst (v := 1) hx hb dX0_hold_33 (by decide) ?_
            refine lv_iadd hx hb dX0_hold_34 ?_
            refine gg0_put1 (v := (u.1 1) + 1) hx hb hts hin hown hK G (index := 13) (by decide +kernel) dX0_hold_35 (fun H locs G => ?_)
            refine lv_aload_n hx hb dX0_hold_38 rfl (lv_at hl 0 rfl) ?_
            refine gg0_get (v := .ref (q 0)) hx hb hts hin hown hK G 0 (by decide) (index := 9) (by decide +kernel) rfl dX0_hold_39 ?_
            refine lv_iload_n hx hb dX0_hold_42 rfl (lv_at hl 1 rfl) ?_
            refine lv_aload_n hx hb dX0_hold_43 rfl (lv_at hl 0 rfl) ?_
            refine gg0_get (v := .int ((u.1 1) + 1)) hx hb hts hin hown hK G 1 (by decide) (index := 13) (by decide +kernel) rfl dX0_hold_44 ?_
            refine gg0_st0 hx hb hK G (i := p0) (x := (u.1 1) + 1) (in_1 (M := 5) (by decide) c_1 c_6) dX0_hold_47 (fun H locs G => ?_)
            refine lv_goto (tgt := 78) hx hb dX0_hold_48 (by decide) ?_
            refine lv_iconst (v := 0) hx hb dX0_hold_78 (by decide) ?_
            exact gx_iret (wf := gw0_ cI cZ h q) (u1 := st_sa (st_si u 1 ((u.1 1) + 1)) 0 (ix p0) ((u.1 1) + 1)) hx hb hr hlocks hsz hK hAe G dX0_hold_79 (by unfold pd_hold; rw [if_neg c_1, if_neg c_6, if_neg c_12, if_pos c_17, if_pos c_25])
        · refine lv_iconst (v := (-1)) hx hb dX0_hold_20 (by decide) ?_
          exact gx_iret (wf := gw0_ cI cZ h q) (u1 := u) hx hb hr hlocks hsz hK hAe G dX0_hold_21 (by unfold pd_hold; rw [if_neg c_1, if_neg c_6, if_neg c_12, if_neg c_17])
theorem hd_X0_hold : yX0_hold.cls = RX0 ∧ yX0_hold.cls ≠ "java/lang/invoke/MethodHandle" ∧ yX0_hold.cls ≠ "java/lang/invoke/VarHandle" ∧ (parseMethodDescriptor yX0_hold.desc).map (fun d => d.parameters.length) = some 2 := by decide +kernel
def pd_step_86 (u : st_T) (p0 p1 : Int32) : Int32 × st_T :=
  if pd_opensBlock p0 = 0 then
    if p0 = 0 then
      ((u.1 9) + 1, st_si (st_si (st_si (st_sa (st_sa (st_sa (st_sa u 5 (ix (u.1 9)) p0) 6 (ix (u.1 9)) p1) 7 (ix (u.1 9)) (u.1 11)) 8 (ix (u.1 11)) (u.1 9)) 11 ((st_sa (st_sa (st_sa u 5 (ix (u.1 9)) p0) 6 (ix (u.1 9)) p1) 7 (ix (u.1 9)) (u.1 11)).2 7 (ix (u.1 11)))) 10 ((u.1 10) - 1)) 9 ((u.1 9) + 1))
    else
      ((u.1 9) + 1, st_si (st_sa (st_sa (st_sa u 5 (ix (u.1 9)) p0) 6 (ix (u.1 9)) p1) 7 (ix (u.1 9)) (u.1 11)) 9 ((u.1 9) + 1))
  else
    ((u.1 9) + 1, st_si (st_si (st_si (st_sa (st_sa (st_sa u 5 (ix (u.1 9)) p0) 6 (ix (u.1 9)) p1) 7 (ix (u.1 9)) (u.1 11)) 11 (u.1 9)) 10 ((u.1 10) + 1)) 9 ((u.1 9) + 1))
def pd_step (u : st_T) (p0 p1 : Int32) : Int32 × st_T :=
  if p0 < 0 then
    ((-1), u)
  else
    if 15 < p0 then
      ((-1), u)
    else
      if u.1 9 < 24 then
        if p0 = 0 then
          if u.1 11 = (-1) then
            ((-1), u)
          else
            if pd_opensBlock p0 = 0 then
              pd_step_86 u p0 p1
            else
              if u.1 10 < 8 then
                pd_step_86 u p0 p1
              else
                ((-1), u)
        else
          if pd_opensBlock p0 = 0 then
            pd_step_86 u p0 p1
          else
            if u.1 10 < 8 then
              pd_step_86 u p0 p1
            else
              ((-1), u)
      else
        ((-1), u)
set_option maxHeartbeats 4000000 in
set_option maxRecDepth 100000 in
theorem kd_step (l : Launch) (dC : Nat → ClassId) (dI : Nat → Nat → Nat) (cI cZ : ClassId) (h : Nat) (q : Nat → Nat) (sz : Nat) (u : st_T) (p0 p1 : Int32) (hsc : ¬ u.1 9 < 0) (hlo : u.1 11 = -1 ∨ vp_in (u.1 11) 24) : gx_Mi l yX0_step wsX0_step { frames := 1, cells := 0, slots := 0, locals := 20 } [.ref h, .int p0, .int p1] (dC, dI) cI cZ (gw0_ cI cZ h q) u sz (pd_step u p0 p1) := by
  refine gx_met (cc := cX0_step) (maxL := 3) (ret := (some .int)) (by decide +kernel) rfl (Nat.le_of_ble_eq_true rfl) (fun p e s m args below meth c A ls hsz hx hb hr hlocks hts hown hml hK hAe hA G hl => ?_)
  have hown : s.vm.findClass RX0 = some m.cls := hown
  have hin : ∀ w ∈ wsX00, w ∈ wsX0_step := gx_in
  have hl : lv_has ls 3 [(0, .ref h), (1, .int p0), (2, .int p1)] := hl
  have tail_86 : ∀ (H : Heap) (locs : List Loc) (ls : Array Slot), gx_ (dC, dI) A s.heap H locs (gw0_ cI cZ h q (st_sa (st_sa (st_sa u 5 (ix (u.1 9)) p0) 6 (ix (u.1 9)) p1) 7 (ix (u.1 9)) (u.1 11))) → lv_has ls 3 [(0, .ref h), (1, .int p0), (2, .int p1)] → (p0 = 0 → ¬ u.1 11 = -1) → pd_step u p0 p1 = pd_step_86 u p0 p1 → W p l e { frames := 1, cells := 0, slots := 0, locals := 20 } s m args below meth c H locs 0 0 (MQ below (va_Qi (fun r u1 => r = (pd_step u p0 p1).1 ∧ u1 = (pd_step u p0 p1).2) (gx_O (dC, dI) cI cZ (gw0_ cI cZ h q) (gw0_ cI cZ h q u) sz) (va_A (gw0_ cI cZ h q u) sz)) args s 0 0 (va_A (gw0_ cI cZ h q u) sz)) (F0 m 86 ls []) := by
    intro H locs ls G hl c_30 hf
    refine lv_iload_n hx hb dX0_step_86 rfl (lv_at hl 1 rfl) ?_
    refine gx_calls (f := pd_opensBlock p0) (As := [.int p0]) (rest := []) 1 hx hb hml hown hts (kd_opensBlock l p0 ) gX0_step_X0_opensBlock rfl rfl rfl hd_X0_opensBlock ⟨Nat.le_of_ble_eq_true rfl, Nat.le_of_ble_eq_true rfl⟩ rfl hl.1 rfl (Nat.le_of_ble_eq_true rfl) dX0_step_87 (Nat.zero_le _) (Nat.zero_le _) ?_
    refine lv_if_eq (tgt := 114) hx hb dX0_step_90 (by decide) (fun c_90 => ?_) (fun c_90 => ?_)
    · refine lv_iload_n hx hb dX0_step_114 rfl (lv_at hl 1 rfl) ?_
      refine lv_if_ne (tgt := 154) hx hb dX0_step_115 (by decide) (fun c_115 => ?_) (fun c_115 => ?_)
      · refine lv_aload_n hx hb dX0_step_154 rfl (lv_at hl 0 rfl) ?_
        refine lv_dup hx hb dX0_step_155 rfl ?_
        refine gg0_get (v := .int (u.1 9)) hx hb hts hin hown hK G 9 (by decide) (index := 40) (by decide +kernel) rfl dX0_step_156 ?_
        refine lv_iconst (v := 1) hx hb dX0_step_159 (by decide) ?_
        refine lv_iadd hx hb dX0_step_160 ?_
        refine gg0_put9 (v := (u.1 9) + 1) hx hb hts hin hown hK G (index := 40) (by decide +kernel) dX0_step_161 (fun H locs G => ?_)
        refine lv_aload_n hx hb dX0_step_164 rfl (lv_at hl 0 rfl) ?_
        refine gg0_get (v := .int ((u.1 9) + 1)) hx hb hts hin hown hK G 9 (by decide) (index := 40) (by decide +kernel) rfl dX0_step_165 ?_
        exact gx_iret (wf := gw0_ cI cZ h q) (u1 := st_si (st_sa (st_sa (st_sa u 5 (ix (u.1 9)) p0) 6 (ix (u.1 9)) p1) 7 (ix (u.1 9)) (u.1 11)) 9 ((u.1 9) + 1)) hx hb hr hlocks hsz hK hAe G dX0_step_168 (hf.trans (by unfold pd_step_86; rw [if_pos c_90, if_neg c_115]))
      · refine lv_aload_n hx hb dX0_step_118 rfl (lv_at hl 0 rfl) ?_
        refine gg0_get (v := .ref (q 8)) hx hb hts hin hown hK G 8 (by decide) (index := 37) (by decide +kernel) rfl dX0_step_119 ?_
        refine lv_aload_n hx hb dX0_step_122 rfl (lv_at hl 0 rfl) ?_
        refine gg0_get (v := .int (u.1 11)) hx hb hts hin hown hK G 11 (by decide) (index := 46) (by decide +kernel) rfl dX0_step_123 ?_
        refine lv_aload_n hx hb dX0_step_126 rfl (lv_at hl 0 rfl) ?_
        refine gg0_get (v := .int (u.1 9)) hx hb hts hin hown hK G 9 (by decide) (index := 40) (by decide +kernel) rfl dX0_step_127 ?_
        refine gg0_st8 hx hb hK G (i := u.1 11) (x := u.1 9) (hlo.resolve_left (c_30 c_115)) dX0_step_130 (fun H locs G => ?_)
        refine lv_aload_n hx hb dX0_step_131 rfl (lv_at hl 0 rfl) ?_
        refine lv_aload_n hx hb dX0_step_132 rfl (lv_at hl 0 rfl) ?_
        refine gg0_get (v := .ref (q 7)) hx hb hts hin hown hK G 7 (by decide) (index := 34) (by decide +kernel) rfl dX0_step_133 ?_
        refine lv_aload_n hx hb dX0_step_136 rfl (lv_at hl 0 rfl) ?_
        refine gg0_get (v := .int (u.1 11)) hx hb hts hin hown hK G 11 (by decide) (index := 46) (by decide +kernel) rfl dX0_step_137 ?_
        refine gg0_ld7 hx hb hK G (i := u.1 11) (hlo.resolve_left (c_30 c_115)) dX0_step_140 ?_
        refine gx_is (y := (st_sa (st_sa (st_sa u 5 (ix (u.1 9)) p0) 6 (ix (u.1 9)) p1) 7 (ix (u.1 9)) (u.1 11)).2 7 (ix (u.1 11))) (congrFun (st_sa_2 _ _ _ (by decide)) _) ?_
        refine gg0_put11 (v := (st_sa (st_sa (st_sa u 5 (ix (u.1 9)) p0) 6 (ix (u.1 9)) p1) 7 (ix (u.1 9)) (u.1 11)).2 7 (ix (u.1 11))) hx hb hts hin hown hK G (index := 46) (by decide +kernel) dX0_step_141 (fun H locs G => ?_)
        refine lv_aload_n hx hb dX0_step_144 rfl (lv_at hl 0 rfl) ?_
        refine lv_dup hx hb dX0_step_145 rfl ?_
        refine gg0_get (v := .int (u.1 10)) hx hb hts hin hown hK G 10 (by decide) (index := 43) (by decide +kernel) rfl dX0_step_146 ?_
        refine lv_iconst (v := 1) hx hb dX0_step_149 (by decide) ?_
        refine lv_isub hx hb dX0_step_150 ?_
        refine gg0_put10 (v := (u.1 10) - 1) hx hb hts hin hown hK G (index := 43) (by decide +kernel) dX0_step_151 (fun H locs G => ?_)
        refine lv_aload_n hx hb dX0_step_154 rfl (lv_at hl 0 rfl) ?_
        refine lv_dup hx hb dX0_step_155 rfl ?_
        refine gg0_get (v := .int (u.1 9)) hx hb hts hin hown hK G 9 (by decide) (index := 40) (by decide +kernel) rfl dX0_step_156 ?_
        refine lv_iconst (v := 1) hx hb dX0_step_159 (by decide) ?_
        refine lv_iadd hx hb dX0_step_160 ?_
        refine gg0_put9 (v := (u.1 9) + 1) hx hb hts hin hown hK G (index := 40) (by decide +kernel) dX0_step_161 (fun H locs G => ?_)
        refine lv_aload_n hx hb dX0_step_164 rfl (lv_at hl 0 rfl) ?_
        refine gg0_get (v := .int ((u.1 9) + 1)) hx hb hts hin hown hK G 9 (by decide) (index := 40) (by decide +kernel) rfl dX0_step_165 ?_
        exact gx_iret (wf := gw0_ cI cZ h q) (u1 := st_si (st_si (st_si (st_sa (st_sa (st_sa (st_sa u 5 (ix (u.1 9)) p0) 6 (ix (u.1 9)) p1) 7 (ix (u.1 9)) (u.1 11)) 8 (ix (u.1 11)) (u.1 9)) 11 ((st_sa (st_sa (st_sa u 5 (ix (u.1 9)) p0) 6 (ix (u.1 9)) p1) 7 (ix (u.1 9)) (u.1 11)).2 7 (ix (u.1 11)))) 10 ((u.1 10) - 1)) 9 ((u.1 9) + 1)) hx hb hr hlocks hsz hK hAe G dX0_step_168 (hf.trans (by unfold pd_step_86; rw [if_pos c_90, if_pos c_115]))
    · refine lv_aload_n hx hb dX0_step_93 rfl (lv_at hl 0 rfl) ?_
      refine lv_aload_n hx hb dX0_step_94 rfl (lv_at hl 0 rfl) ?_
      refine gg0_get (v := .int (u.1 9)) hx hb hts hin hown hK G 9 (by decide) (index := 40) (by decide +kernel) rfl dX0_step_95 ?_
      refine gg0_put11 (v := u.1 9) hx hb hts hin hown hK G (index := 46) (by decide +kernel) dX0_step_98 (fun H locs G => ?_)
      refine lv_aload_n hx hb dX0_step_101 rfl (lv_at hl 0 rfl) ?_
      refine lv_dup hx hb dX0_step_102 rfl ?_
      refine gg0_get (v := .int (u.1 10)) hx hb hts hin hown hK G 10 (by decide) (index := 43) (by decide +kernel) rfl dX0_step_103 ?_
      refine lv_iconst (v := 1) hx hb dX0_step_106 (by decide) ?_
      refine lv_iadd hx hb dX0_step_107 ?_
      refine gg0_put10 (v := (u.1 10) + 1) hx hb hts hin hown hK G (index := 43) (by decide +kernel) dX0_step_108 (fun H locs G => ?_)
      refine lv_goto (tgt := 154) hx hb dX0_step_111 (by decide) ?_
      refine lv_aload_n hx hb dX0_step_154 rfl (lv_at hl 0 rfl) ?_
      refine lv_dup hx hb dX0_step_155 rfl ?_
      refine gg0_get (v := .int (u.1 9)) hx hb hts hin hown hK G 9 (by decide) (index := 40) (by decide +kernel) rfl dX0_step_156 ?_
      refine lv_iconst (v := 1) hx hb dX0_step_159 (by decide) ?_
      refine lv_iadd hx hb dX0_step_160 ?_
      refine gg0_put9 (v := (u.1 9) + 1) hx hb hts hin hown hK G (index := 40) (by decide +kernel) dX0_step_161 (fun H locs G => ?_)
      refine lv_aload_n hx hb dX0_step_164 rfl (lv_at hl 0 rfl) ?_
      refine gg0_get (v := .int ((u.1 9) + 1)) hx hb hts hin hown hK G 9 (by decide) (index := 40) (by decide +kernel) rfl dX0_step_165 ?_
      exact gx_iret (wf := gw0_ cI cZ h q) (u1 := st_si (st_si (st_si (st_sa (st_sa (st_sa u 5 (ix (u.1 9)) p0) 6 (ix (u.1 9)) p1) 7 (ix (u.1 9)) (u.1 11)) 11 (u.1 9)) 10 ((u.1 10) + 1)) 9 ((u.1 9) + 1)) hx hb hr hlocks hsz hK hAe G dX0_step_168 (hf.trans (by unfold pd_step_86; rw [if_neg c_90]))
  refine lv_iload_n hx hb dX0_step_0 rfl (lv_at hl 1 rfl) ?_
  refine lv_if_lt (tgt := 19) hx hb dX0_step_1 (by decide) (fun c_1 => ?_) (fun c_1 => ?_)
  · refine lv_iconst (v := (-1)) hx hb dX0_step_19 (by decide) ?_
    exact gx_iret (wf := gw0_ cI cZ h q) (u1 := u) hx hb hr hlocks hsz hK hAe G dX0_step_20 (by unfold pd_step; rw [if_pos c_1])
  · refine lv_iload_n hx hb dX0_step_4 rfl (lv_at hl 1 rfl) ?_
    refine lv_bipush (v := 15) hx hb dX0_step_5 (by decide) ?_
    refine lv_icmp_gt (tgt := 19) hx hb dX0_step_7 (by decide) (fun c_7 => ?_) (fun c_7 => ?_)
    · refine lv_iconst (v := (-1)) hx hb dX0_step_19 (by decide) ?_
      exact gx_iret (wf := gw0_ cI cZ h q) (u1 := u) hx hb hr hlocks hsz hK hAe G dX0_step_20 (by unfold pd_step; rw [if_neg c_1, if_pos c_7])
    · refine lv_aload_n hx hb dX0_step_10 rfl (lv_at hl 0 rfl) ?_
      refine gg0_get (v := .int (u.1 9)) hx hb hts hin hown hK G 9 (by decide) (index := 40) (by decide +kernel) rfl dX0_step_11 ?_
      refine lv_bipush (v := 24) hx hb dX0_step_14 (by decide) ?_
      refine lv_icmp_lt (tgt := 21) hx hb dX0_step_16 (by decide) (fun c_16 => ?_) (fun c_16 => ?_)
      · refine lv_iload_n hx hb dX0_step_21 rfl (lv_at hl 1 rfl) ?_
        refine lv_if_ne (tgt := 35) hx hb dX0_step_22 (by decide) (fun c_22 => ?_) (fun c_22 => ?_)
        · refine lv_iload_n hx hb dX0_step_35 rfl (lv_at hl 1 rfl) ?_
          refine gx_calls (f := pd_opensBlock p0) (As := [.int p0]) (rest := []) 1 hx hb hml hown hts (kd_opensBlock l p0 ) gX0_step_X0_opensBlock rfl rfl rfl hd_X0_opensBlock ⟨Nat.le_of_ble_eq_true rfl, Nat.le_of_ble_eq_true rfl⟩ rfl hl.1 rfl (Nat.le_of_ble_eq_true rfl) dX0_step_36 (Nat.zero_le _) (Nat.zero_le _) ?_
          refine lv_if_eq (tgt := 53) hx hb dX0_step_39 (by decide) (fun c_39 => ?_) (fun c_39 => ?_)
          · refine lv_aload_n hx hb dX0_step_53 rfl (lv_at hl 0 rfl) ?_
            refine gg0_get (v := .ref (q 5)) hx hb hts hin hown hK G 5 (by decide) (index := 28) (by decide +kernel) rfl dX0_step_54 ?_
            refine lv_aload_n hx hb dX0_step_57 rfl (lv_at hl 0 rfl) ?_
            refine gg0_get (v := .int (u.1 9)) hx hb hts hin hown hK G 9 (by decide) (index := 40) (by decide +kernel) rfl dX0_step_58 ?_
            refine lv_iload_n hx hb dX0_step_61 rfl (lv_at hl 1 rfl) ?_
            refine gg0_st5 hx hb hK G (i := u.1 9) (x := p0) (in_2 (M := 24) (by decide) hsc c_16) dX0_step_62 (fun H locs G => ?_)
            refine lv_aload_n hx hb dX0_step_63 rfl (lv_at hl 0 rfl) ?_
            refine gg0_get (v := .ref (q 6)) hx hb hts hin hown hK G 6 (by decide) (index := 31) (by decide +kernel) rfl dX0_step_64 ?_
            refine lv_aload_n hx hb dX0_step_67 rfl (lv_at hl 0 rfl) ?_
            refine gg0_get (v := .int (u.1 9)) hx hb hts hin hown hK G 9 (by decide) (index := 40) (by decide +kernel) rfl dX0_step_68 ?_
            refine lv_iload_n hx hb dX0_step_71 rfl (lv_at hl 2 rfl) ?_
            refine gg0_st6 hx hb hK G (i := u.1 9) (x := p1) (in_2 (M := 24) (by decide) hsc c_16) dX0_step_72 (fun H locs G => ?_)
            refine lv_aload_n hx hb dX0_step_73 rfl (lv_at hl 0 rfl) ?_
            refine gg0_get (v := .ref (q 7)) hx hb hts hin hown hK G 7 (by decide) (index := 34) (by decide +kernel) rfl dX0_step_74 ?_
            refine lv_aload_n hx hb dX0_step_77 rfl (lv_at hl 0 rfl) ?_
            refine gg0_get (v := .int (u.1 9)) hx hb hts hin hown hK G 9 (by decide) (index := 40) (by decide +kernel) rfl dX0_step_78 ?_
            refine lv_aload_n hx hb dX0_step_81 rfl (lv_at hl 0 rfl) ?_
            refine gg0_get (v := .int (u.1 11)) hx hb hts hin hown hK G 11 (by decide) (index := 46) (by decide +kernel) rfl dX0_step_82 ?_
            refine gg0_st7 hx hb hK G (i := u.1 9) (x := u.1 11) (in_2 (M := 24) (by decide) hsc c_16) dX0_step_85 (fun H locs G => ?_)
            exact tail_86 _ _ ls G hl (fun z => absurd z c_22) (by unfold pd_step; rw [if_neg c_1, if_neg c_7, if_pos c_16, if_neg c_22, if_pos c_39])
          · refine lv_aload_n hx hb dX0_step_42 rfl (lv_at hl 0 rfl) ?_
            refine gg0_get (v := .int (u.1 10)) hx hb hts hin hown hK G 10 (by decide) (index := 43) (by decide +kernel) rfl dX0_step_43 ?_
            refine lv_bipush (v := 8) hx hb dX0_step_46 (by decide) ?_
            refine lv_icmp_lt (tgt := 53) hx hb dX0_step_48 (by decide) (fun c_48 => ?_) (fun c_48 => ?_)
            · refine lv_aload_n hx hb dX0_step_53 rfl (lv_at hl 0 rfl) ?_
              refine gg0_get (v := .ref (q 5)) hx hb hts hin hown hK G 5 (by decide) (index := 28) (by decide +kernel) rfl dX0_step_54 ?_
              refine lv_aload_n hx hb dX0_step_57 rfl (lv_at hl 0 rfl) ?_
              refine gg0_get (v := .int (u.1 9)) hx hb hts hin hown hK G 9 (by decide) (index := 40) (by decide +kernel) rfl dX0_step_58 ?_
              refine lv_iload_n hx hb dX0_step_61 rfl (lv_at hl 1 rfl) ?_
              refine gg0_st5 hx hb hK G (i := u.1 9) (x := p0) (in_2 (M := 24) (by decide) hsc c_16) dX0_step_62 (fun H locs G => ?_)
              refine lv_aload_n hx hb dX0_step_63 rfl (lv_at hl 0 rfl) ?_
              refine gg0_get (v := .ref (q 6)) hx hb hts hin hown hK G 6 (by decide) (index := 31) (by decide +kernel) rfl dX0_step_64 ?_
              refine lv_aload_n hx hb dX0_step_67 rfl (lv_at hl 0 rfl) ?_
              refine gg0_get (v := .int (u.1 9)) hx hb hts hin hown hK G 9 (by decide) (index := 40) (by decide +kernel) rfl dX0_step_68 ?_
              refine lv_iload_n hx hb dX0_step_71 rfl (lv_at hl 2 rfl) ?_
              refine gg0_st6 hx hb hK G (i := u.1 9) (x := p1) (in_2 (M := 24) (by decide) hsc c_16) dX0_step_72 (fun H locs G => ?_)
              refine lv_aload_n hx hb dX0_step_73 rfl (lv_at hl 0 rfl) ?_
              refine gg0_get (v := .ref (q 7)) hx hb hts hin hown hK G 7 (by decide) (index := 34) (by decide +kernel) rfl dX0_step_74 ?_
              refine lv_aload_n hx hb dX0_step_77 rfl (lv_at hl 0 rfl) ?_
              refine gg0_get (v := .int (u.1 9)) hx hb hts hin hown hK G 9 (by decide) (index := 40) (by decide +kernel) rfl dX0_step_78 ?_
              refine lv_aload_n hx hb dX0_step_81 rfl (lv_at hl 0 rfl) ?_
              refine gg0_get (v := .int (u.1 11)) hx hb hts hin hown hK G 11 (by decide) (index := 46) (by decide +kernel) rfl dX0_step_82 ?_
              refine gg0_st7 hx hb hK G (i := u.1 9) (x := u.1 11) (in_2 (M := 24) (by decide) hsc c_16) dX0_step_85 (fun H locs G => ?_)
              exact tail_86 _ _ ls G hl (fun z => absurd z c_22) (by unfold pd_step; rw [if_neg c_1, if_neg c_7, if_pos c_16, if_neg c_22, if_neg c_39, if_pos c_48])
            · refine lv_iconst (v := (-1)) hx hb dX0_step_51 (by decide) ?_
              exact gx_iret (wf := gw0_ cI cZ h q) (u1 := u) hx hb hr hlocks hsz hK hAe G dX0_step_52 (by unfold pd_step; rw [if_neg c_1, if_neg c_7, if_pos c_16, if_neg c_22, if_neg c_39, if_neg c_48])
        · refine lv_aload_n hx hb dX0_step_25 rfl (lv_at hl 0 rfl) ?_
          refine gg0_get (v := .int (u.1 11)) hx hb hts hin hown hK G 11 (by decide) (index := 46) (by decide +kernel) rfl dX0_step_26 ?_
          refine lv_iconst (v := (-1)) hx hb dX0_step_29 (by decide) ?_
          refine lv_icmp_ne (tgt := 35) hx hb dX0_step_30 (by decide) (fun c_30 => ?_) (fun c_30 => ?_)
          · refine lv_iload_n hx hb dX0_step_35 rfl (lv_at hl 1 rfl) ?_
            refine gx_calls (f := pd_opensBlock p0) (As := [.int p0]) (rest := []) 1 hx hb hml hown hts (kd_opensBlock l p0 ) gX0_step_X0_opensBlock rfl rfl rfl hd_X0_opensBlock ⟨Nat.le_of_ble_eq_true rfl, Nat.le_of_ble_eq_true rfl⟩ rfl hl.1 rfl (Nat.le_of_ble_eq_true rfl) dX0_step_36 (Nat.zero_le _) (Nat.zero_le _) ?_
            refine lv_if_eq (tgt := 53) hx hb dX0_step_39 (by decide) (fun c_39 => ?_) (fun c_39 => ?_)
            · refine lv_aload_n hx hb dX0_step_53 rfl (lv_at hl 0 rfl) ?_
              refine gg0_get (v := .ref (q 5)) hx hb hts hin hown hK G 5 (by decide) (index := 28) (by decide +kernel) rfl dX0_step_54 ?_
              refine lv_aload_n hx hb dX0_step_57 rfl (lv_at hl 0 rfl) ?_
              refine gg0_get (v := .int (u.1 9)) hx hb hts hin hown hK G 9 (by decide) (index := 40) (by decide +kernel) rfl dX0_step_58 ?_
              refine lv_iload_n hx hb dX0_step_61 rfl (lv_at hl 1 rfl) ?_
              refine gg0_st5 hx hb hK G (i := u.1 9) (x := p0) (in_2 (M := 24) (by decide) hsc c_16) dX0_step_62 (fun H locs G => ?_)
              refine lv_aload_n hx hb dX0_step_63 rfl (lv_at hl 0 rfl) ?_
              refine gg0_get (v := .ref (q 6)) hx hb hts hin hown hK G 6 (by decide) (index := 31) (by decide +kernel) rfl dX0_step_64 ?_
              refine lv_aload_n hx hb dX0_step_67 rfl (lv_at hl 0 rfl) ?_
              refine gg0_get (v := .int (u.1 9)) hx hb hts hin hown hK G 9 (by decide) (index := 40) (by decide +kernel) rfl dX0_step_68 ?_
              refine lv_iload_n hx hb dX0_step_71 rfl (lv_at hl 2 rfl) ?_
              refine gg0_st6 hx hb hK G (i := u.1 9) (x := p1) (in_2 (M := 24) (by decide) hsc c_16) dX0_step_72 (fun H locs G => ?_)
              refine lv_aload_n hx hb dX0_step_73 rfl (lv_at hl 0 rfl) ?_
              refine gg0_get (v := .ref (q 7)) hx hb hts hin hown hK G 7 (by decide) (index := 34) (by decide +kernel) rfl dX0_step_74 ?_
              refine lv_aload_n hx hb dX0_step_77 rfl (lv_at hl 0 rfl) ?_
              refine gg0_get (v := .int (u.1 9)) hx hb hts hin hown hK G 9 (by decide) (index := 40) (by decide +kernel) rfl dX0_step_78 ?_
              refine lv_aload_n hx hb dX0_step_81 rfl (lv_at hl 0 rfl) ?_
              refine gg0_get (v := .int (u.1 11)) hx hb hts hin hown hK G 11 (by decide) (index := 46) (by decide +kernel) rfl dX0_step_82 ?_
              refine gg0_st7 hx hb hK G (i := u.1 9) (x := u.1 11) (in_2 (M := 24) (by decide) hsc c_16) dX0_step_85 (fun H locs G => ?_)
              exact tail_86 _ _ ls G hl (fun _ => c_30) (by unfold pd_step; rw [if_neg c_1, if_neg c_7, if_pos c_16, if_pos c_22, if_neg c_30, if_pos c_39])
            · refine lv_aload_n hx hb dX0_step_42 rfl (lv_at hl 0 rfl) ?_
              refine gg0_get (v := .int (u.1 10)) hx hb hts hin hown hK G 10 (by decide) (index := 43) (by decide +kernel) rfl dX0_step_43 ?_
              refine lv_bipush (v := 8) hx hb dX0_step_46 (by decide) ?_
              refine lv_icmp_lt (tgt := 53) hx hb dX0_step_48 (by decide) (fun c_48 => ?_) (fun c_48 => ?_)
              · refine lv_aload_n hx hb dX0_step_53 rfl (lv_at hl 0 rfl) ?_
                refine gg0_get (v := .ref (q 5)) hx hb hts hin hown hK G 5 (by decide) (index := 28) (by decide +kernel) rfl dX0_step_54 ?_
                refine lv_aload_n hx hb dX0_step_57 rfl (lv_at hl 0 rfl) ?_
                refine gg0_get (v := .int (u.1 9)) hx hb hts hin hown hK G 9 (by decide) (index := 40) (by decide +kernel) rfl dX0_step_58 ?_
                refine lv_iload_n hx hb dX0_step_61 rfl (lv_at hl 1 rfl) ?_
                refine gg0_st5 hx hb hK G (i := u.1 9) (x := p0) (in_2 (M := 24) (by decide) hsc c_16) dX0_step_62 (fun H locs G => ?_)
                refine lv_aload_n hx hb dX0_step_63 rfl (lv_at hl 0 rfl) ?_
                refine gg0_get (v := .ref (q 6)) hx hb hts hin hown hK G 6 (by decide) (index := 31) (by decide +kernel) rfl dX0_step_64 ?_
                refine lv_aload_n hx hb dX0_step_67 rfl (lv_at hl 0 rfl) ?_
                refine gg0_get (v := .int (u.1 9)) hx hb hts hin hown hK G 9 (by decide) (index := 40) (by decide +kernel) rfl dX0_step_68 ?_
                refine lv_iload_n hx hb dX0_step_71 rfl (lv_at hl 2 rfl) ?_
                refine gg0_st6 hx hb hK G (i := u.1 9) (x := p1) (in_2 (M := 24) (by decide) hsc c_16) dX0_step_72 (fun H locs G => ?_)
                refine lv_aload_n hx hb dX0_step_73 rfl (lv_at hl 0 rfl) ?_
                refine gg0_get (v := .ref (q 7)) hx hb hts hin hown hK G 7 (by decide) (index := 34) (by decide +kernel) rfl dX0_step_74 ?_
                refine lv_aload_n hx hb dX0_step_77 rfl (lv_at hl 0 rfl) ?_
                refine gg0_get (v := .int (u.1 9)) hx hb hts hin hown hK G 9 (by decide) (index := 40) (by decide +kernel) rfl dX0_step_78 ?_
                refine lv_aload_n hx hb dX0_step_81 rfl (lv_at hl 0 rfl) ?_
                refine gg0_get (v := .int (u.1 11)) hx hb hts hin hown hK G 11 (by decide) (index := 46) (by decide +kernel) rfl dX0_step_82 ?_
                refine gg0_st7 hx hb hK G (i := u.1 9) (x := u.1 11) (in_2 (M := 24) (by decide) hsc c_16) dX0_step_85 (fun H locs G => ?_)
                exact tail_86 _ _ ls G hl (fun _ => c_30) (by unfold pd_step; rw [if_neg c_1, if_neg c_7, if_pos c_16, if_pos c_22, if_neg c_30, if_neg c_39, if_pos c_48])
              · refine lv_iconst (v := (-1)) hx hb dX0_step_51 (by decide) ?_
                exact gx_iret (wf := gw0_ cI cZ h q) (u1 := u) hx hb hr hlocks hsz hK hAe G dX0_step_52 (by unfold pd_step; rw [if_neg c_1, if_neg c_7, if_pos c_16, if_pos c_22, if_neg c_30, if_neg c_39, if_neg c_48])
          · refine lv_iconst (v := (-1)) hx hb dX0_step_33 (by decide) ?_
            exact gx_iret (wf := gw0_ cI cZ h q) (u1 := u) hx hb hr hlocks hsz hK hAe G dX0_step_34 (by unfold pd_step; rw [if_neg c_1, if_neg c_7, if_pos c_16, if_pos c_22, if_pos c_30])
      · refine lv_iconst (v := (-1)) hx hb dX0_step_19 (by decide) ?_
        exact gx_iret (wf := gw0_ cI cZ h q) (u1 := u) hx hb hr hlocks hsz hK hAe G dX0_step_20 (by unfold pd_step; rw [if_neg c_1, if_neg c_7, if_neg c_16])
theorem hd_X0_step : yX0_step.cls = RX0 ∧ yX0_step.cls ≠ "java/lang/invoke/MethodHandle" ∧ yX0_step.cls ≠ "java/lang/invoke/VarHandle" ∧ (parseMethodDescriptor yX0_step.desc).map (fun d => d.parameters.length) = some 2 := by decide +kernel
def pd_clear (u : st_T) : Int32 × st_T :=
  (u.1 9, st_si (st_si (st_si u 9 0) 10 0) 11 (-1))
set_option maxHeartbeats 4000000 in
set_option maxRecDepth 100000 in
theorem kd_clear (l : Launch) (dC : Nat → ClassId) (dI : Nat → Nat → Nat) (cI cZ : ClassId) (h : Nat) (q : Nat → Nat) (sz : Nat) (u : st_T) : gx_Mi l yX0_clear wsX0_clear { frames := 0, cells := 0, slots := 0, locals := 0 } [.ref h] (dC, dI) cI cZ (gw0_ cI cZ h q) u sz (pd_clear u) := by
  refine gx_met (cc := cX0_clear) (maxL := 2) (ret := (some .int)) (by decide +kernel) rfl (Nat.le_of_ble_eq_true rfl) (fun p e s m args below meth c A ls hsz hx hb hr hlocks hts hown hml hK hAe hA G hl => ?_)
  have hown : s.vm.findClass RX0 = some m.cls := hown
  have hin : ∀ w ∈ wsX00, w ∈ wsX0_clear := gx_in
  have hl : lv_has ls 2 [(0, .ref h)] := hl
  refine lv_aload_n hx hb dX0_clear_0 rfl (lv_at hl 0 rfl) ?_
  refine gg0_get (v := .int (u.1 9)) hx hb hts hin hown hK G 9 (by decide) (index := 40) (by decide +kernel) rfl dX0_clear_1 ?_
  refine lv_istore_n (lv' := [(1, .int (u.1 9)), (0, .ref h)]) hx hb dX0_clear_4 rfl hl (by decide) rfl (fun ls hl => ?_)
  refine lv_aload_n hx hb dX0_clear_5 rfl (lv_at hl 1 rfl) ?_
  refine lv_iconst (v := 0) hx hb dX0_clear_6 (by decide) ?_
  refine gg0_put9 (v := 0) hx hb hts hin hown hK G (index := 40) (by decide +kernel) dX0_clear_7 (fun H locs G => ?_)
  refine lv_aload_n hx hb dX0_clear_10 rfl (lv_at hl 1 rfl) ?_
  refine lv_iconst (v := 0) hx hb dX0_clear_11 (by decide) ?_
  refine gg0_put10 (v := 0) hx hb hts hin hown hK G (index := 43) (by decide +kernel) dX0_clear_12 (fun H locs G => ?_)
  refine lv_aload_n hx hb dX0_clear_15 rfl (lv_at hl 1 rfl) ?_
  refine lv_iconst (v := (-1)) hx hb dX0_clear_16 (by decide) ?_
  refine gg0_put11 (v := (-1)) hx hb hts hin hown hK G (index := 46) (by decide +kernel) dX0_clear_17 (fun H locs G => ?_)
  refine lv_iload_n hx hb dX0_clear_20 rfl (lv_at hl 0 rfl) ?_
  exact gx_iret (wf := gw0_ cI cZ h q) (u1 := st_si (st_si (st_si u 9 0) 10 0) 11 (-1)) hx hb hr hlocks hsz hK hAe G dX0_clear_21 (by unfold pd_clear; rfl)
theorem hd_X0_clear : yX0_clear.cls = RX0 ∧ yX0_clear.cls ≠ "java/lang/invoke/MethodHandle" ∧ yX0_clear.cls ≠ "java/lang/invoke/VarHandle" ∧ (parseMethodDescriptor yX0_clear.desc).map (fun d => d.parameters.length) = some 0 := by decide +kernel
def pd_result (u : st_T) (p0 : Int32) : Int32 :=
  if p0 < 0 then
    (-1)
  else
    if p0 < 24 then
      u.2 12 (ix p0)
    else
      (-1)
set_option maxHeartbeats 4000000 in
set_option maxRecDepth 100000 in
theorem kd_result (l : Launch) (dC : Nat → ClassId) (dI : Nat → Nat → Nat) (cI cZ : ClassId) (h : Nat) (q : Nat → Nat) (sz : Nat) (u : st_T) (p0 : Int32) : gx_Mi l yX0_result wsX0_result { frames := 0, cells := 0, slots := 0, locals := 0 } [.ref h, .int p0] (dC, dI) cI cZ (gw0_ cI cZ h q) u sz (pd_result u p0, u) := by
  refine gx_met (cc := cX0_result) (maxL := 2) (ret := (some .int)) (by decide +kernel) rfl (Nat.le_of_ble_eq_true rfl) (fun p e s m args below meth c A ls hsz hx hb hr hlocks hts hown hml hK hAe hA G hl => ?_)
  have hown : s.vm.findClass RX0 = some m.cls := hown
  have hin : ∀ w ∈ wsX00, w ∈ wsX0_result := gx_in
  have hl : lv_has ls 2 [(0, .ref h), (1, .int p0)] := hl
  refine lv_iload_n hx hb dX0_result_0 rfl (lv_at hl 1 rfl) ?_
  refine lv_if_lt (tgt := 10) hx hb dX0_result_1 (by decide) (fun c_1 => ?_) (fun c_1 => ?_)
  · refine lv_iconst (v := (-1)) hx hb dX0_result_10 (by decide) ?_
    exact gx_iret (wf := gw0_ cI cZ h q) (u1 := u) hx hb hr hlocks hsz hK hAe G dX0_result_11 (congrArg (fun z => (z, u)) (by unfold pd_result; rw [if_pos c_1]))
  · refine lv_iload_n hx hb dX0_result_4 rfl (lv_at hl 1 rfl) ?_
    refine lv_bipush (v := 24) hx hb dX0_result_5 (by decide) ?_
    refine lv_icmp_lt (tgt := 12) hx hb dX0_result_7 (by decide) (fun c_7 => ?_) (fun c_7 => ?_)
    · refine lv_aload_n hx hb dX0_result_12 rfl (lv_at hl 0 rfl) ?_
      refine gg0_get (v := .ref (q 12)) hx hb hts hin hown hK G 12 (by decide) (index := 49) (by decide +kernel) rfl dX0_result_13 ?_
      refine lv_iload_n hx hb dX0_result_16 rfl (lv_at hl 1 rfl) ?_
      refine gg0_ld12 hx hb hK G (i := p0) (in_2 (M := 24) (by decide) c_1 c_7) dX0_result_17 ?_
      exact gx_iret (wf := gw0_ cI cZ h q) (u1 := u) hx hb hr hlocks hsz hK hAe G dX0_result_18 (congrArg (fun z => (z, u)) (by unfold pd_result; rw [if_neg c_1, if_pos c_7]))
    · refine lv_iconst (v := (-1)) hx hb dX0_result_10 (by decide) ?_
      exact gx_iret (wf := gw0_ cI cZ h q) (u1 := u) hx hb hr hlocks hsz hK hAe G dX0_result_11 (congrArg (fun z => (z, u)) (by unfold pd_result; rw [if_neg c_1, if_neg c_7]))
theorem hd_X0_result : yX0_result.cls = RX0 ∧ yX0_result.cls ≠ "java/lang/invoke/MethodHandle" ∧ yX0_result.cls ≠ "java/lang/invoke/VarHandle" ∧ (parseMethodDescriptor yX0_result.desc).map (fun d => d.parameters.length) = some 1 := by decide +kernel
def pd_failure (u : st_T) : Int32 :=
  u.1 13
set_option maxHeartbeats 4000000 in
set_option maxRecDepth 100000 in
theorem kd_failure (l : Launch) (dC : Nat → ClassId) (dI : Nat → Nat → Nat) (cI cZ : ClassId) (h : Nat) (q : Nat → Nat) (sz : Nat) (u : st_T) : gx_Mi l yX0_failure wsX0_failure { frames := 0, cells := 0, slots := 0, locals := 0 } [.ref h] (dC, dI) cI cZ (gw0_ cI cZ h q) u sz (pd_failure u, u) := by
  refine gx_met (cc := cX0_failure) (maxL := 1) (ret := (some .int)) (by decide +kernel) rfl (Nat.le_of_ble_eq_true rfl) (fun p e s m args below meth c A ls hsz hx hb hr hlocks hts hown hml hK hAe hA G hl => ?_)
  have hown : s.vm.findClass RX0 = some m.cls := hown
  have hin : ∀ w ∈ wsX00, w ∈ wsX0_failure := gx_in
  have hl : lv_has ls 1 [(0, .ref h)] := hl
  refine lv_aload_n hx hb dX0_failure_0 rfl (lv_at hl 0 rfl) ?_
  refine gg0_get (v := .int (u.1 13)) hx hb hts hin hown hK G 13 (by decide) (index := 52) (by decide +kernel) rfl dX0_failure_1 ?_
  exact gx_iret (wf := gw0_ cI cZ h q) (u1 := u) hx hb hr hlocks hsz hK hAe G dX0_failure_4 (congrArg (fun z => (z, u)) (by unfold pd_failure; rfl))
theorem hd_X0_failure : yX0_failure.cls = RX0 ∧ yX0_failure.cls ≠ "java/lang/invoke/MethodHandle" ∧ yX0_failure.cls ≠ "java/lang/invoke/VarHandle" ∧ (parseMethodDescriptor yX0_failure.desc).map (fun d => d.parameters.length) = some 0 := by decide +kernel
theorem hs_in {x : Int32} (h1 : ¬ x < 5) (h2 : x < 10) : vp_in (x - 5) 5 := by
  rw [Int32.lt_iff_toInt_lt] at h1 h2
  rw [show (5 : Int32).toInt = 5 by decide] at h1
  rw [show (10 : Int32).toInt = 10 by decide] at h2
  refine vp_in_iff.mpr ?_
  have e : (x - 5).toInt = x.toInt - 5 := by
    rw [Int32.toInt_sub, show (5 : Int32).toInt = 5 by decide]
    exact Int.bmod_eq_of_le_mul_two (by omega) (by omega)
  omega
def pd_handleState (u : st_T) (p0 : Int32) : Int32 :=
  if p0 < 5 then
    (-1)
  else
    if p0 < 10 then
      if u.2 0 (ix (p0 - 5)) = 0 then
        (-2)
      else
        pd_leastHandle u (p0 - 5)
    else
      (-1)
set_option maxHeartbeats 4000000 in
set_option maxRecDepth 100000 in
theorem kd_handleState (l : Launch) (dC : Nat → ClassId) (dI : Nat → Nat → Nat) (cI cZ : ClassId) (h : Nat) (q : Nat → Nat) (sz : Nat) (u : st_T) (p0 : Int32) : gx_Mi l yX0_handleState wsX0_handleState { frames := 1, cells := 0, slots := 0, locals := 22 } [.ref h, .int p0] (dC, dI) cI cZ (gw0_ cI cZ h q) u sz (pd_handleState u p0, u) := by
  refine gx_met (cc := cX0_handleState) (maxL := 3) (ret := (some .int)) (by decide +kernel) rfl (Nat.le_of_ble_eq_true rfl) (fun p e s m args below meth c A ls hsz hx hb hr hlocks hts hown hml hK hAe hA G hl => ?_)
  have hown : s.vm.findClass RX0 = some m.cls := hown
  have hin : ∀ w ∈ wsX00, w ∈ wsX0_handleState := gx_in
  have hl : lv_has ls 3 [(0, .ref h), (1, .int p0)] := hl
  refine lv_iload_n hx hb dX0_handleState_0 rfl (lv_at hl 1 rfl) ?_
  refine lv_iconst (v := 5) hx hb dX0_handleState_1 (by decide) ?_
  refine lv_icmp_lt (tgt := 11) hx hb dX0_handleState_2 (by decide) (fun c_2 => ?_) (fun c_2 => ?_)
  · refine lv_iconst (v := (-1)) hx hb dX0_handleState_11 (by decide) ?_
    exact gx_iret (wf := gw0_ cI cZ h q) (u1 := u) hx hb hr hlocks hsz hK hAe G dX0_handleState_12 (congrArg (fun z => (z, u)) (by unfold pd_handleState; rw [if_pos c_2]))
  · refine lv_iload_n hx hb dX0_handleState_5 rfl (lv_at hl 1 rfl) ?_
    refine lv_bipush (v := 10) hx hb dX0_handleState_6 (by decide) ?_
    refine lv_icmp_lt (tgt := 13) hx hb dX0_handleState_8 (by decide) (fun c_8 => ?_) (fun c_8 => ?_)
    · refine lv_iload_n hx hb dX0_handleState_13 rfl (lv_at hl 1 rfl) ?_
      refine lv_iconst (v := 5) hx hb dX0_handleState_14 (by decide) ?_
      refine lv_isub hx hb dX0_handleState_15 ?_
      refine lv_istore_n (lv' := [(2, .int (p0 - 5)), (0, .ref h), (1, .int p0)]) hx hb dX0_handleState_16 rfl hl (by decide) rfl (fun ls hl => ?_)
      refine lv_aload_n hx hb dX0_handleState_17 rfl (lv_at hl 1 rfl) ?_
      refine gg0_get (v := .ref (q 0)) hx hb hts hin hown hK G 0 (by decide) (index := 9) (by decide +kernel) rfl dX0_handleState_18 ?_
      refine lv_iload_n hx hb dX0_handleState_21 rfl (lv_at hl 0 rfl) ?_
      refine gg0_ld0 hx hb hK G (i := p0 - 5) (hs_in c_2 c_8) dX0_handleState_22 ?_
      refine lv_if_ne (tgt := 31) hx hb dX0_handleState_23 (by decide) (fun c_23 => ?_) (fun c_23 => ?_)
      · refine lv_aload_n hx hb dX0_handleState_31 rfl (lv_at hl 1 rfl) ?_
        refine lv_iload_n hx hb dX0_handleState_32 rfl (lv_at hl 0 rfl) ?_
        refine gx_callr (wf := gw0_ cI cZ h q) (u := u) (f := pd_leastHandle u (p0 - 5)) (As := [.int (p0 - 5)]) (rest := []) 1 hx hb hml hown hts hK hA G rfl rfl (kd_leastHandle l dC dI cI cZ h q _ u (p0 - 5) (hs_in c_2 c_8)) gX0_handleState_X0_leastHandle rfl rfl rfl hd_X0_leastHandle ⟨Nat.le_of_ble_eq_true rfl, Nat.le_of_ble_eq_true rfl⟩ rfl hl.1 rfl (Nat.le_of_ble_eq_true rfl) dX0_handleState_33 (Nat.zero_le _) (Nat.zero_le _) (fun H locs G => ?_)
        exact gx_iret (wf := gw0_ cI cZ h q) (u1 := u) hx hb hr hlocks hsz hK hAe G dX0_handleState_36 (congrArg (fun z => (z, u)) (by unfold pd_handleState; rw [if_neg c_2, if_pos c_8, if_neg c_23]))
      · refine lv_bipush (v := (-2)) hx hb dX0_handleState_26 (by decide) ?_
        refine lv_goto (tgt := 36) hx hb dX0_handleState_28 (by decide) ?_
        exact gx_iret (wf := gw0_ cI cZ h q) (u1 := u) hx hb hr hlocks hsz hK hAe G dX0_handleState_36 (congrArg (fun z => (z, u)) (by unfold pd_handleState; rw [if_neg c_2, if_pos c_8, if_pos c_23]))
    · refine lv_iconst (v := (-1)) hx hb dX0_handleState_11 (by decide) ?_
      exact gx_iret (wf := gw0_ cI cZ h q) (u1 := u) hx hb hr hlocks hsz hK hAe G dX0_handleState_12 (congrArg (fun z => (z, u)) (by unfold pd_handleState; rw [if_neg c_2, if_neg c_8]))
theorem hd_X0_handleState : yX0_handleState.cls = RX0 ∧ yX0_handleState.cls ≠ "java/lang/invoke/MethodHandle" ∧ yX0_handleState.cls ≠ "java/lang/invoke/VarHandle" ∧ (parseMethodDescriptor yX0_handleState.desc).map (fun d => d.parameters.length) = some 1 := by decide +kernel
def pd_state (u : st_T) (p0 : Int32) : Int32 :=
  if p0 = 0 then
    u.1 9
  else
    if p0 = 1 then
      u.1 10
    else
      if p0 = 2 then
        u.1 3
      else
        if p0 = 3 then
          pd_asNumber (u.1 4)
        else
          if p0 = 4 then
            pd_countEnded u
          else
            pd_handleState u p0
set_option maxHeartbeats 4000000 in
set_option maxRecDepth 100000 in
theorem kd_state (l : Launch) (dC : Nat → ClassId) (dI : Nat → Nat → Nat) (cI cZ : ClassId) (h : Nat) (q : Nat → Nat) (sz : Nat) (u : st_T) (p0 : Int32) : gx_Mi l yX0_state wsX0_state { frames := 2, cells := 0, slots := 0, locals := 44 } [.ref h, .int p0] (dC, dI) cI cZ (gw0_ cI cZ h q) u sz (pd_state u p0, u) := by
  refine gx_met (cc := cX0_state) (maxL := 2) (ret := (some .int)) (by decide +kernel) rfl (Nat.le_of_ble_eq_true rfl) (fun p e s m args below meth c A ls hsz hx hb hr hlocks hts hown hml hK hAe hA G hl => ?_)
  have hown : s.vm.findClass RX0 = some m.cls := hown
  have hin : ∀ w ∈ wsX00, w ∈ wsX0_state := gx_in
  have hl : lv_has ls 2 [(0, .ref h), (1, .int p0)] := hl
  refine lv_iload_n hx hb dX0_state_0 rfl (lv_at hl 1 rfl) ?_
  by_cases c_1_0 : p0 = 0
  · refine lv_tableIn (tgt := 36) hx hb dX0_state_1 (by rw [c_1_0]; decide) (by rw [c_1_0]; decide) (by rw [c_1_0]; rfl) (by decide) ?_
    refine lv_aload_n hx hb dX0_state_36 rfl (lv_at hl 0 rfl) ?_
    refine gg0_get (v := .int (u.1 9)) hx hb hts hin hown hK G 9 (by decide) (index := 40) (by decide +kernel) rfl dX0_state_37 ?_
    exact gx_iret (wf := gw0_ cI cZ h q) (u1 := u) hx hb hr hlocks hsz hK hAe G dX0_state_40 (congrArg (fun z => (z, u)) (by unfold pd_state; rw [if_pos c_1_0]))
  by_cases c_1_1 : p0 = 1
  · refine lv_tableIn (tgt := 41) hx hb dX0_state_1 (by rw [c_1_1]; decide) (by rw [c_1_1]; decide) (by rw [c_1_1]; rfl) (by decide) ?_
    refine lv_aload_n hx hb dX0_state_41 rfl (lv_at hl 0 rfl) ?_
    refine gg0_get (v := .int (u.1 10)) hx hb hts hin hown hK G 10 (by decide) (index := 43) (by decide +kernel) rfl dX0_state_42 ?_
    exact gx_iret (wf := gw0_ cI cZ h q) (u1 := u) hx hb hr hlocks hsz hK hAe G dX0_state_45 (congrArg (fun z => (z, u)) (by unfold pd_state; rw [if_neg c_1_0, if_pos c_1_1]))
  by_cases c_1_2 : p0 = 2
  · refine lv_tableIn (tgt := 46) hx hb dX0_state_1 (by rw [c_1_2]; decide) (by rw [c_1_2]; decide) (by rw [c_1_2]; rfl) (by decide) ?_
    refine lv_aload_n hx hb dX0_state_46 rfl (lv_at hl 0 rfl) ?_
    refine gg0_get (v := .int (u.1 3)) hx hb hts hin hown hK G 3 (by decide) (index := 21) (by decide +kernel) rfl dX0_state_47 ?_
    exact gx_iret (wf := gw0_ cI cZ h q) (u1 := u) hx hb hr hlocks hsz hK hAe G dX0_state_50 (congrArg (fun z => (z, u)) (by unfold pd_state; rw [if_neg c_1_0, if_neg c_1_1, if_pos c_1_2]))
  by_cases c_1_3 : p0 = 3
  · refine lv_tableIn (tgt := 51) hx hb dX0_state_1 (by rw [c_1_3]; decide) (by rw [c_1_3]; decide) (by rw [c_1_3]; rfl) (by decide) ?_
    refine lv_aload_n hx hb dX0_state_51 rfl (lv_at hl 0 rfl) ?_
    refine gg0_get (v := .int (u.1 4)) hx hb hts hin hown hK G 4 (by decide) (index := 24) (by decide +kernel) rfl dX0_state_52 ?_
    refine gx_calls (f := pd_asNumber (u.1 4)) (As := [.int (u.1 4)]) (rest := []) 1 hx hb hml hown hts (kd_asNumber l (u.1 4) ) gX0_state_X0_asNumber rfl rfl rfl hd_X0_asNumber ⟨Nat.le_of_ble_eq_true rfl, Nat.le_of_ble_eq_true rfl⟩ rfl hl.1 rfl (Nat.le_of_ble_eq_true rfl) dX0_state_55 (Nat.zero_le _) (Nat.zero_le _) ?_
    exact gx_iret (wf := gw0_ cI cZ h q) (u1 := u) hx hb hr hlocks hsz hK hAe G dX0_state_58 (congrArg (fun z => (z, u)) (by unfold pd_state; rw [if_neg c_1_0, if_neg c_1_1, if_neg c_1_2, if_pos c_1_3]))
  by_cases c_1_4 : p0 = 4
  · refine lv_tableIn (tgt := 59) hx hb dX0_state_1 (by rw [c_1_4]; decide) (by rw [c_1_4]; decide) (by rw [c_1_4]; rfl) (by decide) ?_
    refine lv_aload_n hx hb dX0_state_59 rfl (lv_at hl 0 rfl) ?_
    refine gx_callr (wf := gw0_ cI cZ h q) (u := u) (f := pd_countEnded u) (As := []) (rest := []) 0 hx hb hml hown hts hK hA G rfl rfl (kd_countEnded l dC dI cI cZ h q _ u  ) gX0_state_X0_countEnded rfl rfl rfl hd_X0_countEnded ⟨Nat.le_of_ble_eq_true rfl, Nat.le_of_ble_eq_true rfl⟩ rfl hl.1 rfl (Nat.le_of_ble_eq_true rfl) dX0_state_60 (Nat.zero_le _) (Nat.zero_le _) (fun H locs G => ?_)
    exact gx_iret (wf := gw0_ cI cZ h q) (u1 := u) hx hb hr hlocks hsz hK hAe G dX0_state_63 (congrArg (fun z => (z, u)) (by unfold pd_state; rw [if_neg c_1_0, if_neg c_1_1, if_neg c_1_2, if_neg c_1_3, if_pos c_1_4]))
  refine lv_tableOut (tgt := 64) hx hb dX0_state_1 (by have z := p0.toInt; have z0 := lv_neT c_1_0 (a := 0) (by decide); have z1 := lv_neT c_1_1 (a := 1) (by decide); have z2 := lv_neT c_1_2 (a := 2) (by decide); have z3 := lv_neT c_1_3 (a := 3) (by decide); have z4 := lv_neT c_1_4 (a := 4) (by decide); omega) (by decide) ?_
  refine lv_aload_n hx hb dX0_state_64 rfl (lv_at hl 0 rfl) ?_
  refine lv_iload_n hx hb dX0_state_65 rfl (lv_at hl 1 rfl) ?_
  refine gx_callr (wf := gw0_ cI cZ h q) (u := u) (f := pd_handleState u p0) (As := [.int p0]) (rest := []) 1 hx hb hml hown hts hK hA G rfl rfl (kd_handleState l dC dI cI cZ h q _ u p0 ) gX0_state_X0_handleState rfl rfl rfl hd_X0_handleState ⟨Nat.le_of_ble_eq_true rfl, Nat.le_of_ble_eq_true rfl⟩ rfl hl.1 rfl (Nat.le_of_ble_eq_true rfl) dX0_state_66 (Nat.zero_le _) (Nat.zero_le _) (fun H locs G => ?_)
  exact gx_iret (wf := gw0_ cI cZ h q) (u1 := u) hx hb hr hlocks hsz hK hAe G dX0_state_69 (congrArg (fun z => (z, u)) (by unfold pd_state; rw [if_neg c_1_0, if_neg c_1_1, if_neg c_1_2, if_neg c_1_3, if_neg c_1_4]))
theorem hd_X0_state : yX0_state.cls = RX0 ∧ yX0_state.cls ≠ "java/lang/invoke/MethodHandle" ∧ yX0_state.cls ≠ "java/lang/invoke/VarHandle" ∧ (parseMethodDescriptor yX0_state.desc).map (fun d => d.parameters.length) = some 1 := by decide +kernel
def pd_raise (u : st_T) (p0 : Int32) : Int32 × st_T :=
  (0, st_si u 15 p0)
set_option maxHeartbeats 4000000 in
set_option maxRecDepth 100000 in
theorem kd_raise (l : Launch) (dC : Nat → ClassId) (dI : Nat → Nat → Nat) (cI cZ : ClassId) (h : Nat) (q : Nat → Nat) (sz : Nat) (u : st_T) (p0 : Int32) : gx_Mi l yX0_raise wsX0_raise { frames := 0, cells := 0, slots := 0, locals := 0 } [.ref h, .int p0] (dC, dI) cI cZ (gw0_ cI cZ h q) u sz (pd_raise u p0) := by
  refine gx_met (cc := cX0_raise) (maxL := 2) (ret := (some .int)) (by decide +kernel) rfl (Nat.le_of_ble_eq_true rfl) (fun p e s m args below meth c A ls hsz hx hb hr hlocks hts hown hml hK hAe hA G hl => ?_)
  have hown : s.vm.findClass RX0 = some m.cls := hown
  have hin : ∀ w ∈ wsX00, w ∈ wsX0_raise := gx_in
  have hl : lv_has ls 2 [(0, .ref h), (1, .int p0)] := hl
  refine lv_aload_n hx hb dX0_raise_0 rfl (lv_at hl 0 rfl) ?_
  refine lv_iload_n hx hb dX0_raise_1 rfl (lv_at hl 1 rfl) ?_
  refine gg0_put15 (v := p0) hx hb hts hin hown hK G (index := 58) (by decide +kernel) dX0_raise_2 (fun H locs G => ?_)
  refine lv_iconst (v := 0) hx hb dX0_raise_5 (by decide) ?_
  exact gx_iret (wf := gw0_ cI cZ h q) (u1 := st_si u 15 p0) hx hb hr hlocks hsz hK hAe G dX0_raise_6 (by unfold pd_raise; rfl)
theorem hd_X0_raise : yX0_raise.cls = RX0 ∧ yX0_raise.cls ≠ "java/lang/invoke/MethodHandle" ∧ yX0_raise.cls ≠ "java/lang/invoke/VarHandle" ∧ (parseMethodDescriptor yX0_raise.desc).map (fun d => d.parameters.length) = some 1 := by decide +kernel
def pd_isEnter (u : st_T) (p0 : Int32) : Int32 :=
  if p0 = (-1) then
    0
  else
    if u.2 5 (ix p0) = 1 then
      1
    else
      0
set_option maxHeartbeats 4000000 in
set_option maxRecDepth 100000 in
theorem kd_isEnter (l : Launch) (dC : Nat → ClassId) (dI : Nat → Nat → Nat) (cI cZ : ClassId) (h : Nat) (q : Nat → Nat) (sz : Nat) (u : st_T) (p0 : Int32) (hb0 : p0 = -1 ∨ vp_in p0 24) : gx_Mi l yX0_isEnter wsX0_isEnter { frames := 0, cells := 0, slots := 0, locals := 0 } [.ref h, .int p0] (dC, dI) cI cZ (gw0_ cI cZ h q) u sz (pd_isEnter u p0, u) := by
  refine gx_met (cc := cX0_isEnter) (maxL := 2) (ret := (some .boolean)) (by decide +kernel) rfl (Nat.le_of_ble_eq_true rfl) (fun p e s m args below meth c A ls hsz hx hb hr hlocks hts hown hml hK hAe hA G hl => ?_)
  have hown : s.vm.findClass RX0 = some m.cls := hown
  have hin : ∀ w ∈ wsX00, w ∈ wsX0_isEnter := gx_in
  have hl : lv_has ls 2 [(0, .ref h), (1, .int p0)] := hl
  refine lv_iload_n hx hb dX0_isEnter_0 rfl (lv_at hl 1 rfl) ?_
  refine lv_iconst (v := (-1)) hx hb dX0_isEnter_1 (by decide) ?_
  refine lv_icmp_eq (tgt := 19) hx hb dX0_isEnter_2 (by decide) (fun c_2 => ?_) (fun c_2 => ?_)
  · refine lv_iconst (v := 0) hx hb dX0_isEnter_19 (by decide) ?_
    exact gx_zret (wf := gw0_ cI cZ h q) (u1 := u) hx hb hr hlocks hsz hK hAe G dX0_isEnter_20 rfl (congrArg (fun z => (z, u)) (by unfold pd_isEnter; rw [if_pos c_2]))
  · refine lv_aload_n hx hb dX0_isEnter_5 rfl (lv_at hl 0 rfl) ?_
    refine gg0_get (v := .ref (q 5)) hx hb hts hin hown hK G 5 (by decide) (index := 28) (by decide +kernel) rfl dX0_isEnter_6 ?_
    refine lv_iload_n hx hb dX0_isEnter_9 rfl (lv_at hl 1 rfl) ?_
    refine gg0_ld5 hx hb hK G (i := p0) (hb0.resolve_left c_2) dX0_isEnter_10 ?_
    refine lv_iconst (v := 1) hx hb dX0_isEnter_11 (by decide) ?_
    refine lv_icmp_ne (tgt := 19) hx hb dX0_isEnter_12 (by decide) (fun c_12 => ?_) (fun c_12 => ?_)
    · refine lv_iconst (v := 0) hx hb dX0_isEnter_19 (by decide) ?_
      exact gx_zret (wf := gw0_ cI cZ h q) (u1 := u) hx hb hr hlocks hsz hK hAe G dX0_isEnter_20 rfl (congrArg (fun z => (z, u)) (by unfold pd_isEnter; rw [if_neg c_2, if_neg c_12]))
    · refine lv_iconst (v := 1) hx hb dX0_isEnter_15 (by decide) ?_
      refine lv_goto (tgt := 20) hx hb dX0_isEnter_16 (by decide) ?_
      exact gx_zret (wf := gw0_ cI cZ h q) (u1 := u) hx hb hr hlocks hsz hK hAe G dX0_isEnter_20 rfl (congrArg (fun z => (z, u)) (by unfold pd_isEnter; rw [if_neg c_2, if_pos c_12]))
theorem hd_X0_isEnter : yX0_isEnter.cls = RX0 ∧ yX0_isEnter.cls ≠ "java/lang/invoke/MethodHandle" ∧ yX0_isEnter.cls ≠ "java/lang/invoke/VarHandle" ∧ (parseMethodDescriptor yX0_isEnter.desc).map (fun d => d.parameters.length) = some 1 := by decide +kernel
def pd_giveBack (u : st_T) (p0 : Int32) : Int32 × st_T :=
  ((st_sa u 14 (ix (pd_leastHandle u (pj_floorMod_7cf53 (u.2 6 (ix p0)) 5))) ((u.2 14 (ix (pd_leastHandle u (pj_floorMod_7cf53 (u.2 6 (ix p0)) 5)))) - 1)).2 14 (ix (pd_leastHandle u (pj_floorMod_7cf53 (u.2 6 (ix p0)) 5))), st_sa u 14 (ix (pd_leastHandle u (pj_floorMod_7cf53 (u.2 6 (ix p0)) 5))) ((u.2 14 (ix (pd_leastHandle u (pj_floorMod_7cf53 (u.2 6 (ix p0)) 5)))) - 1))
set_option maxHeartbeats 4000000 in
set_option maxRecDepth 100000 in
theorem kd_giveBack (l : Launch) (dC : Nat → ClassId) (dI : Nat → Nat → Nat) (cI cZ : ClassId) (h : Nat) (q : Nat → Nat) (sz : Nat) (u : st_T) (p0 : Int32) (hp0 : vp_in p0 24) : gx_Mi l yX0_giveBack wsX0_giveBack { frames := 1, cells := 0, slots := 0, locals := 22 } [.ref h, .int p0] (dC, dI) cI cZ (gw0_ cI cZ h q) u sz (pd_giveBack u p0) := by
  refine gx_met (cc := cX0_giveBack) (maxL := 3) (ret := (some .int)) (by decide +kernel) rfl (Nat.le_of_ble_eq_true rfl) (fun p e s m args below meth c A ls hsz hx hb hr hlocks hts hown hml hK hAe hA G hl => ?_)
  have hown : s.vm.findClass RX0 = some m.cls := hown
  have hin : ∀ w ∈ wsX00, w ∈ wsX0_giveBack := gx_in
  have hl : lv_has ls 3 [(0, .ref h), (1, .int p0)] := hl
  refine lv_aload_n hx hb dX0_giveBack_0 rfl (lv_at hl 0 rfl) ?_
  refine lv_aload_n hx hb dX0_giveBack_1 rfl (lv_at hl 0 rfl) ?_
  refine gg0_get (v := .ref (q 6)) hx hb hts hin hown hK G 6 (by decide) (index := 31) (by decide +kernel) rfl dX0_giveBack_2 ?_
  refine lv_iload_n hx hb dX0_giveBack_5 rfl (lv_at hl 1 rfl) ?_
  refine gg0_ld6 hx hb hK G (i := p0) hp0 dX0_giveBack_6 ?_
  refine lv_iconst (v := 5) hx hb dX0_giveBack_7 (by decide) ?_
  refine gx_calls (f := pj_floorMod_7cf53 (u.2 6 (ix p0)) 5) (As := [.int (u.2 6 (ix p0)), .int 5]) (rest := [.ref h]) 2 hx hb hml hown hts (kj_floorMod_7cf53 l (u.2 6 (ix p0)) 5 (by decide)) gX0_giveBack_J9_floorMod_7cf53 rfl rfl rfl hd_J9_floorMod_7cf53 ⟨Nat.le_of_ble_eq_true rfl, Nat.le_of_ble_eq_true rfl⟩ rfl hl.1 rfl (Nat.le_of_ble_eq_true rfl) dX0_giveBack_8 (Nat.zero_le _) (Nat.zero_le _) ?_
  refine gx_callr (wf := gw0_ cI cZ h q) (u := u) (f := pd_leastHandle u (pj_floorMod_7cf53 (u.2 6 (ix p0)) 5)) (As := [.int (pj_floorMod_7cf53 (u.2 6 (ix p0)) 5)]) (rest := []) 1 hx hb hml hown hts hK hA G rfl rfl (kd_leastHandle l dC dI cI cZ h q _ u (pj_floorMod_7cf53 (u.2 6 (ix p0)) 5) (fm_in5 _)) gX0_giveBack_X0_leastHandle rfl rfl rfl hd_X0_leastHandle ⟨Nat.le_of_ble_eq_true rfl, Nat.le_of_ble_eq_true rfl⟩ rfl hl.1 rfl (Nat.le_of_ble_eq_true rfl) dX0_giveBack_11 (Nat.zero_le _) (Nat.zero_le _) (fun H locs G => ?_)
  refine lv_istore_n (lv' := [(2, .int (pd_leastHandle u (pj_floorMod_7cf53 (u.2 6 (ix p0)) 5))), (0, .ref h), (1, .int p0)]) hx hb dX0_giveBack_14 rfl hl (by decide) rfl (fun ls hl => ?_)
  refine lv_aload_n hx hb dX0_giveBack_15 rfl (lv_at hl 1 rfl) ?_
  refine gg0_get (v := .ref (q 14)) hx hb hts hin hown hK G 14 (by decide) (index := 55) (by decide +kernel) rfl dX0_giveBack_16 ?_
  refine lv_iload_n hx hb dX0_giveBack_19 rfl (lv_at hl 0 rfl) ?_
  refine lv_dup2_11 hx hb dX0_giveBack_20 rfl rfl ?_
  refine gg0_ld14 hx hb hK G (i := pd_leastHandle u (pj_floorMod_7cf53 (u.2 6 (ix p0)) 5)) (least_in (fm_in5 _)) dX0_giveBack_21 ?_
  refine lv_iconst (v := 1) hx hb dX0_giveBack_22 (by decide) ?_
  refine lv_isub hx hb dX0_giveBack_23 ?_
  refine gg0_st14 hx hb hK G (i := pd_leastHandle u (pj_floorMod_7cf53 (u.2 6 (ix p0)) 5)) (x := (u.2 14 (ix (pd_leastHandle u (pj_floorMod_7cf53 (u.2 6 (ix p0)) 5)))) - 1) (least_in (fm_in5 _)) dX0_giveBack_24 (fun H locs G => ?_)
  refine lv_aload_n hx hb dX0_giveBack_25 rfl (lv_at hl 1 rfl) ?_
  refine gg0_get (v := .ref (q 14)) hx hb hts hin hown hK G 14 (by decide) (index := 55) (by decide +kernel) rfl dX0_giveBack_26 ?_
  refine lv_iload_n hx hb dX0_giveBack_29 rfl (lv_at hl 0 rfl) ?_
  refine gg0_ld14 hx hb hK G (i := pd_leastHandle u (pj_floorMod_7cf53 (u.2 6 (ix p0)) 5)) (least_in (fm_in5 _)) dX0_giveBack_30 ?_
  exact gx_iret (wf := gw0_ cI cZ h q) (u1 := st_sa u 14 (ix (pd_leastHandle u (pj_floorMod_7cf53 (u.2 6 (ix p0)) 5))) ((u.2 14 (ix (pd_leastHandle u (pj_floorMod_7cf53 (u.2 6 (ix p0)) 5)))) - 1)) hx hb hr hlocks hsz hK hAe G dX0_giveBack_31 (by unfold pd_giveBack; rfl)
theorem hd_X0_giveBack : yX0_giveBack.cls = RX0 ∧ yX0_giveBack.cls ≠ "java/lang/invoke/MethodHandle" ∧ yX0_giveBack.cls ≠ "java/lang/invoke/VarHandle" ∧ (parseMethodDescriptor yX0_giveBack.desc).map (fun d => d.parameters.length) = some 1 := by decide +kernel
theorem eb_in {u : st_T} {b : Int32} (h : b = -1 ∨ vp_in b 24) (h2 : ¬ pd_isEnter u b = 0) : vp_in b 24 := by
  rcases h with rfl | h
  · exact absurd (by unfold pd_isEnter; rw [if_pos rfl]) h2
  · exact h
def pd_endBlock (u : st_T) (p0 : Int32) : Int32 × st_T :=
  if pd_isEnter u p0 = 0 then
    (0, u)
  else
    ((pd_giveBack u p0).1, (pd_giveBack u p0).2)
set_option maxHeartbeats 4000000 in
set_option maxRecDepth 100000 in
theorem kd_endBlock (l : Launch) (dC : Nat → ClassId) (dI : Nat → Nat → Nat) (cI cZ : ClassId) (h : Nat) (q : Nat → Nat) (sz : Nat) (u : st_T) (p0 : Int32) (hb0 : p0 = -1 ∨ vp_in p0 24) : gx_Mi l yX0_endBlock wsX0_endBlock { frames := 2, cells := 0, slots := 0, locals := 44 } [.ref h, .int p0] (dC, dI) cI cZ (gw0_ cI cZ h q) u sz (pd_endBlock u p0) := by
  refine gx_met (cc := cX0_endBlock) (maxL := 2) (ret := (some .int)) (by decide +kernel) rfl (Nat.le_of_ble_eq_true rfl) (fun p e s m args below meth c A ls hsz hx hb hr hlocks hts hown hml hK hAe hA G hl => ?_)
  have hown : s.vm.findClass RX0 = some m.cls := hown
  have hin : ∀ w ∈ wsX00, w ∈ wsX0_endBlock := gx_in
  have hl : lv_has ls 2 [(0, .ref h), (1, .int p0)] := hl
  refine lv_aload_n hx hb dX0_endBlock_0 rfl (lv_at hl 0 rfl) ?_
  refine lv_iload_n hx hb dX0_endBlock_1 rfl (lv_at hl 1 rfl) ?_
  refine gx_callr (wf := gw0_ cI cZ h q) (u := u) (f := pd_isEnter u p0) (As := [.int p0]) (rest := []) 1 hx hb hml hown hts hK hA G rfl rfl (kd_isEnter l dC dI cI cZ h q _ u p0 hb0) gX0_endBlock_X0_isEnter rfl rfl rfl hd_X0_isEnter ⟨Nat.le_of_ble_eq_true rfl, Nat.le_of_ble_eq_true rfl⟩ rfl hl.1 rfl (Nat.le_of_ble_eq_true rfl) dX0_endBlock_2 (Nat.zero_le _) (Nat.zero_le _) (fun H locs G => ?_)
  refine lv_if_eq (tgt := 16) hx hb dX0_endBlock_5 (by decide) (fun c_5 => ?_) (fun c_5 => ?_)
  · refine lv_iconst (v := 0) hx hb dX0_endBlock_16 (by decide) ?_
    exact gx_iret (wf := gw0_ cI cZ h q) (u1 := u) hx hb hr hlocks hsz hK hAe G dX0_endBlock_17 (by unfold pd_endBlock; rw [if_pos c_5])
  · refine lv_aload_n hx hb dX0_endBlock_8 rfl (lv_at hl 0 rfl) ?_
    refine lv_iload_n hx hb dX0_endBlock_9 rfl (lv_at hl 1 rfl) ?_
    refine gx_calli (wf := gw0_ cI cZ h q) (u := u) (f := pd_giveBack u p0) (As := [.int p0]) (rest := []) 1 hx hb hml hown hts hK hA G rfl rfl (kd_giveBack l dC dI cI cZ h q _ u p0 (eb_in hb0 c_5)) gX0_endBlock_X0_giveBack rfl rfl rfl hd_X0_giveBack ⟨Nat.le_of_ble_eq_true rfl, Nat.le_of_ble_eq_true rfl⟩ rfl hl.1 rfl (Nat.le_of_ble_eq_true rfl) dX0_endBlock_10 (Nat.zero_le _) (Nat.zero_le _) (fun H locs G => ?_)
    refine lv_goto (tgt := 17) hx hb dX0_endBlock_13 (by decide) ?_
    exact gx_iret (wf := gw0_ cI cZ h q) (u1 := (pd_giveBack u p0).2) hx hb hr hlocks hsz hK hAe G dX0_endBlock_17 (by unfold pd_endBlock; rw [if_neg c_5])
theorem hd_X0_endBlock : yX0_endBlock.cls = RX0 ∧ yX0_endBlock.cls ≠ "java/lang/invoke/MethodHandle" ∧ yX0_endBlock.cls ≠ "java/lang/invoke/VarHandle" ∧ (parseMethodDescriptor yX0_endBlock.desc).map (fun d => d.parameters.length) = some 1 := by decide +kernel
def pd_enter (u : st_T) (p0 : Int32) : Int32 × st_T :=
  if u.2 0 (ix p0) = 0 then
    ((pd_raise u 1).1, (pd_raise u 1).2)
  else
    ((st_sa u 14 (ix (pd_leastHandle u p0)) ((u.2 14 (ix (pd_leastHandle u p0))) + 1)).2 14 (ix (pd_leastHandle u p0)), st_sa u 14 (ix (pd_leastHandle u p0)) ((u.2 14 (ix (pd_leastHandle u p0))) + 1))
set_option maxHeartbeats 4000000 in
set_option maxRecDepth 100000 in
theorem kd_enter (l : Launch) (dC : Nat → ClassId) (dI : Nat → Nat → Nat) (cI cZ : ClassId) (h : Nat) (q : Nat → Nat) (sz : Nat) (u : st_T) (p0 : Int32) (hp0 : vp_in p0 5) : gx_Mi l yX0_enter wsX0_enter { frames := 1, cells := 0, slots := 0, locals := 22 } [.ref h, .int p0] (dC, dI) cI cZ (gw0_ cI cZ h q) u sz (pd_enter u p0) := by
  refine gx_met (cc := cX0_enter) (maxL := 3) (ret := (some .int)) (by decide +kernel) rfl (Nat.le_of_ble_eq_true rfl) (fun p e s m args below meth c A ls hsz hx hb hr hlocks hts hown hml hK hAe hA G hl => ?_)
  have hown : s.vm.findClass RX0 = some m.cls := hown
  have hin : ∀ w ∈ wsX00, w ∈ wsX0_enter := gx_in
  have hl : lv_has ls 3 [(0, .ref h), (1, .int p0)] := hl
  refine lv_aload_n hx hb dX0_enter_0 rfl (lv_at hl 0 rfl) ?_
  refine gg0_get (v := .ref (q 0)) hx hb hts hin hown hK G 0 (by decide) (index := 9) (by decide +kernel) rfl dX0_enter_1 ?_
  refine lv_iload_n hx hb dX0_enter_4 rfl (lv_at hl 1 rfl) ?_
  refine gg0_ld0 hx hb hK G (i := p0) hp0 dX0_enter_5 ?_
  refine lv_if_ne (tgt := 15) hx hb dX0_enter_6 (by decide) (fun c_6 => ?_) (fun c_6 => ?_)
  · refine lv_aload_n hx hb dX0_enter_15 rfl (lv_at hl 0 rfl) ?_
    refine lv_iload_n hx hb dX0_enter_16 rfl (lv_at hl 1 rfl) ?_
    refine gx_callr (wf := gw0_ cI cZ h q) (u := u) (f := pd_leastHandle u p0) (As := [.int p0]) (rest := []) 1 hx hb hml hown hts hK hA G rfl rfl (kd_leastHandle l dC dI cI cZ h q _ u p0 hp0) gX0_enter_X0_leastHandle rfl rfl rfl hd_X0_leastHandle ⟨Nat.le_of_ble_eq_true rfl, Nat.le_of_ble_eq_true rfl⟩ rfl hl.1 rfl (Nat.le_of_ble_eq_true rfl) dX0_enter_17 (Nat.zero_le _) (Nat.zero_le _) (fun H locs G => ?_)
    refine lv_istore_n (lv' := [(2, .int (pd_leastHandle u p0)), (0, .ref h), (1, .int p0)]) hx hb dX0_enter_20 rfl hl (by decide) rfl (fun ls hl => ?_)
    refine lv_aload_n hx hb dX0_enter_21 rfl (lv_at hl 1 rfl) ?_
    refine gg0_get (v := .ref (q 14)) hx hb hts hin hown hK G 14 (by decide) (index := 55) (by decide +kernel) rfl dX0_enter_22 ?_
    refine lv_iload_n hx hb dX0_enter_25 rfl (lv_at hl 0 rfl) ?_
    refine lv_dup2_11 hx hb dX0_enter_26 rfl rfl ?_
    refine gg0_ld14 hx hb hK G (i := pd_leastHandle u p0) (least_in hp0) dX0_enter_27 ?_
    refine lv_iconst (v := 1) hx hb dX0_enter_28 (by decide) ?_
    refine lv_iadd hx hb dX0_enter_29 ?_
    refine gg0_st14 hx hb hK G (i := pd_leastHandle u p0) (x := (u.2 14 (ix (pd_leastHandle u p0))) + 1) (least_in hp0) dX0_enter_30 (fun H locs G => ?_)
    refine lv_aload_n hx hb dX0_enter_31 rfl (lv_at hl 1 rfl) ?_
    refine gg0_get (v := .ref (q 14)) hx hb hts hin hown hK G 14 (by decide) (index := 55) (by decide +kernel) rfl dX0_enter_32 ?_
    refine lv_iload_n hx hb dX0_enter_35 rfl (lv_at hl 0 rfl) ?_
    refine gg0_ld14 hx hb hK G (i := pd_leastHandle u p0) (least_in hp0) dX0_enter_36 ?_
    exact gx_iret (wf := gw0_ cI cZ h q) (u1 := st_sa u 14 (ix (pd_leastHandle u p0)) ((u.2 14 (ix (pd_leastHandle u p0))) + 1)) hx hb hr hlocks hsz hK hAe G dX0_enter_37 (by unfold pd_enter; rw [if_neg c_6])
  · refine lv_aload_n hx hb dX0_enter_9 rfl (lv_at hl 0 rfl) ?_
    refine lv_iconst (v := 1) hx hb dX0_enter_10 (by decide) ?_
    refine gx_calli (wf := gw0_ cI cZ h q) (u := u) (f := pd_raise u 1) (As := [.int 1]) (rest := []) 1 hx hb hml hown hts hK hA G rfl rfl (kd_raise l dC dI cI cZ h q _ u 1 ) gX0_enter_X0_raise rfl rfl rfl hd_X0_raise ⟨Nat.le_of_ble_eq_true rfl, Nat.le_of_ble_eq_true rfl⟩ rfl hl.1 rfl (Nat.le_of_ble_eq_true rfl) dX0_enter_11 (Nat.zero_le _) (Nat.zero_le _) (fun H locs G => ?_)
    exact gx_iret (wf := gw0_ cI cZ h q) (u1 := (pd_raise u 1).2) hx hb hr hlocks hsz hK hAe G dX0_enter_14 (by unfold pd_enter; rw [if_pos c_6])
theorem hd_X0_enter : yX0_enter.cls = RX0 ∧ yX0_enter.cls ≠ "java/lang/invoke/MethodHandle" ∧ yX0_enter.cls ≠ "java/lang/invoke/VarHandle" ∧ (parseMethodDescriptor yX0_enter.desc).map (fun d => d.parameters.length) = some 1 := by decide +kernel
def pd_notifyWaiting (u : st_T) (p0 : Int32) : Int32 × st_T :=
  if u.2 0 (ix p0) = 0 then
    ((pd_raise u 1).1, (pd_raise u 1).2)
  else
    if u.2 14 (ix (pd_leastHandle u p0)) = 0 then
      ((pd_raise u 2).1, (pd_raise u 2).2)
    else
      (0, u)
set_option maxHeartbeats 4000000 in
set_option maxRecDepth 100000 in
theorem kd_notifyWaiting (l : Launch) (dC : Nat → ClassId) (dI : Nat → Nat → Nat) (cI cZ : ClassId) (h : Nat) (q : Nat → Nat) (sz : Nat) (u : st_T) (p0 : Int32) (hp0 : vp_in p0 5) : gx_Mi l yX0_notifyWaiting wsX0_notifyWaiting { frames := 1, cells := 0, slots := 0, locals := 22 } [.ref h, .int p0] (dC, dI) cI cZ (gw0_ cI cZ h q) u sz (pd_notifyWaiting u p0) := by
  refine gx_met (cc := cX0_notifyWaiting) (maxL := 2) (ret := (some .int)) (by decide +kernel) rfl (Nat.le_of_ble_eq_true rfl) (fun p e s m args below meth c A ls hsz hx hb hr hlocks hts hown hml hK hAe hA G hl => ?_)
  have hown : s.vm.findClass RX0 = some m.cls := hown
  have hin : ∀ w ∈ wsX00, w ∈ wsX0_notifyWaiting := gx_in
  have hl : lv_has ls 2 [(0, .ref h), (1, .int p0)] := hl
  refine lv_aload_n hx hb dX0_notifyWaiting_0 rfl (lv_at hl 0 rfl) ?_
  refine gg0_get (v := .ref (q 0)) hx hb hts hin hown hK G 0 (by decide) (index := 9) (by decide +kernel) rfl dX0_notifyWaiting_1 ?_
  refine lv_iload_n hx hb dX0_notifyWaiting_4 rfl (lv_at hl 1 rfl) ?_
  refine gg0_ld0 hx hb hK G (i := p0) hp0 dX0_notifyWaiting_5 ?_
  refine lv_if_ne (tgt := 15) hx hb dX0_notifyWaiting_6 (by decide) (fun c_6 => ?_) (fun c_6 => ?_)
  · refine lv_aload_n hx hb dX0_notifyWaiting_15 rfl (lv_at hl 0 rfl) ?_
    refine gg0_get (v := .ref (q 14)) hx hb hts hin hown hK G 14 (by decide) (index := 55) (by decide +kernel) rfl dX0_notifyWaiting_16 ?_
    refine lv_aload_n hx hb dX0_notifyWaiting_19 rfl (lv_at hl 0 rfl) ?_
    refine lv_iload_n hx hb dX0_notifyWaiting_20 rfl (lv_at hl 1 rfl) ?_
    refine gx_callr (wf := gw0_ cI cZ h q) (u := u) (f := pd_leastHandle u p0) (As := [.int p0]) (rest := [.ref (q 14)]) 1 hx hb hml hown hts hK hA G rfl rfl (kd_leastHandle l dC dI cI cZ h q _ u p0 hp0) gX0_notifyWaiting_X0_leastHandle rfl rfl rfl hd_X0_leastHandle ⟨Nat.le_of_ble_eq_true rfl, Nat.le_of_ble_eq_true rfl⟩ rfl hl.1 rfl (Nat.le_of_ble_eq_true rfl) dX0_notifyWaiting_21 (Nat.zero_le _) (Nat.zero_le _) (fun H locs G => ?_)
    refine gg0_ld14 hx hb hK G (i := pd_leastHandle u p0) (least_in hp0) dX0_notifyWaiting_24 ?_
    refine lv_if_ne (tgt := 34) hx hb dX0_notifyWaiting_25 (by decide) (fun c_25 => ?_) (fun c_25 => ?_)
    · refine lv_iconst (v := 0) hx hb dX0_notifyWaiting_34 (by decide) ?_
      exact gx_iret (wf := gw0_ cI cZ h q) (u1 := u) hx hb hr hlocks hsz hK hAe G dX0_notifyWaiting_35 (by unfold pd_notifyWaiting; rw [if_neg c_6, if_neg c_25])
    · refine lv_aload_n hx hb dX0_notifyWaiting_28 rfl (lv_at hl 0 rfl) ?_
      refine lv_iconst (v := 2) hx hb dX0_notifyWaiting_29 (by decide) ?_
      refine gx_calli (wf := gw0_ cI cZ h q) (u := u) (f := pd_raise u 2) (As := [.int 2]) (rest := []) 1 hx hb hml hown hts hK hA G rfl rfl (kd_raise l dC dI cI cZ h q _ u 2 ) gX0_notifyWaiting_X0_raise rfl rfl rfl hd_X0_raise ⟨Nat.le_of_ble_eq_true rfl, Nat.le_of_ble_eq_true rfl⟩ rfl hl.1 rfl (Nat.le_of_ble_eq_true rfl) dX0_notifyWaiting_30 (Nat.zero_le _) (Nat.zero_le _) (fun H locs G => ?_)
      exact gx_iret (wf := gw0_ cI cZ h q) (u1 := (pd_raise u 2).2) hx hb hr hlocks hsz hK hAe G dX0_notifyWaiting_33 (by unfold pd_notifyWaiting; rw [if_neg c_6, if_pos c_25])
  · refine lv_aload_n hx hb dX0_notifyWaiting_9 rfl (lv_at hl 0 rfl) ?_
    refine lv_iconst (v := 1) hx hb dX0_notifyWaiting_10 (by decide) ?_
    refine gx_calli (wf := gw0_ cI cZ h q) (u := u) (f := pd_raise u 1) (As := [.int 1]) (rest := []) 1 hx hb hml hown hts hK hA G rfl rfl (kd_raise l dC dI cI cZ h q _ u 1 ) gX0_notifyWaiting_X0_raise rfl rfl rfl hd_X0_raise ⟨Nat.le_of_ble_eq_true rfl, Nat.le_of_ble_eq_true rfl⟩ rfl hl.1 rfl (Nat.le_of_ble_eq_true rfl) dX0_notifyWaiting_11 (Nat.zero_le _) (Nat.zero_le _) (fun H locs G => ?_)
    exact gx_iret (wf := gw0_ cI cZ h q) (u1 := (pd_raise u 1).2) hx hb hr hlocks hsz hK hAe G dX0_notifyWaiting_14 (by unfold pd_notifyWaiting; rw [if_pos c_6])
theorem hd_X0_notifyWaiting : yX0_notifyWaiting.cls = RX0 ∧ yX0_notifyWaiting.cls ≠ "java/lang/invoke/MethodHandle" ∧ yX0_notifyWaiting.cls ≠ "java/lang/invoke/VarHandle" ∧ (parseMethodDescriptor yX0_notifyWaiting.desc).map (fun d => d.parameters.length) = some 1 := by decide +kernel
def pd_holdsLock (u : st_T) (p0 : Int32) : Int32 × st_T :=
  if u.2 0 (ix p0) = 0 then
    ((pd_raise u 1).1, (pd_raise u 1).2)
  else
    if u.2 14 (ix (pd_leastHandle u p0)) ≤ 0 then
      (pd_asNumber 0, u)
    else
      (pd_asNumber 1, u)
set_option maxHeartbeats 4000000 in
set_option maxRecDepth 100000 in
theorem kd_holdsLock (l : Launch) (dC : Nat → ClassId) (dI : Nat → Nat → Nat) (cI cZ : ClassId) (h : Nat) (q : Nat → Nat) (sz : Nat) (u : st_T) (p0 : Int32) (hp0 : vp_in p0 5) : gx_Mi l yX0_holdsLock wsX0_holdsLock { frames := 1, cells := 0, slots := 0, locals := 22 } [.ref h, .int p0] (dC, dI) cI cZ (gw0_ cI cZ h q) u sz (pd_holdsLock u p0) := by
  refine gx_met (cc := cX0_holdsLock) (maxL := 2) (ret := (some .int)) (by decide +kernel) rfl (Nat.le_of_ble_eq_true rfl) (fun p e s m args below meth c A ls hsz hx hb hr hlocks hts hown hml hK hAe hA G hl => ?_)
  have hown : s.vm.findClass RX0 = some m.cls := hown
  have hin : ∀ w ∈ wsX00, w ∈ wsX0_holdsLock := gx_in
  have hl : lv_has ls 2 [(0, .ref h), (1, .int p0)] := hl
  refine lv_aload_n hx hb dX0_holdsLock_0 rfl (lv_at hl 0 rfl) ?_
  refine gg0_get (v := .ref (q 0)) hx hb hts hin hown hK G 0 (by decide) (index := 9) (by decide +kernel) rfl dX0_holdsLock_1 ?_
  refine lv_iload_n hx hb dX0_holdsLock_4 rfl (lv_at hl 1 rfl) ?_
  refine gg0_ld0 hx hb hK G (i := p0) hp0 dX0_holdsLock_5 ?_
  refine lv_if_ne (tgt := 15) hx hb dX0_holdsLock_6 (by decide) (fun c_6 => ?_) (fun c_6 => ?_)
  · refine lv_aload_n hx hb dX0_holdsLock_15 rfl (lv_at hl 0 rfl) ?_
    refine gg0_get (v := .ref (q 14)) hx hb hts hin hown hK G 14 (by decide) (index := 55) (by decide +kernel) rfl dX0_holdsLock_16 ?_
    refine lv_aload_n hx hb dX0_holdsLock_19 rfl (lv_at hl 0 rfl) ?_
    refine lv_iload_n hx hb dX0_holdsLock_20 rfl (lv_at hl 1 rfl) ?_
    refine gx_callr (wf := gw0_ cI cZ h q) (u := u) (f := pd_leastHandle u p0) (As := [.int p0]) (rest := [.ref (q 14)]) 1 hx hb hml hown hts hK hA G rfl rfl (kd_leastHandle l dC dI cI cZ h q _ u p0 hp0) gX0_holdsLock_X0_leastHandle rfl rfl rfl hd_X0_leastHandle ⟨Nat.le_of_ble_eq_true rfl, Nat.le_of_ble_eq_true rfl⟩ rfl hl.1 rfl (Nat.le_of_ble_eq_true rfl) dX0_holdsLock_21 (Nat.zero_le _) (Nat.zero_le _) (fun H locs G => ?_)
    refine gg0_ld14 hx hb hK G (i := pd_leastHandle u p0) (least_in hp0) dX0_holdsLock_24 ?_
    refine lv_if_le (tgt := 32) hx hb dX0_holdsLock_25 (by decide) (fun c_25 => ?_) (fun c_25 => ?_)
    · refine lv_iconst (v := 0) hx hb dX0_holdsLock_32 (by decide) ?_
      refine gx_calls (f := pd_asNumber 0) (As := [.int 0]) (rest := []) 1 hx hb hml hown hts (kd_asNumber l 0 ) gX0_holdsLock_X0_asNumber rfl rfl rfl hd_X0_asNumber ⟨Nat.le_of_ble_eq_true rfl, Nat.le_of_ble_eq_true rfl⟩ rfl hl.1 rfl (Nat.le_of_ble_eq_true rfl) dX0_holdsLock_33 (Nat.zero_le _) (Nat.zero_le _) ?_
      exact gx_iret (wf := gw0_ cI cZ h q) (u1 := u) hx hb hr hlocks hsz hK hAe G dX0_holdsLock_36 (by unfold pd_holdsLock; rw [if_neg c_6, if_pos c_25])
    · refine lv_iconst (v := 1) hx hb dX0_holdsLock_28 (by decide) ?_
      refine lv_goto (tgt := 33) hx hb dX0_holdsLock_29 (by decide) ?_
      refine gx_calls (f := pd_asNumber 1) (As := [.int 1]) (rest := []) 1 hx hb hml hown hts (kd_asNumber l 1 ) gX0_holdsLock_X0_asNumber rfl rfl rfl hd_X0_asNumber ⟨Nat.le_of_ble_eq_true rfl, Nat.le_of_ble_eq_true rfl⟩ rfl hl.1 rfl (Nat.le_of_ble_eq_true rfl) dX0_holdsLock_33 (Nat.zero_le _) (Nat.zero_le _) ?_
      exact gx_iret (wf := gw0_ cI cZ h q) (u1 := u) hx hb hr hlocks hsz hK hAe G dX0_holdsLock_36 (by unfold pd_holdsLock; rw [if_neg c_6, if_neg c_25])
  · refine lv_aload_n hx hb dX0_holdsLock_9 rfl (lv_at hl 0 rfl) ?_
    refine lv_iconst (v := 1) hx hb dX0_holdsLock_10 (by decide) ?_
    refine gx_calli (wf := gw0_ cI cZ h q) (u := u) (f := pd_raise u 1) (As := [.int 1]) (rest := []) 1 hx hb hml hown hts hK hA G rfl rfl (kd_raise l dC dI cI cZ h q _ u 1 ) gX0_holdsLock_X0_raise rfl rfl rfl hd_X0_raise ⟨Nat.le_of_ble_eq_true rfl, Nat.le_of_ble_eq_true rfl⟩ rfl hl.1 rfl (Nat.le_of_ble_eq_true rfl) dX0_holdsLock_11 (Nat.zero_le _) (Nat.zero_le _) (fun H locs G => ?_)
    exact gx_iret (wf := gw0_ cI cZ h q) (u1 := (pd_raise u 1).2) hx hb hr hlocks hsz hK hAe G dX0_holdsLock_14 (by unfold pd_holdsLock; rw [if_pos c_6])
theorem hd_X0_holdsLock : yX0_holdsLock.cls = RX0 ∧ yX0_holdsLock.cls ≠ "java/lang/invoke/MethodHandle" ∧ yX0_holdsLock.cls ≠ "java/lang/invoke/VarHandle" ∧ (parseMethodDescriptor yX0_holdsLock.desc).map (fun d => d.parameters.length) = some 1 := by decide +kernel
def pd_takeFlag (u : st_T) : Int32 × st_T :=
  (u.1 4, st_si u 4 0)
set_option maxHeartbeats 4000000 in
set_option maxRecDepth 100000 in
theorem kd_takeFlag (l : Launch) (dC : Nat → ClassId) (dI : Nat → Nat → Nat) (cI cZ : ClassId) (h : Nat) (q : Nat → Nat) (sz : Nat) (u : st_T) (hfl : u.1 4 = 0 ∨ u.1 4 = 1) : gx_Mi l yX0_takeFlag wsX0_takeFlag { frames := 0, cells := 0, slots := 0, locals := 0 } [.ref h] (dC, dI) cI cZ (gw0_ cI cZ h q) u sz (pd_takeFlag u) := by
  refine gx_met (cc := cX0_takeFlag) (maxL := 2) (ret := (some .boolean)) (by decide +kernel) rfl (Nat.le_of_ble_eq_true rfl) (fun p e s m args below meth c A ls hsz hx hb hr hlocks hts hown hml hK hAe hA G hl => ?_)
  have hown : s.vm.findClass RX0 = some m.cls := hown
  have hin : ∀ w ∈ wsX00, w ∈ wsX0_takeFlag := gx_in
  have hl : lv_has ls 2 [(0, .ref h)] := hl
  refine lv_aload_n hx hb dX0_takeFlag_0 rfl (lv_at hl 0 rfl) ?_
  refine gg0_get (v := .int (u.1 4)) hx hb hts hin hown hK G 4 (by decide) (index := 24) (by decide +kernel) rfl dX0_takeFlag_1 ?_
  refine lv_istore_n (lv' := [(1, .int (u.1 4)), (0, .ref h)]) hx hb dX0_takeFlag_4 rfl hl (by decide) rfl (fun ls hl => ?_)
  refine lv_aload_n hx hb dX0_takeFlag_5 rfl (lv_at hl 1 rfl) ?_
  refine lv_iconst (v := 0) hx hb dX0_takeFlag_6 (by decide) ?_
  refine gg0_put4 (v := 0) hx hb hts hin hown hK G (index := 24) (by decide +kernel) rfl rfl dX0_takeFlag_7 (fun H locs G => ?_)
  refine lv_iload_n hx hb dX0_takeFlag_10 rfl (lv_at hl 0 rfl) ?_
  exact gx_zret (wf := gw0_ cI cZ h q) (u1 := st_si u 4 0) hx hb hr hlocks hsz hK hAe G dX0_takeFlag_11 (nz_flag hfl) (by unfold pd_takeFlag; rfl)
theorem hd_X0_takeFlag : yX0_takeFlag.cls = RX0 ∧ yX0_takeFlag.cls ≠ "java/lang/invoke/MethodHandle" ∧ yX0_takeFlag.cls ≠ "java/lang/invoke/VarHandle" ∧ (parseMethodDescriptor yX0_takeFlag.desc).map (fun d => d.parameters.length) = some 0 := by decide +kernel
def pd_awaitNotice (u : st_T) (p0 : Int32) : Int32 × st_T :=
  if p0 = (-2147483648) then
    if u.2 0 (ix 0) = 0 then
      ((pd_raise u 1).1, (pd_raise u 1).2)
    else
      ((pd_raise u 3).1, (pd_raise u 3).2)
  else
    if u.2 0 (ix ((if 0 ≤ p0 then p0 else 0 - p0) - (if 0 ≤ p0 then p0 else 0 - p0) / 5 * 5)) = 0 then
      ((pd_raise u 1).1, (pd_raise u 1).2)
    else
      if 0 ≤ p0 then
        if u.2 14 (ix (pd_leastHandle u ((if 0 ≤ p0 then p0 else 0 - p0) - (if 0 ≤ p0 then p0 else 0 - p0) / 5 * 5))) = 0 then
          ((pd_raise u 2).1, (pd_raise u 2).2)
        else
          if (pd_takeFlag u).1 = 0 then
            ((-2), (pd_takeFlag u).2)
          else
            ((pd_raise ((pd_takeFlag u).2) 4).1, (pd_raise ((pd_takeFlag u).2) 4).2)
      else
        ((pd_raise u 3).1, (pd_raise u 3).2)
set_option maxHeartbeats 4000000 in
set_option maxRecDepth 100000 in
theorem kd_awaitNotice (l : Launch) (dC : Nat → ClassId) (dI : Nat → Nat → Nat) (cI cZ : ClassId) (h : Nat) (q : Nat → Nat) (sz : Nat) (u : st_T) (p0 : Int32) (hfl : u.1 4 = 0 ∨ u.1 4 = 1) : gx_Mi l yX0_awaitNotice wsX0_awaitNotice { frames := 1, cells := 0, slots := 0, locals := 22 } [.ref h, .int p0] (dC, dI) cI cZ (gw0_ cI cZ h q) u sz (pd_awaitNotice u p0) := by
  refine gx_met (cc := cX0_awaitNotice) (maxL := 3) (ret := (some .int)) (by decide +kernel) rfl (Nat.le_of_ble_eq_true rfl) (fun p e s m args below meth c A ls hsz hx hb hr hlocks hts hown hml hK hAe hA G hl => ?_)
  have hown : s.vm.findClass RX0 = some m.cls := hown
  have hin : ∀ w ∈ wsX00, w ∈ wsX0_awaitNotice := gx_in
  have hl : lv_has ls 3 [(0, .ref h), (1, .int p0)] := hl
  refine lv_iload_n hx hb dX0_awaitNotice_0 rfl (lv_at hl 1 rfl) ?_
  refine lv_ldc (v := (-2147483648)) hx hb hown (hts (.constant RX0 141 (-2147483648)) (by decide +kernel)) dX0_awaitNotice_1 ?_
  refine lv_icmp_ne (tgt := 10) hx hb dX0_awaitNotice_3 (by decide) (fun c_3 => ?_) (fun c_3 => ?_)
  · refine lv_iload_n hx hb dX0_awaitNotice_10 rfl (lv_at hl 1 rfl) ?_
    refine va_mabs hx hb (by rw [hml]; exact hl.1.symm) hown (hts (.methodLink RX0 142 Lib.Math.abs.name) (by decide +kernel)) (hts (.static Lib.Math.abs.name) (by decide +kernel)) (hts (.initialized "java/lang/Math") (by decide +kernel)) (hts (.code Lib.Math.abs.name Lib.Math.abs.code 1 (some .int)) (by decide +kernel)) (Nat.le_of_ble_eq_true rfl) (Nat.le_of_ble_eq_true rfl) (Nat.zero_le _) (Nat.zero_le _) dX0_awaitNotice_11 ?_
    refine lv_iconst (v := 5) hx hb dX0_awaitNotice_14 (by decide) ?_
    refine lv_irem hx hb dX0_awaitNotice_15 (by decide) ?_
    refine lv_istore_n (lv' := [(2, .int ((if 0 ≤ p0 then p0 else 0 - p0) - (if 0 ≤ p0 then p0 else 0 - p0) / 5 * 5)), (0, .ref h), (1, .int p0)]) hx hb dX0_awaitNotice_16 rfl hl (by decide) rfl (fun ls hl => ?_)
    refine lv_aload_n hx hb dX0_awaitNotice_17 rfl (lv_at hl 1 rfl) ?_
    refine gg0_get (v := .ref (q 0)) hx hb hts hin hown hK G 0 (by decide) (index := 9) (by decide +kernel) rfl dX0_awaitNotice_18 ?_
    refine lv_iload_n hx hb dX0_awaitNotice_21 rfl (lv_at hl 0 rfl) ?_
    refine gg0_ld0 hx hb hK G (i := (if 0 ≤ p0 then p0 else 0 - p0) - (if 0 ≤ p0 then p0 else 0 - p0) / 5 * 5) (wt_in c_3) dX0_awaitNotice_22 ?_
    refine lv_if_ne (tgt := 32) hx hb dX0_awaitNotice_23 (by decide) (fun c_23 => ?_) (fun c_23 => ?_)
    · refine lv_iload_n hx hb dX0_awaitNotice_32 rfl (lv_at hl 2 rfl) ?_
      refine lv_if_ge (tgt := 42) hx hb dX0_awaitNotice_33 (by decide) (fun c_33 => ?_) (fun c_33 => ?_)
      · refine lv_aload_n hx hb dX0_awaitNotice_42 rfl (lv_at hl 1 rfl) ?_
        refine gg0_get (v := .ref (q 14)) hx hb hts hin hown hK G 14 (by decide) (index := 55) (by decide +kernel) rfl dX0_awaitNotice_43 ?_
        refine lv_aload_n hx hb dX0_awaitNotice_46 rfl (lv_at hl 1 rfl) ?_
        refine lv_iload_n hx hb dX0_awaitNotice_47 rfl (lv_at hl 0 rfl) ?_
        refine gx_callr (wf := gw0_ cI cZ h q) (u := u) (f := pd_leastHandle u ((if 0 ≤ p0 then p0 else 0 - p0) - (if 0 ≤ p0 then p0 else 0 - p0) / 5 * 5)) (As := [.int ((if 0 ≤ p0 then p0 else 0 - p0) - (if 0 ≤ p0 then p0 else 0 - p0) / 5 * 5)]) (rest := [.ref (q 14)]) 1 hx hb hml hown hts hK hA G rfl rfl (kd_leastHandle l dC dI cI cZ h q _ u ((if 0 ≤ p0 then p0 else 0 - p0) - (if 0 ≤ p0 then p0 else 0 - p0) / 5 * 5) (wt_in c_3)) gX0_awaitNotice_X0_leastHandle rfl rfl rfl hd_X0_leastHandle ⟨Nat.le_of_ble_eq_true rfl, Nat.le_of_ble_eq_true rfl⟩ rfl hl.1 rfl (Nat.le_of_ble_eq_true rfl) dX0_awaitNotice_48 (Nat.zero_le _) (Nat.zero_le _) (fun H locs G => ?_)
        refine gg0_ld14 hx hb hK G (i := pd_leastHandle u ((if 0 ≤ p0 then p0 else 0 - p0) - (if 0 ≤ p0 then p0 else 0 - p0) / 5 * 5)) (least_in (wt_in c_3)) dX0_awaitNotice_51 ?_
        refine lv_if_ne (tgt := 61) hx hb dX0_awaitNotice_52 (by decide) (fun c_52 => ?_) (fun c_52 => ?_)
        · refine lv_aload_n hx hb dX0_awaitNotice_61 rfl (lv_at hl 1 rfl) ?_
          refine gx_calli (wf := gw0_ cI cZ h q) (u := u) (f := pd_takeFlag u) (As := []) (rest := []) 0 hx hb hml hown hts hK hA G rfl rfl (kd_takeFlag l dC dI cI cZ h q _ u  hfl) gX0_awaitNotice_X0_takeFlag rfl rfl rfl hd_X0_takeFlag ⟨Nat.le_of_ble_eq_true rfl, Nat.le_of_ble_eq_true rfl⟩ rfl hl.1 rfl (Nat.le_of_ble_eq_true rfl) dX0_awaitNotice_62 (Nat.zero_le _) (Nat.zero_le _) (fun H locs G => ?_)
          refine lv_if_eq (tgt := 76) hx hb dX0_awaitNotice_65 (by decide) (fun c_65 => ?_) (fun c_65 => ?_)
          · refine lv_bipush (v := (-2)) hx hb dX0_awaitNotice_76 (by decide) ?_
            exact gx_iret (wf := gw0_ cI cZ h q) (u1 := (pd_takeFlag u).2) hx hb hr hlocks hsz hK hAe G dX0_awaitNotice_78 (by unfold pd_awaitNotice; rw [if_neg c_3, if_neg c_23, if_pos c_33, if_neg c_52, if_pos c_65])
          · refine lv_aload_n hx hb dX0_awaitNotice_68 rfl (lv_at hl 1 rfl) ?_
            refine lv_iconst (v := 4) hx hb dX0_awaitNotice_69 (by decide) ?_
            refine gx_calli (wf := gw0_ cI cZ h q) (u := (pd_takeFlag u).2) (f := pd_raise ((pd_takeFlag u).2) 4) (As := [.int 4]) (rest := []) 1 hx hb hml hown hts hK hA G rfl rfl (kd_raise l dC dI cI cZ h q _ ((pd_takeFlag u).2) 4 ) gX0_awaitNotice_X0_raise rfl rfl rfl hd_X0_raise ⟨Nat.le_of_ble_eq_true rfl, Nat.le_of_ble_eq_true rfl⟩ rfl hl.1 rfl (Nat.le_of_ble_eq_true rfl) dX0_awaitNotice_70 (Nat.zero_le _) (Nat.zero_le _) (fun H locs G => ?_)
            refine lv_goto (tgt := 78) hx hb dX0_awaitNotice_73 (by decide) ?_
            exact gx_iret (wf := gw0_ cI cZ h q) (u1 := (pd_raise ((pd_takeFlag u).2) 4).2) hx hb hr hlocks hsz hK hAe G dX0_awaitNotice_78 (by unfold pd_awaitNotice; rw [if_neg c_3, if_neg c_23, if_pos c_33, if_neg c_52, if_neg c_65])
        · refine lv_aload_n hx hb dX0_awaitNotice_55 rfl (lv_at hl 1 rfl) ?_
          refine lv_iconst (v := 2) hx hb dX0_awaitNotice_56 (by decide) ?_
          refine gx_calli (wf := gw0_ cI cZ h q) (u := u) (f := pd_raise u 2) (As := [.int 2]) (rest := []) 1 hx hb hml hown hts hK hA G rfl rfl (kd_raise l dC dI cI cZ h q _ u 2 ) gX0_awaitNotice_X0_raise rfl rfl rfl hd_X0_raise ⟨Nat.le_of_ble_eq_true rfl, Nat.le_of_ble_eq_true rfl⟩ rfl hl.1 rfl (Nat.le_of_ble_eq_true rfl) dX0_awaitNotice_57 (Nat.zero_le _) (Nat.zero_le _) (fun H locs G => ?_)
          exact gx_iret (wf := gw0_ cI cZ h q) (u1 := (pd_raise u 2).2) hx hb hr hlocks hsz hK hAe G dX0_awaitNotice_60 (by unfold pd_awaitNotice; rw [if_neg c_3, if_neg c_23, if_pos c_33, if_pos c_52])
      · refine lv_aload_n hx hb dX0_awaitNotice_36 rfl (lv_at hl 1 rfl) ?_
        refine lv_iconst (v := 3) hx hb dX0_awaitNotice_37 (by decide) ?_
        refine gx_calli (wf := gw0_ cI cZ h q) (u := u) (f := pd_raise u 3) (As := [.int 3]) (rest := []) 1 hx hb hml hown hts hK hA G rfl rfl (kd_raise l dC dI cI cZ h q _ u 3 ) gX0_awaitNotice_X0_raise rfl rfl rfl hd_X0_raise ⟨Nat.le_of_ble_eq_true rfl, Nat.le_of_ble_eq_true rfl⟩ rfl hl.1 rfl (Nat.le_of_ble_eq_true rfl) dX0_awaitNotice_38 (Nat.zero_le _) (Nat.zero_le _) (fun H locs G => ?_)
        exact gx_iret (wf := gw0_ cI cZ h q) (u1 := (pd_raise u 3).2) hx hb hr hlocks hsz hK hAe G dX0_awaitNotice_41 (by unfold pd_awaitNotice; rw [if_neg c_3, if_neg c_23, if_neg c_33])
    · refine lv_aload_n hx hb dX0_awaitNotice_26 rfl (lv_at hl 1 rfl) ?_
      refine lv_iconst (v := 1) hx hb dX0_awaitNotice_27 (by decide) ?_
      refine gx_calli (wf := gw0_ cI cZ h q) (u := u) (f := pd_raise u 1) (As := [.int 1]) (rest := []) 1 hx hb hml hown hts hK hA G rfl rfl (kd_raise l dC dI cI cZ h q _ u 1 ) gX0_awaitNotice_X0_raise rfl rfl rfl hd_X0_raise ⟨Nat.le_of_ble_eq_true rfl, Nat.le_of_ble_eq_true rfl⟩ rfl hl.1 rfl (Nat.le_of_ble_eq_true rfl) dX0_awaitNotice_28 (Nat.zero_le _) (Nat.zero_le _) (fun H locs G => ?_)
      exact gx_iret (wf := gw0_ cI cZ h q) (u1 := (pd_raise u 1).2) hx hb hr hlocks hsz hK hAe G dX0_awaitNotice_31 (by unfold pd_awaitNotice; rw [if_neg c_3, if_pos c_23])
  · refine lv_iconst (v := 0) hx hb dX0_awaitNotice_6 (by decide) ?_
    refine lv_goto (tgt := 16) hx hb dX0_awaitNotice_7 (by decide) ?_
    refine lv_istore_n (lv' := [(2, .int 0), (0, .ref h), (1, .int p0)]) hx hb dX0_awaitNotice_16 rfl hl (by decide) rfl (fun ls hl => ?_)
    refine lv_aload_n hx hb dX0_awaitNotice_17 rfl (lv_at hl 1 rfl) ?_
    refine gg0_get (v := .ref (q 0)) hx hb hts hin hown hK G 0 (by decide) (index := 9) (by decide +kernel) rfl dX0_awaitNotice_18 ?_
    refine lv_iload_n hx hb dX0_awaitNotice_21 rfl (lv_at hl 0 rfl) ?_
    refine gg0_ld0 hx hb hK G (i := 0) (in_z (by decide)) dX0_awaitNotice_22 ?_
    refine lv_if_ne (tgt := 32) hx hb dX0_awaitNotice_23 (by decide) (fun c_23 => ?_) (fun c_23 => ?_)
    · refine lv_iload_n hx hb dX0_awaitNotice_32 rfl (lv_at hl 2 rfl) ?_
      refine lv_if_ge (tgt := 42) hx hb dX0_awaitNotice_33 (by decide) (fun z => absurd z (by rw [c_3]; decide)) (fun _ => ?_)
      refine lv_aload_n hx hb dX0_awaitNotice_36 rfl (lv_at hl 1 rfl) ?_
      refine lv_iconst (v := 3) hx hb dX0_awaitNotice_37 (by decide) ?_
      refine gx_calli (wf := gw0_ cI cZ h q) (u := u) (f := pd_raise u 3) (As := [.int 3]) (rest := []) 1 hx hb hml hown hts hK hA G rfl rfl (kd_raise l dC dI cI cZ h q _ u 3 ) gX0_awaitNotice_X0_raise rfl rfl rfl hd_X0_raise ⟨Nat.le_of_ble_eq_true rfl, Nat.le_of_ble_eq_true rfl⟩ rfl hl.1 rfl (Nat.le_of_ble_eq_true rfl) dX0_awaitNotice_38 (Nat.zero_le _) (Nat.zero_le _) (fun H locs G => ?_)
      exact gx_iret (wf := gw0_ cI cZ h q) (u1 := (pd_raise u 3).2) hx hb hr hlocks hsz hK hAe G dX0_awaitNotice_41 (by unfold pd_awaitNotice; rw [if_pos c_3, if_neg c_23])
    · refine lv_aload_n hx hb dX0_awaitNotice_26 rfl (lv_at hl 1 rfl) ?_
      refine lv_iconst (v := 1) hx hb dX0_awaitNotice_27 (by decide) ?_
      refine gx_calli (wf := gw0_ cI cZ h q) (u := u) (f := pd_raise u 1) (As := [.int 1]) (rest := []) 1 hx hb hml hown hts hK hA G rfl rfl (kd_raise l dC dI cI cZ h q _ u 1 ) gX0_awaitNotice_X0_raise rfl rfl rfl hd_X0_raise ⟨Nat.le_of_ble_eq_true rfl, Nat.le_of_ble_eq_true rfl⟩ rfl hl.1 rfl (Nat.le_of_ble_eq_true rfl) dX0_awaitNotice_28 (Nat.zero_le _) (Nat.zero_le _) (fun H locs G => ?_)
      exact gx_iret (wf := gw0_ cI cZ h q) (u1 := (pd_raise u 1).2) hx hb hr hlocks hsz hK hAe G dX0_awaitNotice_31 (by unfold pd_awaitNotice; rw [if_pos c_3, if_pos c_23])
theorem hd_X0_awaitNotice : yX0_awaitNotice.cls = RX0 ∧ yX0_awaitNotice.cls ≠ "java/lang/invoke/MethodHandle" ∧ yX0_awaitNotice.cls ≠ "java/lang/invoke/VarHandle" ∧ (parseMethodDescriptor yX0_awaitNotice.desc).map (fun d => d.parameters.length) = some 1 := by decide +kernel
def pd_sleep (u : st_T) (p0 : Int32) : Int32 × st_T :=
  if 0 ≤ p0 then
    if (pd_takeFlag u).1 = 0 then
      (0, (pd_takeFlag u).2)
    else
      ((pd_raise ((pd_takeFlag u).2) 4).1, (pd_raise ((pd_takeFlag u).2) 4).2)
  else
    ((pd_raise u 3).1, (pd_raise u 3).2)
set_option maxHeartbeats 4000000 in
set_option maxRecDepth 100000 in
theorem kd_sleep (l : Launch) (dC : Nat → ClassId) (dI : Nat → Nat → Nat) (cI cZ : ClassId) (h : Nat) (q : Nat → Nat) (sz : Nat) (u : st_T) (p0 : Int32) (hfl : u.1 4 = 0 ∨ u.1 4 = 1) : gx_Mi l yX0_sleep wsX0_sleep { frames := 1, cells := 0, slots := 0, locals := 21 } [.ref h, .int p0] (dC, dI) cI cZ (gw0_ cI cZ h q) u sz (pd_sleep u p0) := by
  refine gx_met (cc := cX0_sleep) (maxL := 2) (ret := (some .int)) (by decide +kernel) rfl (Nat.le_of_ble_eq_true rfl) (fun p e s m args below meth c A ls hsz hx hb hr hlocks hts hown hml hK hAe hA G hl => ?_)
  have hown : s.vm.findClass RX0 = some m.cls := hown
  have hin : ∀ w ∈ wsX00, w ∈ wsX0_sleep := gx_in
  have hl : lv_has ls 2 [(0, .ref h), (1, .int p0)] := hl
  refine lv_iload_n hx hb dX0_sleep_0 rfl (lv_at hl 1 rfl) ?_
  refine lv_if_ge (tgt := 10) hx hb dX0_sleep_1 (by decide) (fun c_1 => ?_) (fun c_1 => ?_)
  · refine lv_aload_n hx hb dX0_sleep_10 rfl (lv_at hl 0 rfl) ?_
    refine gx_calli (wf := gw0_ cI cZ h q) (u := u) (f := pd_takeFlag u) (As := []) (rest := []) 0 hx hb hml hown hts hK hA G rfl rfl (kd_takeFlag l dC dI cI cZ h q _ u  hfl) gX0_sleep_X0_takeFlag rfl rfl rfl hd_X0_takeFlag ⟨Nat.le_of_ble_eq_true rfl, Nat.le_of_ble_eq_true rfl⟩ rfl hl.1 rfl (Nat.le_of_ble_eq_true rfl) dX0_sleep_11 (Nat.zero_le _) (Nat.zero_le _) (fun H locs G => ?_)
    refine lv_if_eq (tgt := 25) hx hb dX0_sleep_14 (by decide) (fun c_14 => ?_) (fun c_14 => ?_)
    · refine lv_iconst (v := 0) hx hb dX0_sleep_25 (by decide) ?_
      exact gx_iret (wf := gw0_ cI cZ h q) (u1 := (pd_takeFlag u).2) hx hb hr hlocks hsz hK hAe G dX0_sleep_26 (by unfold pd_sleep; rw [if_pos c_1, if_pos c_14])
    · refine lv_aload_n hx hb dX0_sleep_17 rfl (lv_at hl 0 rfl) ?_
      refine lv_iconst (v := 4) hx hb dX0_sleep_18 (by decide) ?_
      refine gx_calli (wf := gw0_ cI cZ h q) (u := (pd_takeFlag u).2) (f := pd_raise ((pd_takeFlag u).2) 4) (As := [.int 4]) (rest := []) 1 hx hb hml hown hts hK hA G rfl rfl (kd_raise l dC dI cI cZ h q _ ((pd_takeFlag u).2) 4 ) gX0_sleep_X0_raise rfl rfl rfl hd_X0_raise ⟨Nat.le_of_ble_eq_true rfl, Nat.le_of_ble_eq_true rfl⟩ rfl hl.1 rfl (Nat.le_of_ble_eq_true rfl) dX0_sleep_19 (Nat.zero_le _) (Nat.zero_le _) (fun H locs G => ?_)
      refine lv_goto (tgt := 26) hx hb dX0_sleep_22 (by decide) ?_
      exact gx_iret (wf := gw0_ cI cZ h q) (u1 := (pd_raise ((pd_takeFlag u).2) 4).2) hx hb hr hlocks hsz hK hAe G dX0_sleep_26 (by unfold pd_sleep; rw [if_pos c_1, if_neg c_14])
  · refine lv_aload_n hx hb dX0_sleep_4 rfl (lv_at hl 0 rfl) ?_
    refine lv_iconst (v := 3) hx hb dX0_sleep_5 (by decide) ?_
    refine gx_calli (wf := gw0_ cI cZ h q) (u := u) (f := pd_raise u 3) (As := [.int 3]) (rest := []) 1 hx hb hml hown hts hK hA G rfl rfl (kd_raise l dC dI cI cZ h q _ u 3 ) gX0_sleep_X0_raise rfl rfl rfl hd_X0_raise ⟨Nat.le_of_ble_eq_true rfl, Nat.le_of_ble_eq_true rfl⟩ rfl hl.1 rfl (Nat.le_of_ble_eq_true rfl) dX0_sleep_6 (Nat.zero_le _) (Nat.zero_le _) (fun H locs G => ?_)
    exact gx_iret (wf := gw0_ cI cZ h q) (u1 := (pd_raise u 3).2) hx hb hr hlocks hsz hK hAe G dX0_sleep_9 (by unfold pd_sleep; rw [if_neg c_1])
theorem hd_X0_sleep : yX0_sleep.cls = RX0 ∧ yX0_sleep.cls ≠ "java/lang/invoke/MethodHandle" ∧ yX0_sleep.cls ≠ "java/lang/invoke/VarHandle" ∧ (parseMethodDescriptor yX0_sleep.desc).map (fun d => d.parameters.length) = some 1 := by decide +kernel
def pd_start (u : st_T) (p0 : Int32) : Int32 × st_T :=
  if u.2 2 (ix p0) = 0 then
    (0, st_si (st_sa u 2 (ix p0) 1) 3 ((u.1 3) + (p0 + 1)))
  else
    ((pd_raise u 5).1, (pd_raise u 5).2)
set_option maxHeartbeats 4000000 in
set_option maxRecDepth 100000 in
theorem kd_start (l : Launch) (dC : Nat → ClassId) (dI : Nat → Nat → Nat) (cI cZ : ClassId) (h : Nat) (q : Nat → Nat) (sz : Nat) (u : st_T) (p0 : Int32) (hp0 : vp_in p0 4) : gx_Mi l yX0_start wsX0_start { frames := 1, cells := 0, slots := 0, locals := 21 } [.ref h, .int p0] (dC, dI) cI cZ (gw0_ cI cZ h q) u sz (pd_start u p0) := by
  refine gx_met (cc := cX0_start) (maxL := 2) (ret := (some .int)) (by decide +kernel) rfl (Nat.le_of_ble_eq_true rfl) (fun p e s m args below meth c A ls hsz hx hb hr hlocks hts hown hml hK hAe hA G hl => ?_)
  have hown : s.vm.findClass RX0 = some m.cls := hown
  have hin : ∀ w ∈ wsX00, w ∈ wsX0_start := gx_in
  have hl : lv_has ls 2 [(0, .ref h), (1, .int p0)] := hl
  refine lv_aload_n hx hb dX0_start_0 rfl (lv_at hl 0 rfl) ?_
  refine gg0_get (v := .ref (q 2)) hx hb hts hin hown hK G 2 (by decide) (index := 17) (by decide +kernel) rfl dX0_start_1 ?_
  refine lv_iload_n hx hb dX0_start_4 rfl (lv_at hl 1 rfl) ?_
  refine gg0_ld2 hx hb hK G (i := p0) hp0 dX0_start_5 ?_
  refine lv_if_eq (tgt := 15) hx hb dX0_start_6 (by decide) (fun c_6 => ?_) (fun c_6 => ?_)
  · refine lv_aload_n hx hb dX0_start_15 rfl (lv_at hl 0 rfl) ?_
    refine gg0_get (v := .ref (q 2)) hx hb hts hin hown hK G 2 (by decide) (index := 17) (by decide +kernel) rfl dX0_start_16 ?_
    refine lv_iload_n hx hb dX0_start_19 rfl (lv_at hl 1 rfl) ?_
    refine lv_iconst (v := 1) hx hb dX0_start_20 (by decide) ?_
    refine gg0_st2 hx hb hK G (i := p0) (x := 1) hp0 rfl dX0_start_21 (fun H locs G => ?_)
    refine lv_aload_n hx hb dX0_start_22 rfl (lv_at hl 0 rfl) ?_
    refine lv_dup hx hb dX0_start_23 rfl ?_
    refine gg0_get (v := .int (u.1 3)) hx hb hts hin hown hK G 3 (by decide) (index := 21) (by decide +kernel) rfl dX0_start_24 ?_
    refine lv_iload_n hx hb dX0_start_27 rfl (lv_at hl 1 rfl) ?_
    refine lv_iconst (v := 1) hx hb dX0_start_28 (by decide) ?_
    refine lv_iadd hx hb dX0_start_29 ?_
    refine lv_iadd hx hb dX0_start_30 ?_
    refine gg0_put3 (v := (u.1 3) + (p0 + 1)) hx hb hts hin hown hK G (index := 21) (by decide +kernel) dX0_start_31 (fun H locs G => ?_)
    refine lv_iconst (v := 0) hx hb dX0_start_34 (by decide) ?_
    exact gx_iret (wf := gw0_ cI cZ h q) (u1 := st_si (st_sa u 2 (ix p0) 1) 3 ((u.1 3) + (p0 + 1))) hx hb hr hlocks hsz hK hAe G dX0_start_35 (by unfold pd_start; rw [if_pos c_6])
  · refine lv_aload_n hx hb dX0_start_9 rfl (lv_at hl 0 rfl) ?_
    refine lv_iconst (v := 5) hx hb dX0_start_10 (by decide) ?_
    refine gx_calli (wf := gw0_ cI cZ h q) (u := u) (f := pd_raise u 5) (As := [.int 5]) (rest := []) 1 hx hb hml hown hts hK hA G rfl rfl (kd_raise l dC dI cI cZ h q _ u 5 ) gX0_start_X0_raise rfl rfl rfl hd_X0_raise ⟨Nat.le_of_ble_eq_true rfl, Nat.le_of_ble_eq_true rfl⟩ rfl hl.1 rfl (Nat.le_of_ble_eq_true rfl) dX0_start_11 (Nat.zero_le _) (Nat.zero_le _) (fun H locs G => ?_)
    exact gx_iret (wf := gw0_ cI cZ h q) (u1 := (pd_raise u 5).2) hx hb hr hlocks hsz hK hAe G dX0_start_14 (by unfold pd_start; rw [if_neg c_6])
theorem hd_X0_start : yX0_start.cls = RX0 ∧ yX0_start.cls ≠ "java/lang/invoke/MethodHandle" ∧ yX0_start.cls ≠ "java/lang/invoke/VarHandle" ∧ (parseMethodDescriptor yX0_start.desc).map (fun d => d.parameters.length) = some 1 := by decide +kernel
def pd_perform (u : st_T) (p0 : Int32) : Int32 × st_T :=
  if u.2 5 (ix p0) = 0 then
    ((pd_endBlock u (u.2 7 (ix p0))).1, (pd_endBlock u (u.2 7 (ix p0))).2)
  else
    if u.2 5 (ix p0) = 1 then
      ((pd_enter u (pj_floorMod_7cf53 (u.2 6 (ix p0)) 5)).1, (pd_enter u (pj_floorMod_7cf53 (u.2 6 (ix p0)) 5)).2)
    else
      if u.2 5 (ix p0) = 2 then
        (0, u)
      else
        if u.2 5 (ix p0) = 3 then
          ((pd_notifyWaiting u (pj_floorMod_7cf53 (u.2 6 (ix p0)) 5)).1, (pd_notifyWaiting u (pj_floorMod_7cf53 (u.2 6 (ix p0)) 5)).2)
        else
          if u.2 5 (ix p0) = 4 then
            ((pd_notifyWaiting u (pj_floorMod_7cf53 (u.2 6 (ix p0)) 5)).1, (pd_notifyWaiting u (pj_floorMod_7cf53 (u.2 6 (ix p0)) 5)).2)
          else
            if u.2 5 (ix p0) = 5 then
              ((pd_holdsLock u (pj_floorMod_7cf53 (u.2 6 (ix p0)) 5)).1, (pd_holdsLock u (pj_floorMod_7cf53 (u.2 6 (ix p0)) 5)).2)
            else
              if u.2 5 (ix p0) = 6 then
                ((pd_awaitNotice u (u.2 6 (ix p0))).1, (pd_awaitNotice u (u.2 6 (ix p0))).2)
              else
                if u.2 5 (ix p0) = 7 then
                  (0, st_si u 4 1)
                else
                  if u.2 5 (ix p0) = 8 then
                    (pd_asNumber ((pd_takeFlag u).1), (pd_takeFlag u).2)
                  else
                    if u.2 5 (ix p0) = 9 then
                      (pd_asNumber (u.1 4), u)
                    else
                      if u.2 5 (ix p0) = 10 then
                        ((pd_sleep u (u.2 6 (ix p0))).1, (pd_sleep u (u.2 6 (ix p0))).2)
                      else
                        if u.2 5 (ix p0) = 11 then
                          ((pd_raise u (100 + (pj_floorMod_7cf53 (u.2 6 (ix p0)) 100))).1, (pd_raise u (100 + (pj_floorMod_7cf53 (u.2 6 (ix p0)) 100))).2)
                        else
                          if u.2 5 (ix p0) = 12 then
                            ((pd_start u (pj_floorMod_7cf53 (u.2 6 (ix p0)) 4)).1, (pd_start u (pj_floorMod_7cf53 (u.2 6 (ix p0)) 4)).2)
                          else
                            if u.2 5 (ix p0) = 13 then
                              (pd_asNumber (u.2 2 (ix (pj_floorMod_7cf53 (u.2 6 (ix p0)) 4))), u)
                            else
                              if u.2 5 (ix p0) = 14 then
                                (pd_asNumber (u.2 2 (ix (pj_floorMod_7cf53 (u.2 6 (ix p0)) 4))), u)
                              else
                                if u.2 5 (ix p0) = 15 then
                                  ((u.1 3) + (u.2 6 (ix p0)), st_si u 3 ((u.1 3) + (u.2 6 (ix p0))))
                                else
                                  (0, u)
set_option maxHeartbeats 4000000 in
set_option maxRecDepth 100000 in
theorem kd_perform (l : Launch) (dC : Nat → ClassId) (dI : Nat → Nat → Nat) (cI cZ : ClassId) (h : Nat) (q : Nat → Nat) (sz : Nat) (u : st_T) (p0 : Int32) (hp0 : vp_in p0 24) (hfl : u.1 4 = 0 ∨ u.1 4 = 1) (har : u.2 7 (ix p0) = -1 ∨ vp_in (u.2 7 (ix p0)) 24) : gx_Mi l yX0_perform wsX0_perform { frames := 3, cells := 0, slots := 0, locals := 65 } [.ref h, .int p0] (dC, dI) cI cZ (gw0_ cI cZ h q) u sz (pd_perform u p0) := by
  refine gx_met (cc := cX0_perform) (maxL := 5) (ret := (some .int)) (by decide +kernel) rfl (Nat.le_of_ble_eq_true rfl) (fun p e s m args below meth c A ls hsz hx hb hr hlocks hts hown hml hK hAe hA G hl => ?_)
  have hown : s.vm.findClass RX0 = some m.cls := hown
  have hin : ∀ w ∈ wsX00, w ∈ wsX0_perform := gx_in
  have hl : lv_has ls 5 [(0, .ref h), (1, .int p0)] := hl
  refine lv_aload_n hx hb dX0_perform_0 rfl (lv_at hl 0 rfl) ?_
  refine gg0_get (v := .ref (q 6)) hx hb hts hin hown hK G 6 (by decide) (index := 31) (by decide +kernel) rfl dX0_perform_1 ?_
  refine lv_iload_n hx hb dX0_perform_4 rfl (lv_at hl 1 rfl) ?_
  refine gg0_ld6 hx hb hK G (i := p0) hp0 dX0_perform_5 ?_
  refine lv_istore_n (lv' := [(2, .int (u.2 6 (ix p0))), (0, .ref h), (1, .int p0)]) hx hb dX0_perform_6 rfl hl (by decide) rfl (fun ls hl => ?_)
  refine lv_iload_n hx hb dX0_perform_7 rfl (lv_at hl 0 rfl) ?_
  refine lv_iconst (v := 5) hx hb dX0_perform_8 (by decide) ?_
  refine gx_calls (f := pj_floorMod_7cf53 (u.2 6 (ix p0)) 5) (As := [.int (u.2 6 (ix p0)), .int 5]) (rest := []) 2 hx hb hml hown hts (kj_floorMod_7cf53 l (u.2 6 (ix p0)) 5 (by decide)) gX0_perform_J9_floorMod_7cf53 rfl rfl rfl hd_J9_floorMod_7cf53 ⟨Nat.le_of_ble_eq_true rfl, Nat.le_of_ble_eq_true rfl⟩ rfl hl.1 rfl (Nat.le_of_ble_eq_true rfl) dX0_perform_9 (Nat.zero_le _) (Nat.zero_le _) ?_
  refine lv_istore_n (lv' := [(3, .int (pj_floorMod_7cf53 (u.2 6 (ix p0)) 5)), (2, .int (u.2 6 (ix p0))), (0, .ref h), (1, .int p0)]) hx hb dX0_perform_12 rfl hl (by decide) rfl (fun ls hl => ?_)
  refine lv_iload_n hx hb dX0_perform_13 rfl (lv_at hl 1 rfl) ?_
  refine lv_iconst (v := 4) hx hb dX0_perform_14 (by decide) ?_
  refine gx_calls (f := pj_floorMod_7cf53 (u.2 6 (ix p0)) 4) (As := [.int (u.2 6 (ix p0)), .int 4]) (rest := []) 2 hx hb hml hown hts (kj_floorMod_7cf53 l (u.2 6 (ix p0)) 4 (by decide)) gX0_perform_J9_floorMod_7cf53 rfl rfl rfl hd_J9_floorMod_7cf53 ⟨Nat.le_of_ble_eq_true rfl, Nat.le_of_ble_eq_true rfl⟩ rfl hl.1 rfl (Nat.le_of_ble_eq_true rfl) dX0_perform_15 (Nat.zero_le _) (Nat.zero_le _) ?_
  refine lv_istore (lv' := [(4, .int (pj_floorMod_7cf53 (u.2 6 (ix p0)) 4)), (3, .int (pj_floorMod_7cf53 (u.2 6 (ix p0)) 5)), (2, .int (u.2 6 (ix p0))), (0, .ref h), (1, .int p0)]) hx hb dX0_perform_18 hl (by decide) rfl (fun ls hl => ?_)
  refine lv_aload_n hx hb dX0_perform_20 rfl (lv_at hl 3 rfl) ?_
  refine gg0_get (v := .ref (q 5)) hx hb hts hin hown hK G 5 (by decide) (index := 28) (by decide +kernel) rfl dX0_perform_21 ?_
  refine lv_iload_n hx hb dX0_perform_24 rfl (lv_at hl 4 rfl) ?_
  refine gg0_ld5 hx hb hK G (i := p0) hp0 dX0_perform_25 ?_
  by_cases c_26_0 : u.2 5 (ix p0) = 0
  · refine lv_tableIn (tgt := 104) hx hb dX0_perform_26 (by rw [c_26_0]; decide) (by rw [c_26_0]; decide) (by rw [c_26_0]; rfl) (by decide) ?_
    refine lv_aload_n hx hb dX0_perform_104 rfl (lv_at hl 3 rfl) ?_
    refine lv_aload_n hx hb dX0_perform_105 rfl (lv_at hl 3 rfl) ?_
    refine gg0_get (v := .ref (q 7)) hx hb hts hin hown hK G 7 (by decide) (index := 34) (by decide +kernel) rfl dX0_perform_106 ?_
    refine lv_iload_n hx hb dX0_perform_109 rfl (lv_at hl 4 rfl) ?_
    refine gg0_ld7 hx hb hK G (i := p0) hp0 dX0_perform_110 ?_
    refine gx_calli (wf := gw0_ cI cZ h q) (u := u) (f := pd_endBlock u (u.2 7 (ix p0))) (As := [.int (u.2 7 (ix p0))]) (rest := []) 1 hx hb hml hown hts hK hA G rfl rfl (kd_endBlock l dC dI cI cZ h q _ u (u.2 7 (ix p0)) har) gX0_perform_X0_endBlock rfl rfl rfl hd_X0_endBlock ⟨Nat.le_of_ble_eq_true rfl, Nat.le_of_ble_eq_true rfl⟩ rfl hl.1 rfl (Nat.le_of_ble_eq_true rfl) dX0_perform_111 (Nat.zero_le _) (Nat.zero_le _) (fun H locs G => ?_)
    exact gx_iret (wf := gw0_ cI cZ h q) (u1 := (pd_endBlock u (u.2 7 (ix p0))).2) hx hb hr hlocks hsz hK hAe G dX0_perform_114 (by unfold pd_perform; rw [if_pos c_26_0])
  by_cases c_26_1 : u.2 5 (ix p0) = 1
  · refine lv_tableIn (tgt := 115) hx hb dX0_perform_26 (by rw [c_26_1]; decide) (by rw [c_26_1]; decide) (by rw [c_26_1]; rfl) (by decide) ?_
    refine lv_aload_n hx hb dX0_perform_115 rfl (lv_at hl 3 rfl) ?_
    refine lv_iload_n hx hb dX0_perform_116 rfl (lv_at hl 1 rfl) ?_
    refine gx_calli (wf := gw0_ cI cZ h q) (u := u) (f := pd_enter u (pj_floorMod_7cf53 (u.2 6 (ix p0)) 5)) (As := [.int (pj_floorMod_7cf53 (u.2 6 (ix p0)) 5)]) (rest := []) 1 hx hb hml hown hts hK hA G rfl rfl (kd_enter l dC dI cI cZ h q _ u (pj_floorMod_7cf53 (u.2 6 (ix p0)) 5) (fm_in5 _)) gX0_perform_X0_enter rfl rfl rfl hd_X0_enter ⟨Nat.le_of_ble_eq_true rfl, Nat.le_of_ble_eq_true rfl⟩ rfl hl.1 rfl (Nat.le_of_ble_eq_true rfl) dX0_perform_117 (Nat.zero_le _) (Nat.zero_le _) (fun H locs G => ?_)
    exact gx_iret (wf := gw0_ cI cZ h q) (u1 := (pd_enter u (pj_floorMod_7cf53 (u.2 6 (ix p0)) 5)).2) hx hb hr hlocks hsz hK hAe G dX0_perform_120 (by unfold pd_perform; rw [if_neg c_26_0, if_pos c_26_1])
  by_cases c_26_2 : u.2 5 (ix p0) = 2
  · refine lv_tableIn (tgt := 215) hx hb dX0_perform_26 (by rw [c_26_2]; decide) (by rw [c_26_2]; decide) (by rw [c_26_2]; rfl) (by decide) ?_
    refine lv_iconst (v := 0) hx hb dX0_perform_215 (by decide) ?_
    exact gx_iret (wf := gw0_ cI cZ h q) (u1 := u) hx hb hr hlocks hsz hK hAe G dX0_perform_216 (by unfold pd_perform; rw [if_neg c_26_0, if_neg c_26_1, if_pos c_26_2])
  by_cases c_26_3 : u.2 5 (ix p0) = 3
  · refine lv_tableIn (tgt := 121) hx hb dX0_perform_26 (by rw [c_26_3]; decide) (by rw [c_26_3]; decide) (by rw [c_26_3]; rfl) (by decide) ?_
    refine lv_aload_n hx hb dX0_perform_121 rfl (lv_at hl 3 rfl) ?_
    refine lv_iload_n hx hb dX0_perform_122 rfl (lv_at hl 1 rfl) ?_
    refine gx_calli (wf := gw0_ cI cZ h q) (u := u) (f := pd_notifyWaiting u (pj_floorMod_7cf53 (u.2 6 (ix p0)) 5)) (As := [.int (pj_floorMod_7cf53 (u.2 6 (ix p0)) 5)]) (rest := []) 1 hx hb hml hown hts hK hA G rfl rfl (kd_notifyWaiting l dC dI cI cZ h q _ u (pj_floorMod_7cf53 (u.2 6 (ix p0)) 5) (fm_in5 _)) gX0_perform_X0_notifyWaiting rfl rfl rfl hd_X0_notifyWaiting ⟨Nat.le_of_ble_eq_true rfl, Nat.le_of_ble_eq_true rfl⟩ rfl hl.1 rfl (Nat.le_of_ble_eq_true rfl) dX0_perform_123 (Nat.zero_le _) (Nat.zero_le _) (fun H locs G => ?_)
    exact gx_iret (wf := gw0_ cI cZ h q) (u1 := (pd_notifyWaiting u (pj_floorMod_7cf53 (u.2 6 (ix p0)) 5)).2) hx hb hr hlocks hsz hK hAe G dX0_perform_126 (by unfold pd_perform; rw [if_neg c_26_0, if_neg c_26_1, if_neg c_26_2, if_pos c_26_3])
  by_cases c_26_4 : u.2 5 (ix p0) = 4
  · refine lv_tableIn (tgt := 121) hx hb dX0_perform_26 (by rw [c_26_4]; decide) (by rw [c_26_4]; decide) (by rw [c_26_4]; rfl) (by decide) ?_
    refine lv_aload_n hx hb dX0_perform_121 rfl (lv_at hl 3 rfl) ?_
    refine lv_iload_n hx hb dX0_perform_122 rfl (lv_at hl 1 rfl) ?_
    refine gx_calli (wf := gw0_ cI cZ h q) (u := u) (f := pd_notifyWaiting u (pj_floorMod_7cf53 (u.2 6 (ix p0)) 5)) (As := [.int (pj_floorMod_7cf53 (u.2 6 (ix p0)) 5)]) (rest := []) 1 hx hb hml hown hts hK hA G rfl rfl (kd_notifyWaiting l dC dI cI cZ h q _ u (pj_floorMod_7cf53 (u.2 6 (ix p0)) 5) (fm_in5 _)) gX0_perform_X0_notifyWaiting rfl rfl rfl hd_X0_notifyWaiting ⟨Nat.le_of_ble_eq_true rfl, Nat.le_of_ble_eq_true rfl⟩ rfl hl.1 rfl (Nat.le_of_ble_eq_true rfl) dX0_perform_123 (Nat.zero_le _) (Nat.zero_le _) (fun H locs G => ?_)
    exact gx_iret (wf := gw0_ cI cZ h q) (u1 := (pd_notifyWaiting u (pj_floorMod_7cf53 (u.2 6 (ix p0)) 5)).2) hx hb hr hlocks hsz hK hAe G dX0_perform_126 (by unfold pd_perform; rw [if_neg c_26_0, if_neg c_26_1, if_neg c_26_2, if_neg c_26_3, if_pos c_26_4])
  by_cases c_26_5 : u.2 5 (ix p0) = 5
  · refine lv_tableIn (tgt := 127) hx hb dX0_perform_26 (by rw [c_26_5]; decide) (by rw [c_26_5]; decide) (by rw [c_26_5]; rfl) (by decide) ?_
    refine lv_aload_n hx hb dX0_perform_127 rfl (lv_at hl 3 rfl) ?_
    refine lv_iload_n hx hb dX0_perform_128 rfl (lv_at hl 1 rfl) ?_
    refine gx_calli (wf := gw0_ cI cZ h q) (u := u) (f := pd_holdsLock u (pj_floorMod_7cf53 (u.2 6 (ix p0)) 5)) (As := [.int (pj_floorMod_7cf53 (u.2 6 (ix p0)) 5)]) (rest := []) 1 hx hb hml hown hts hK hA G rfl rfl (kd_holdsLock l dC dI cI cZ h q _ u (pj_floorMod_7cf53 (u.2 6 (ix p0)) 5) (fm_in5 _)) gX0_perform_X0_holdsLock rfl rfl rfl hd_X0_holdsLock ⟨Nat.le_of_ble_eq_true rfl, Nat.le_of_ble_eq_true rfl⟩ rfl hl.1 rfl (Nat.le_of_ble_eq_true rfl) dX0_perform_129 (Nat.zero_le _) (Nat.zero_le _) (fun H locs G => ?_)
    exact gx_iret (wf := gw0_ cI cZ h q) (u1 := (pd_holdsLock u (pj_floorMod_7cf53 (u.2 6 (ix p0)) 5)).2) hx hb hr hlocks hsz hK hAe G dX0_perform_132 (by unfold pd_perform; rw [if_neg c_26_0, if_neg c_26_1, if_neg c_26_2, if_neg c_26_3, if_neg c_26_4, if_pos c_26_5])
  by_cases c_26_6 : u.2 5 (ix p0) = 6
  · refine lv_tableIn (tgt := 133) hx hb dX0_perform_26 (by rw [c_26_6]; decide) (by rw [c_26_6]; decide) (by rw [c_26_6]; rfl) (by decide) ?_
    refine lv_aload_n hx hb dX0_perform_133 rfl (lv_at hl 3 rfl) ?_
    refine lv_iload_n hx hb dX0_perform_134 rfl (lv_at hl 2 rfl) ?_
    refine gx_calli (wf := gw0_ cI cZ h q) (u := u) (f := pd_awaitNotice u (u.2 6 (ix p0))) (As := [.int (u.2 6 (ix p0))]) (rest := []) 1 hx hb hml hown hts hK hA G rfl rfl (kd_awaitNotice l dC dI cI cZ h q _ u (u.2 6 (ix p0)) hfl) gX0_perform_X0_awaitNotice rfl rfl rfl hd_X0_awaitNotice ⟨Nat.le_of_ble_eq_true rfl, Nat.le_of_ble_eq_true rfl⟩ rfl hl.1 rfl (Nat.le_of_ble_eq_true rfl) dX0_perform_135 (Nat.zero_le _) (Nat.zero_le _) (fun H locs G => ?_)
    exact gx_iret (wf := gw0_ cI cZ h q) (u1 := (pd_awaitNotice u (u.2 6 (ix p0))).2) hx hb hr hlocks hsz hK hAe G dX0_perform_138 (by unfold pd_perform; rw [if_neg c_26_0, if_neg c_26_1, if_neg c_26_2, if_neg c_26_3, if_neg c_26_4, if_neg c_26_5, if_pos c_26_6])
  by_cases c_26_7 : u.2 5 (ix p0) = 7
  · refine lv_tableIn (tgt := 139) hx hb dX0_perform_26 (by rw [c_26_7]; decide) (by rw [c_26_7]; decide) (by rw [c_26_7]; rfl) (by decide) ?_
    refine lv_aload_n hx hb dX0_perform_139 rfl (lv_at hl 3 rfl) ?_
    refine lv_iconst (v := 1) hx hb dX0_perform_140 (by decide) ?_
    refine gg0_put4 (v := 1) hx hb hts hin hown hK G (index := 24) (by decide +kernel) rfl rfl dX0_perform_141 (fun H locs G => ?_)
    refine lv_iconst (v := 0) hx hb dX0_perform_144 (by decide) ?_
    exact gx_iret (wf := gw0_ cI cZ h q) (u1 := st_si u 4 1) hx hb hr hlocks hsz hK hAe G dX0_perform_145 (by unfold pd_perform; rw [if_neg c_26_0, if_neg c_26_1, if_neg c_26_2, if_neg c_26_3, if_neg c_26_4, if_neg c_26_5, if_neg c_26_6, if_pos c_26_7])
  by_cases c_26_8 : u.2 5 (ix p0) = 8
  · refine lv_tableIn (tgt := 146) hx hb dX0_perform_26 (by rw [c_26_8]; decide) (by rw [c_26_8]; decide) (by rw [c_26_8]; rfl) (by decide) ?_
    refine lv_aload_n hx hb dX0_perform_146 rfl (lv_at hl 3 rfl) ?_
    refine gx_calli (wf := gw0_ cI cZ h q) (u := u) (f := pd_takeFlag u) (As := []) (rest := []) 0 hx hb hml hown hts hK hA G rfl rfl (kd_takeFlag l dC dI cI cZ h q _ u  hfl) gX0_perform_X0_takeFlag rfl rfl rfl hd_X0_takeFlag ⟨Nat.le_of_ble_eq_true rfl, Nat.le_of_ble_eq_true rfl⟩ rfl hl.1 rfl (Nat.le_of_ble_eq_true rfl) dX0_perform_147 (Nat.zero_le _) (Nat.zero_le _) (fun H locs G => ?_)
    refine gx_calls (f := pd_asNumber ((pd_takeFlag u).1)) (As := [.int ((pd_takeFlag u).1)]) (rest := []) 1 hx hb hml hown hts (kd_asNumber l ((pd_takeFlag u).1) ) gX0_perform_X0_asNumber rfl rfl rfl hd_X0_asNumber ⟨Nat.le_of_ble_eq_true rfl, Nat.le_of_ble_eq_true rfl⟩ rfl hl.1 rfl (Nat.le_of_ble_eq_true rfl) dX0_perform_150 (Nat.zero_le _) (Nat.zero_le _) ?_
    exact gx_iret (wf := gw0_ cI cZ h q) (u1 := (pd_takeFlag u).2) hx hb hr hlocks hsz hK hAe G dX0_perform_153 (by unfold pd_perform; rw [if_neg c_26_0, if_neg c_26_1, if_neg c_26_2, if_neg c_26_3, if_neg c_26_4, if_neg c_26_5, if_neg c_26_6, if_neg c_26_7, if_pos c_26_8])
  by_cases c_26_9 : u.2 5 (ix p0) = 9
  · refine lv_tableIn (tgt := 154) hx hb dX0_perform_26 (by rw [c_26_9]; decide) (by rw [c_26_9]; decide) (by rw [c_26_9]; rfl) (by decide) ?_
    refine lv_aload_n hx hb dX0_perform_154 rfl (lv_at hl 3 rfl) ?_
    refine gg0_get (v := .int (u.1 4)) hx hb hts hin hown hK G 4 (by decide) (index := 24) (by decide +kernel) rfl dX0_perform_155 ?_
    refine gx_calls (f := pd_asNumber (u.1 4)) (As := [.int (u.1 4)]) (rest := []) 1 hx hb hml hown hts (kd_asNumber l (u.1 4) ) gX0_perform_X0_asNumber rfl rfl rfl hd_X0_asNumber ⟨Nat.le_of_ble_eq_true rfl, Nat.le_of_ble_eq_true rfl⟩ rfl hl.1 rfl (Nat.le_of_ble_eq_true rfl) dX0_perform_158 (Nat.zero_le _) (Nat.zero_le _) ?_
    exact gx_iret (wf := gw0_ cI cZ h q) (u1 := u) hx hb hr hlocks hsz hK hAe G dX0_perform_161 (by unfold pd_perform; rw [if_neg c_26_0, if_neg c_26_1, if_neg c_26_2, if_neg c_26_3, if_neg c_26_4, if_neg c_26_5, if_neg c_26_6, if_neg c_26_7, if_neg c_26_8, if_pos c_26_9])
  by_cases c_26_10 : u.2 5 (ix p0) = 10
  · refine lv_tableIn (tgt := 162) hx hb dX0_perform_26 (by rw [c_26_10]; decide) (by rw [c_26_10]; decide) (by rw [c_26_10]; rfl) (by decide) ?_
    refine lv_aload_n hx hb dX0_perform_162 rfl (lv_at hl 3 rfl) ?_
    refine lv_iload_n hx hb dX0_perform_163 rfl (lv_at hl 2 rfl) ?_
    refine gx_calli (wf := gw0_ cI cZ h q) (u := u) (f := pd_sleep u (u.2 6 (ix p0))) (As := [.int (u.2 6 (ix p0))]) (rest := []) 1 hx hb hml hown hts hK hA G rfl rfl (kd_sleep l dC dI cI cZ h q _ u (u.2 6 (ix p0)) hfl) gX0_perform_X0_sleep rfl rfl rfl hd_X0_sleep ⟨Nat.le_of_ble_eq_true rfl, Nat.le_of_ble_eq_true rfl⟩ rfl hl.1 rfl (Nat.le_of_ble_eq_true rfl) dX0_perform_164 (Nat.zero_le _) (Nat.zero_le _) (fun H locs G => ?_)
    exact gx_iret (wf := gw0_ cI cZ h q) (u1 := (pd_sleep u (u.2 6 (ix p0))).2) hx hb hr hlocks hsz hK hAe G dX0_perform_167 (by unfold pd_perform; rw [if_neg c_26_0, if_neg c_26_1, if_neg c_26_2, if_neg c_26_3, if_neg c_26_4, if_neg c_26_5, if_neg c_26_6, if_neg c_26_7, if_neg c_26_8, if_neg c_26_9, if_pos c_26_10])
  by_cases c_26_11 : u.2 5 (ix p0) = 11
  · refine lv_tableIn (tgt := 168) hx hb dX0_perform_26 (by rw [c_26_11]; decide) (by rw [c_26_11]; decide) (by rw [c_26_11]; rfl) (by decide) ?_
    refine lv_aload_n hx hb dX0_perform_168 rfl (lv_at hl 3 rfl) ?_
    refine lv_bipush (v := 100) hx hb dX0_perform_169 (by decide) ?_
    refine lv_iload_n hx hb dX0_perform_171 rfl (lv_at hl 2 rfl) ?_
    refine lv_bipush (v := 100) hx hb dX0_perform_172 (by decide) ?_
    refine gx_calls (f := pj_floorMod_7cf53 (u.2 6 (ix p0)) 100) (As := [.int (u.2 6 (ix p0)), .int 100]) (rest := [.int 100, .ref h]) 2 hx hb hml hown hts (kj_floorMod_7cf53 l (u.2 6 (ix p0)) 100 (by decide)) gX0_perform_J9_floorMod_7cf53 rfl rfl rfl hd_J9_floorMod_7cf53 ⟨Nat.le_of_ble_eq_true rfl, Nat.le_of_ble_eq_true rfl⟩ rfl hl.1 rfl (Nat.le_of_ble_eq_true rfl) dX0_perform_174 (Nat.zero_le _) (Nat.zero_le _) ?_
    refine lv_iadd hx hb dX0_perform_177 ?_
    refine gx_calli (wf := gw0_ cI cZ h q) (u := u) (f := pd_raise u (100 + (pj_floorMod_7cf53 (u.2 6 (ix p0)) 100))) (As := [.int (100 + (pj_floorMod_7cf53 (u.2 6 (ix p0)) 100))]) (rest := []) 1 hx hb hml hown hts hK hA G rfl rfl (kd_raise l dC dI cI cZ h q _ u (100 + (pj_floorMod_7cf53 (u.2 6 (ix p0)) 100)) ) gX0_perform_X0_raise rfl rfl rfl hd_X0_raise ⟨Nat.le_of_ble_eq_true rfl, Nat.le_of_ble_eq_true rfl⟩ rfl hl.1 rfl (Nat.le_of_ble_eq_true rfl) dX0_perform_178 (Nat.zero_le _) (Nat.zero_le _) (fun H locs G => ?_)
    exact gx_iret (wf := gw0_ cI cZ h q) (u1 := (pd_raise u (100 + (pj_floorMod_7cf53 (u.2 6 (ix p0)) 100))).2) hx hb hr hlocks hsz hK hAe G dX0_perform_181 (by unfold pd_perform; rw [if_neg c_26_0, if_neg c_26_1, if_neg c_26_2, if_neg c_26_3, if_neg c_26_4, if_neg c_26_5, if_neg c_26_6, if_neg c_26_7, if_neg c_26_8, if_neg c_26_9, if_neg c_26_10, if_pos c_26_11])
  by_cases c_26_12 : u.2 5 (ix p0) = 12
  · refine lv_tableIn (tgt := 182) hx hb dX0_perform_26 (by rw [c_26_12]; decide) (by rw [c_26_12]; decide) (by rw [c_26_12]; rfl) (by decide) ?_
    refine lv_aload_n hx hb dX0_perform_182 rfl (lv_at hl 3 rfl) ?_
    refine lv_iload hx hb dX0_perform_183 (lv_at hl 0 rfl) ?_
    refine gx_calli (wf := gw0_ cI cZ h q) (u := u) (f := pd_start u (pj_floorMod_7cf53 (u.2 6 (ix p0)) 4)) (As := [.int (pj_floorMod_7cf53 (u.2 6 (ix p0)) 4)]) (rest := []) 1 hx hb hml hown hts hK hA G rfl rfl (kd_start l dC dI cI cZ h q _ u (pj_floorMod_7cf53 (u.2 6 (ix p0)) 4) (fm_in4 _)) gX0_perform_X0_start rfl rfl rfl hd_X0_start ⟨Nat.le_of_ble_eq_true rfl, Nat.le_of_ble_eq_true rfl⟩ rfl hl.1 rfl (Nat.le_of_ble_eq_true rfl) dX0_perform_185 (Nat.zero_le _) (Nat.zero_le _) (fun H locs G => ?_)
    exact gx_iret (wf := gw0_ cI cZ h q) (u1 := (pd_start u (pj_floorMod_7cf53 (u.2 6 (ix p0)) 4)).2) hx hb hr hlocks hsz hK hAe G dX0_perform_188 (by unfold pd_perform; rw [if_neg c_26_0, if_neg c_26_1, if_neg c_26_2, if_neg c_26_3, if_neg c_26_4, if_neg c_26_5, if_neg c_26_6, if_neg c_26_7, if_neg c_26_8, if_neg c_26_9, if_neg c_26_10, if_neg c_26_11, if_pos c_26_12])
  by_cases c_26_13 : u.2 5 (ix p0) = 13
  · refine lv_tableIn (tgt := 189) hx hb dX0_perform_26 (by rw [c_26_13]; decide) (by rw [c_26_13]; decide) (by rw [c_26_13]; rfl) (by decide) ?_
    refine lv_aload_n hx hb dX0_perform_189 rfl (lv_at hl 3 rfl) ?_
    refine gg0_get (v := .ref (q 2)) hx hb hts hin hown hK G 2 (by decide) (index := 17) (by decide +kernel) rfl dX0_perform_190 ?_
    refine lv_iload hx hb dX0_perform_193 (lv_at hl 0 rfl) ?_
    refine gg0_ld2 hx hb hK G (i := pj_floorMod_7cf53 (u.2 6 (ix p0)) 4) (fm_in4 _) dX0_perform_195 ?_
    refine gx_calls (f := pd_asNumber (u.2 2 (ix (pj_floorMod_7cf53 (u.2 6 (ix p0)) 4)))) (As := [.int (u.2 2 (ix (pj_floorMod_7cf53 (u.2 6 (ix p0)) 4)))]) (rest := []) 1 hx hb hml hown hts (kd_asNumber l (u.2 2 (ix (pj_floorMod_7cf53 (u.2 6 (ix p0)) 4))) ) gX0_perform_X0_asNumber rfl rfl rfl hd_X0_asNumber ⟨Nat.le_of_ble_eq_true rfl, Nat.le_of_ble_eq_true rfl⟩ rfl hl.1 rfl (Nat.le_of_ble_eq_true rfl) dX0_perform_196 (Nat.zero_le _) (Nat.zero_le _) ?_
    exact gx_iret (wf := gw0_ cI cZ h q) (u1 := u) hx hb hr hlocks hsz hK hAe G dX0_perform_199 (by unfold pd_perform; rw [if_neg c_26_0, if_neg c_26_1, if_neg c_26_2, if_neg c_26_3, if_neg c_26_4, if_neg c_26_5, if_neg c_26_6, if_neg c_26_7, if_neg c_26_8, if_neg c_26_9, if_neg c_26_10, if_neg c_26_11, if_neg c_26_12, if_pos c_26_13])
  by_cases c_26_14 : u.2 5 (ix p0) = 14
  · refine lv_tableIn (tgt := 189) hx hb dX0_perform_26 (by rw [c_26_14]; decide) (by rw [c_26_14]; decide) (by rw [c_26_14]; rfl) (by decide) ?_
    refine lv_aload_n hx hb dX0_perform_189 rfl (lv_at hl 3 rfl) ?_
    refine gg0_get (v := .ref (q 2)) hx hb hts hin hown hK G 2 (by decide) (index := 17) (by decide +kernel) rfl dX0_perform_190 ?_
    refine lv_iload hx hb dX0_perform_193 (lv_at hl 0 rfl) ?_
    refine gg0_ld2 hx hb hK G (i := pj_floorMod_7cf53 (u.2 6 (ix p0)) 4) (fm_in4 _) dX0_perform_195 ?_
    refine gx_calls (f := pd_asNumber (u.2 2 (ix (pj_floorMod_7cf53 (u.2 6 (ix p0)) 4)))) (As := [.int (u.2 2 (ix (pj_floorMod_7cf53 (u.2 6 (ix p0)) 4)))]) (rest := []) 1 hx hb hml hown hts (kd_asNumber l (u.2 2 (ix (pj_floorMod_7cf53 (u.2 6 (ix p0)) 4))) ) gX0_perform_X0_asNumber rfl rfl rfl hd_X0_asNumber ⟨Nat.le_of_ble_eq_true rfl, Nat.le_of_ble_eq_true rfl⟩ rfl hl.1 rfl (Nat.le_of_ble_eq_true rfl) dX0_perform_196 (Nat.zero_le _) (Nat.zero_le _) ?_
    exact gx_iret (wf := gw0_ cI cZ h q) (u1 := u) hx hb hr hlocks hsz hK hAe G dX0_perform_199 (by unfold pd_perform; rw [if_neg c_26_0, if_neg c_26_1, if_neg c_26_2, if_neg c_26_3, if_neg c_26_4, if_neg c_26_5, if_neg c_26_6, if_neg c_26_7, if_neg c_26_8, if_neg c_26_9, if_neg c_26_10, if_neg c_26_11, if_neg c_26_12, if_neg c_26_13, if_pos c_26_14])
  by_cases c_26_15 : u.2 5 (ix p0) = 15
  · refine lv_tableIn (tgt := 200) hx hb dX0_perform_26 (by rw [c_26_15]; decide) (by rw [c_26_15]; decide) (by rw [c_26_15]; rfl) (by decide) ?_
    refine lv_aload_n hx hb dX0_perform_200 rfl (lv_at hl 3 rfl) ?_
    refine lv_dup hx hb dX0_perform_201 rfl ?_
    refine gg0_get (v := .int (u.1 3)) hx hb hts hin hown hK G 3 (by decide) (index := 21) (by decide +kernel) rfl dX0_perform_202 ?_
    refine lv_iload_n hx hb dX0_perform_205 rfl (lv_at hl 2 rfl) ?_
    refine lv_iadd hx hb dX0_perform_206 ?_
    refine gg0_put3 (v := (u.1 3) + (u.2 6 (ix p0))) hx hb hts hin hown hK G (index := 21) (by decide +kernel) dX0_perform_207 (fun H locs G => ?_)
    refine lv_aload_n hx hb dX0_perform_210 rfl (lv_at hl 3 rfl) ?_
    refine gg0_get (v := .int ((u.1 3) + (u.2 6 (ix p0)))) hx hb hts hin hown hK G 3 (by decide) (index := 21) (by decide +kernel) rfl dX0_perform_211 ?_
    exact gx_iret (wf := gw0_ cI cZ h q) (u1 := st_si u 3 ((u.1 3) + (u.2 6 (ix p0)))) hx hb hr hlocks hsz hK hAe G dX0_perform_214 (by unfold pd_perform; rw [if_neg c_26_0, if_neg c_26_1, if_neg c_26_2, if_neg c_26_3, if_neg c_26_4, if_neg c_26_5, if_neg c_26_6, if_neg c_26_7, if_neg c_26_8, if_neg c_26_9, if_neg c_26_10, if_neg c_26_11, if_neg c_26_12, if_neg c_26_13, if_neg c_26_14, if_pos c_26_15])
  refine lv_tableOut (tgt := 215) hx hb dX0_perform_26 (by have z := (u.2 5 (ix p0)).toInt; have z0 := lv_neT c_26_0 (a := 0) (by decide); have z1 := lv_neT c_26_1 (a := 1) (by decide); have z2 := lv_neT c_26_2 (a := 2) (by decide); have z3 := lv_neT c_26_3 (a := 3) (by decide); have z4 := lv_neT c_26_4 (a := 4) (by decide); have z5 := lv_neT c_26_5 (a := 5) (by decide); have z6 := lv_neT c_26_6 (a := 6) (by decide); have z7 := lv_neT c_26_7 (a := 7) (by decide); have z8 := lv_neT c_26_8 (a := 8) (by decide); have z9 := lv_neT c_26_9 (a := 9) (by decide); have z10 := lv_neT c_26_10 (a := 10) (by decide); have z11 := lv_neT c_26_11 (a := 11) (by decide); have z12 := lv_neT c_26_12 (a := 12) (by decide); have z13 := lv_neT c_26_13 (a := 13) (by decide); have z14 := lv_neT c_26_14 (a := 14) (by decide); have z15 := lv_neT c_26_15 (a := 15) (by decide); omega) (by decide) ?_
  refine lv_iconst (v := 0) hx hb dX0_perform_215 (by decide) ?_
  exact gx_iret (wf := gw0_ cI cZ h q) (u1 := u) hx hb hr hlocks hsz hK hAe G dX0_perform_216 (by unfold pd_perform; rw [if_neg c_26_0, if_neg c_26_1, if_neg c_26_2, if_neg c_26_3, if_neg c_26_4, if_neg c_26_5, if_neg c_26_6, if_neg c_26_7, if_neg c_26_8, if_neg c_26_9, if_neg c_26_10, if_neg c_26_11, if_neg c_26_12, if_neg c_26_13, if_neg c_26_14, if_neg c_26_15])
theorem hd_X0_perform : yX0_perform.cls = RX0 ∧ yX0_perform.cls ≠ "java/lang/invoke/MethodHandle" ∧ yX0_perform.cls ≠ "java/lang/invoke/VarHandle" ∧ (parseMethodDescriptor yX0_perform.desc).map (fun d => d.parameters.length) = some 1 := by decide +kernel
def pd_lb : Nat → st_T → Int32 → Int32 → Int32 × st_T
  | 0, u, b, _ => (b, u)
  | n + 1, u, b, k => if k ≤ 0 then (b, u) else if pd_isEnter u b = 0 then (b, u) else pd_lb n (pd_giveBack u b).2 ((pd_giveBack u b).2.2 7 (ix b)) (k + (-1))
def pd_lt (u : st_T) (b : Int32) : st_T := if b = -1 then st_si (st_si u 13 (u.1 15)) 16 (u.1 9) else st_si (st_sa u 12 (ix b) (u.1 15)) 16 (u.2 8 (ix b) + 1)
def pd_leaveBlocks (u : st_T) (p0 : Int32) : st_T := pd_lt (pd_lb 9 u (u.2 7 (ix p0)) 8).2 (pd_lb 9 u (u.2 7 (ix p0)) 8).1
theorem pd_lb_s (n : Nat) (u : st_T) (b k : Int32) : pd_lb (n + 1) u b k = if k ≤ 0 then (b, u) else if pd_isEnter u b = 0 then (b, u) else pd_lb n (pd_giveBack u b).2 ((pd_giveBack u b).2.2 7 (ix b)) (k + (-1)) := rfl
theorem ie_in {u : st_T} {b : Int32} (h : b = -1 ∨ vp_in b 24) (h2 : ¬ pd_isEnter u b = 0) : vp_in b 24 := by
  rcases h with rfl | h
  · exact absurd (by unfold pd_isEnter; rw [if_pos rfl]) h2
  · exact h
set_option maxHeartbeats 4000000 in
set_option maxRecDepth 100000 in
theorem kd_leaveBlocks (l : Launch) (dC : Nat → ClassId) (dI : Nat → Nat → Nat) (cI cZ : ClassId) (h : Nat) (q : Nat → Nat) (sz : Nat) (u : st_T) (p0 : Int32) (hp0 : vp_in p0 24) (har : ∀ j : Nat, j < 24 → u.2 7 j = -1 ∨ vp_in (u.2 7 j) 24) : gx_Mv l yX0_leaveBlocks wsX0_leaveBlocks { frames := 2, cells := 0, slots := 0, locals := 44 } [.ref h, .int p0] (dC, dI) cI cZ (gw0_ cI cZ h q) u sz (pd_leaveBlocks u p0) := by
  refine gx_met (cc := cX0_leaveBlocks) (maxL := 4) (ret := none) (by decide +kernel) rfl (Nat.le_of_ble_eq_true rfl) (fun p e s m args below meth c A ls hsz hx hb hr hlocks hts hown hml hK hAe hA G hl => ?_)
  have hown : s.vm.findClass RX0 = some m.cls := hown
  have hin : ∀ w ∈ wsX00, w ∈ wsX0_leaveBlocks := gx_in
  have hl : lv_has ls 4 [(0, .ref h), (1, .int p0)] := hl
  have tail : ∀ (v : st_T) (b k : Int32), pd_lb 9 u (u.2 7 (ix p0)) 8 = (b, v) → (b = -1 ∨ vp_in b 24) → ∀ (H : Heap) (locs : List Loc) (ls : Array Slot), gx_ (dC, dI) A s.heap H locs (gw0_ cI cZ h q v) → lv_has ls 4 [(3, .int k), (2, .int b), (0, .ref h), (1, .int p0)] → W p l e { frames := 2, cells := 0, slots := 0, locals := 44 } s m args below meth c H locs 0 0 (MQ below (va_Qv (fun u1 => u1 = pd_leaveBlocks u p0) (gx_O (dC, dI) cI cZ (gw0_ cI cZ h q) (gw0_ cI cZ h q u) sz) (va_A (gw0_ cI cZ h q u) sz)) args s 0 0 (va_A (gw0_ cI cZ h q u) sz)) (F0 m 41 ls []) := by
    intro v b k hf hb2 H locs ls G hl
    have hf : (b, v) = pd_lb 9 u (u.2 7 (ix p0)) 8 := hf.symm
    refine lv_iload_n hx hb dX0_leaveBlocks_41 rfl (lv_at hl 1 rfl) ?_
    refine lv_iconst (v := (-1)) hx hb dX0_leaveBlocks_42 (by decide) ?_
    refine lv_icmp_ne (tgt := 65) hx hb dX0_leaveBlocks_43 (by decide) (fun c_43 => ?_) (fun c_43 => ?_)
    · refine lv_aload_n hx hb dX0_leaveBlocks_65 rfl (lv_at hl 2 rfl) ?_
      refine gg0_get (v := .ref (q 12)) hx hb hts hin hown hK G 12 (by decide) (index := 49) (by decide +kernel) rfl dX0_leaveBlocks_66 ?_
      refine lv_iload_n hx hb dX0_leaveBlocks_69 rfl (lv_at hl 1 rfl) ?_
      refine lv_aload_n hx hb dX0_leaveBlocks_70 rfl (lv_at hl 2 rfl) ?_
      refine gg0_get (v := .int (v.1 15)) hx hb hts hin hown hK G 15 (by decide) (index := 58) (by decide +kernel) rfl dX0_leaveBlocks_71 ?_
      refine gg0_st12 hx hb hK G (i := b) (x := v.1 15) (hb2.resolve_left c_43) dX0_leaveBlocks_74 (fun H locs G => ?_)
      refine lv_aload_n hx hb dX0_leaveBlocks_75 rfl (lv_at hl 2 rfl) ?_
      refine lv_aload_n hx hb dX0_leaveBlocks_76 rfl (lv_at hl 2 rfl) ?_
      refine gg0_get (v := .ref (q 8)) hx hb hts hin hown hK G 8 (by decide) (index := 37) (by decide +kernel) rfl dX0_leaveBlocks_77 ?_
      refine lv_iload_n hx hb dX0_leaveBlocks_80 rfl (lv_at hl 1 rfl) ?_
      refine gg0_ld8 hx hb hK G (i := b) (hb2.resolve_left c_43) dX0_leaveBlocks_81 ?_
      refine gx_is (y := v.2 8 (ix b)) (congrFun (st_sa_2 _ _ _ (by decide)) _) ?_
      refine lv_iconst (v := 1) hx hb dX0_leaveBlocks_82 (by decide) ?_
      refine lv_iadd hx hb dX0_leaveBlocks_83 ?_
      refine gg0_put16 (v := (v.2 8 (ix b)) + 1) hx hb hts hin hown hK G (index := 61) (by decide +kernel) dX0_leaveBlocks_84 (fun H locs G => ?_)
      exact gx_vret (wf := gw0_ cI cZ h q) (u1 := st_si (st_sa v 12 (ix b) (v.1 15)) 16 ((v.2 8 (ix b)) + 1)) hx hb hr hlocks hsz hK hAe G dX0_leaveBlocks_87 (by unfold pd_leaveBlocks; rw [← hf]; unfold pd_lt; rw [if_neg c_43])
    · refine lv_aload_n hx hb dX0_leaveBlocks_46 rfl (lv_at hl 2 rfl) ?_
      refine lv_aload_n hx hb dX0_leaveBlocks_47 rfl (lv_at hl 2 rfl) ?_
      refine gg0_get (v := .int (v.1 15)) hx hb hts hin hown hK G 15 (by decide) (index := 58) (by decide +kernel) rfl dX0_leaveBlocks_48 ?_
      refine gg0_put13 (v := v.1 15) hx hb hts hin hown hK G (index := 52) (by decide +kernel) dX0_leaveBlocks_51 (fun H locs G => ?_)
      refine lv_aload_n hx hb dX0_leaveBlocks_54 rfl (lv_at hl 2 rfl) ?_
      refine lv_aload_n hx hb dX0_leaveBlocks_55 rfl (lv_at hl 2 rfl) ?_
      refine gg0_get (v := .int (v.1 9)) hx hb hts hin hown hK G 9 (by decide) (index := 40) (by decide +kernel) rfl dX0_leaveBlocks_56 ?_
      refine gg0_put16 (v := v.1 9) hx hb hts hin hown hK G (index := 61) (by decide +kernel) dX0_leaveBlocks_59 (fun H locs G => ?_)
      refine lv_goto (tgt := 87) hx hb dX0_leaveBlocks_62 (by decide) ?_
      exact gx_vret (wf := gw0_ cI cZ h q) (u1 := st_si (st_si v 13 (v.1 15)) 16 (v.1 9)) hx hb hr hlocks hsz hK hAe G dX0_leaveBlocks_87 (by unfold pd_leaveBlocks; rw [← hf]; unfold pd_lt; rw [if_pos c_43])
  have loop : ∀ (n : Nat) (v : st_T) (b k : Int32), 0 ≤ k.toInt → k.toInt < 100 → k.toInt < n → pd_lb 9 u (u.2 7 (ix p0)) 8 = pd_lb n v b k → v.2 7 = u.2 7 → (b = -1 ∨ vp_in b 24) → ∀ (H : Heap) (locs : List Loc) (ls : Array Slot), gx_ (dC, dI) A s.heap H locs (gw0_ cI cZ h q v) → lv_has ls 4 [(3, .int k), (2, .int b), (0, .ref h), (1, .int p0)] → W p l e { frames := 2, cells := 0, slots := 0, locals := 44 } s m args below meth c H locs 0 0 (MQ below (va_Qv (fun u1 => u1 = pd_leaveBlocks u p0) (gx_O (dC, dI) cI cZ (gw0_ cI cZ h q) (gw0_ cI cZ h q u) sz) (va_A (gw0_ cI cZ h q u) sz)) args s 0 0 (va_A (gw0_ cI cZ h q u) sz)) (F0 m 10 ls []) := by
    intro n
    induction n with
    | zero => intro v b k h1 h1b h2; exact absurd h2 (by omega)
    | succ n ih =>
      intro v b k hk0 hk1 hkn hf hv7 hb1 H locs ls G hl
      rw [pd_lb_s n v b k] at hf
      refine lv_iload_n hx hb dX0_leaveBlocks_10 rfl (lv_at hl 0 rfl) ?_
      refine lv_if_le (tgt := 41) hx hb dX0_leaveBlocks_11 (by decide) (fun c_11 => ?_) (fun c_11 => ?_)
      · exact tail v b k (by rw [hf, if_pos c_11]) hb1 H locs ls G (lv_sub hl [0, 1, 2, 3] rfl)
      · refine lv_aload_n hx hb dX0_leaveBlocks_14 rfl (lv_at hl 2 rfl) ?_
        refine lv_iload_n hx hb dX0_leaveBlocks_15 rfl (lv_at hl 1 rfl) ?_
        refine gx_callr (wf := gw0_ cI cZ h q) (u := v) (f := pd_isEnter v b) (As := [.int b]) (rest := []) 1 hx hb hml hown hts hK hA G rfl rfl (kd_isEnter l dC dI cI cZ h q _ v b hb1) gX0_leaveBlocks_X0_isEnter rfl rfl rfl hd_X0_isEnter ⟨Nat.le_of_ble_eq_true rfl, Nat.le_of_ble_eq_true rfl⟩ rfl hl.1 rfl (Nat.le_of_ble_eq_true rfl) dX0_leaveBlocks_16 (Nat.zero_le _) (Nat.zero_le _) (fun H locs G => ?_)
        refine lv_if_eq (tgt := 41) hx hb dX0_leaveBlocks_19 (by decide) (fun c_19 => ?_) (fun c_19 => ?_)
        · exact tail v b k (by rw [hf, if_neg c_11, if_pos c_19]) hb1 H locs ls G (lv_sub hl [0, 1, 2, 3] rfl)
        · refine lv_aload_n hx hb dX0_leaveBlocks_22 rfl (lv_at hl 2 rfl) ?_
          refine lv_iload_n hx hb dX0_leaveBlocks_23 rfl (lv_at hl 1 rfl) ?_
          refine gx_calli (wf := gw0_ cI cZ h q) (u := v) (f := pd_giveBack v b) (As := [.int b]) (rest := []) 1 hx hb hml hown hts hK hA G rfl rfl (kd_giveBack l dC dI cI cZ h q _ v b (ie_in hb1 c_19)) gX0_leaveBlocks_X0_giveBack rfl rfl rfl hd_X0_giveBack ⟨Nat.le_of_ble_eq_true rfl, Nat.le_of_ble_eq_true rfl⟩ rfl hl.1 rfl (Nat.le_of_ble_eq_true rfl) dX0_leaveBlocks_24 (Nat.zero_le _) (Nat.zero_le _) (fun H locs G => ?_)
          refine lv_pop hx hb dX0_leaveBlocks_27 rfl ?_
          refine lv_aload_n hx hb dX0_leaveBlocks_28 rfl (lv_at hl 2 rfl) ?_
          refine gg0_get (v := .ref (q 7)) hx hb hts hin hown hK G 7 (by decide) (index := 34) (by decide +kernel) rfl dX0_leaveBlocks_29 ?_
          refine lv_iload_n hx hb dX0_leaveBlocks_32 rfl (lv_at hl 1 rfl) ?_
          refine gg0_ld7 hx hb hK G (i := b) (ie_in hb1 c_19) dX0_leaveBlocks_33 ?_
          refine lv_istore_n (lv' := [(2, .int (((pd_giveBack v b).2).2 7 (ix b))), (3, .int k), (0, .ref h), (1, .int p0)]) hx hb dX0_leaveBlocks_34 rfl hl (by decide) rfl (fun ls hl => ?_)
          refine lv_iinc (v := k + (-1)) (lv' := [(3, .int (k + (-1))), (2, .int (((pd_giveBack v b).2).2 7 (ix b))), (0, .ref h), (1, .int p0)]) hx hb dX0_leaveBlocks_35 hl (k := 1) rfl (congrArg (fun z => k + z) (by decide)) (by decide) rfl (fun ls hl => ?_)
          refine lv_goto (tgt := 10) hx hb dX0_leaveBlocks_38 (by decide) ?_
          have q4 := c_11
          rw [Int32.le_iff_toInt_le, Int32.toInt_zero] at q4
          have q5 : (k + (-1)).toInt = k.toInt - 1 := by
            rw [Jvm.Kit.i32_add (by simp; omega) (by simp; omega)]; simp; omega
          have hbi := ie_in hb1 c_19
          exact ih (pd_giveBack v b).2 ((pd_giveBack v b).2.2 7 (ix b)) (k + (-1)) (by omega) (by omega) (by omega) (by rw [hf, if_neg c_11, if_neg c_19]) hv7 (by show v.2 7 (ix b) = -1 ∨ vp_in (v.2 7 (ix b)) 24; rw [hv7]; exact har _ (by have z := vp_in_iff.mp hbi; show b.toInt.toNat < 24; omega)) H locs ls G (lv_sub hl [0, 1, 2, 3] rfl)
  refine lv_aload_n hx hb dX0_leaveBlocks_0 rfl (lv_at hl 0 rfl) ?_
  refine gg0_get (v := .ref (q 7)) hx hb hts hin hown hK G 7 (by decide) (index := 34) (by decide +kernel) rfl dX0_leaveBlocks_1 ?_
  refine lv_iload_n hx hb dX0_leaveBlocks_4 rfl (lv_at hl 1 rfl) ?_
  refine gg0_ld7 hx hb hK G (i := p0) hp0 dX0_leaveBlocks_5 ?_
  refine lv_istore_n (lv' := [(2, .int (u.2 7 (ix p0))), (0, .ref h), (1, .int p0)]) hx hb dX0_leaveBlocks_6 rfl hl (by decide) rfl (fun ls hl => ?_)
  refine lv_bipush (v := 8) hx hb dX0_leaveBlocks_7 (by decide) ?_
  refine lv_istore_n (lv' := [(3, .int 8), (2, .int (u.2 7 (ix p0))), (0, .ref h), (1, .int p0)]) hx hb dX0_leaveBlocks_9 rfl hl (by decide) rfl (fun ls hl => ?_)
  exact loop 9 u _ 8 (by decide) (by decide) (by decide) rfl rfl (har _ (by have z := vp_in_iff.mp hp0; show p0.toInt.toNat < 24; omega)) _ _ ls G hl
theorem hd_X0_leaveBlocks : yX0_leaveBlocks.cls = RX0 ∧ yX0_leaveBlocks.cls ≠ "java/lang/invoke/MethodHandle" ∧ yX0_leaveBlocks.cls ≠ "java/lang/invoke/VarHandle" ∧ (parseMethodDescriptor yX0_leaveBlocks.desc).map (fun d => d.parameters.length) = some 1 := by decide +kernel
def pd_doStep (u : st_T) (p0 : Int32) : st_T :=
  if ((pd_perform (st_si u 15 0) p0).2).1 15 = 0 then
    st_sa ((pd_perform (st_si u 15 0) p0).2) 12 (ix p0) ((pd_perform (st_si u 15 0) p0).1)
  else
    pd_leaveBlocks (st_sa ((pd_perform (st_si u 15 0) p0).2) 12 (ix p0) ((((pd_perform (st_si u 15 0) p0).2).1 15) + (-1000))) p0
set_option maxHeartbeats 4000000 in
set_option maxRecDepth 100000 in
theorem kd_doStep (l : Launch) (dC : Nat → ClassId) (dI : Nat → Nat → Nat) (cI cZ : ClassId) (h : Nat) (q : Nat → Nat) (sz : Nat) (u : st_T) (p0 : Int32) (hp0 : vp_in p0 24) (hfl : u.1 4 = 0 ∨ u.1 4 = 1) (har : u.2 7 (ix p0) = -1 ∨ vp_in (u.2 7 (ix p0)) 24) (har2 : ∀ j : Nat, j < 24 → (pd_perform (st_si u 15 0) p0).2.2 7 j = -1 ∨ vp_in ((pd_perform (st_si u 15 0) p0).2.2 7 j) 24) : gx_Mv l yX0_doStep wsX0_doStep { frames := 4, cells := 0, slots := 0, locals := 89 } [.ref h, .int p0] (dC, dI) cI cZ (gw0_ cI cZ h q) u sz (pd_doStep u p0) := by
  refine gx_met (cc := cX0_doStep) (maxL := 3) (ret := none) (by decide +kernel) rfl (Nat.le_of_ble_eq_true rfl) (fun p e s m args below meth c A ls hsz hx hb hr hlocks hts hown hml hK hAe hA G hl => ?_)
  have hown : s.vm.findClass RX0 = some m.cls := hown
  have hin : ∀ w ∈ wsX00, w ∈ wsX0_doStep := gx_in
  have hl : lv_has ls 3 [(0, .ref h), (1, .int p0)] := hl
  refine lv_aload_n hx hb dX0_doStep_0 rfl (lv_at hl 0 rfl) ?_
  refine lv_iconst (v := 0) hx hb dX0_doStep_1 (by decide) ?_
  refine gg0_put15 (v := 0) hx hb hts hin hown hK G (index := 58) (by decide +kernel) dX0_doStep_2 (fun H locs G => ?_)
  refine lv_aload_n hx hb dX0_doStep_5 rfl (lv_at hl 0 rfl) ?_
  refine lv_iload_n hx hb dX0_doStep_6 rfl (lv_at hl 1 rfl) ?_
  refine gx_calli (wf := gw0_ cI cZ h q) (u := st_si u 15 0) (f := pd_perform (st_si u 15 0) p0) (As := [.int p0]) (rest := []) 1 hx hb hml hown hts hK hA G rfl rfl (kd_perform l dC dI cI cZ h q _ (st_si u 15 0) p0 hp0 hfl har) gX0_doStep_X0_perform rfl rfl rfl hd_X0_perform ⟨Nat.le_of_ble_eq_true rfl, Nat.le_of_ble_eq_true rfl⟩ rfl hl.1 rfl (Nat.le_of_ble_eq_true rfl) dX0_doStep_7 (Nat.zero_le _) (Nat.zero_le _) (fun H locs G => ?_)
  refine lv_istore_n (lv' := [(2, .int ((pd_perform (st_si u 15 0) p0).1)), (0, .ref h), (1, .int p0)]) hx hb dX0_doStep_10 rfl hl (by decide) rfl (fun ls hl => ?_)
  refine lv_aload_n hx hb dX0_doStep_11 rfl (lv_at hl 1 rfl) ?_
  refine gg0_get (v := .int (((pd_perform (st_si u 15 0) p0).2).1 15)) hx hb hts hin hown hK G 15 (by decide) (index := 58) (by decide +kernel) rfl dX0_doStep_12 ?_
  refine lv_if_ne (tgt := 28) hx hb dX0_doStep_15 (by decide) (fun c_15 => ?_) (fun c_15 => ?_)
  · refine lv_aload_n hx hb dX0_doStep_28 rfl (lv_at hl 1 rfl) ?_
    refine gg0_get (v := .ref (q 12)) hx hb hts hin hown hK G 12 (by decide) (index := 49) (by decide +kernel) rfl dX0_doStep_29 ?_
    refine lv_iload_n hx hb dX0_doStep_32 rfl (lv_at hl 2 rfl) ?_
    refine lv_aload_n hx hb dX0_doStep_33 rfl (lv_at hl 1 rfl) ?_
    refine gg0_get (v := .int (((pd_perform (st_si u 15 0) p0).2).1 15)) hx hb hts hin hown hK G 15 (by decide) (index := 58) (by decide +kernel) rfl dX0_doStep_34 ?_
    refine lv_sipush (v := (-1000)) hx hb dX0_doStep_37 (by decide) ?_
    refine lv_iadd hx hb dX0_doStep_40 ?_
    refine gg0_st12 hx hb hK G (i := p0) (x := (((pd_perform (st_si u 15 0) p0).2).1 15) + (-1000)) hp0 dX0_doStep_41 (fun H locs G => ?_)
    refine lv_aload_n hx hb dX0_doStep_42 rfl (lv_at hl 1 rfl) ?_
    refine lv_iload_n hx hb dX0_doStep_43 rfl (lv_at hl 2 rfl) ?_
    refine gx_callv (wf := gw0_ cI cZ h q) (u := st_sa ((pd_perform (st_si u 15 0) p0).2) 12 (ix p0) ((((pd_perform (st_si u 15 0) p0).2).1 15) + (-1000))) (f := pd_leaveBlocks (st_sa ((pd_perform (st_si u 15 0) p0).2) 12 (ix p0) ((((pd_perform (st_si u 15 0) p0).2).1 15) + (-1000))) p0) (As := [.int p0]) (rest := []) 1 hx hb hml hown hts hK hA G rfl rfl (kd_leaveBlocks l dC dI cI cZ h q _ (st_sa ((pd_perform (st_si u 15 0) p0).2) 12 (ix p0) ((((pd_perform (st_si u 15 0) p0).2).1 15) + (-1000))) p0 hp0 har2) gX0_doStep_X0_leaveBlocks rfl rfl rfl hd_X0_leaveBlocks ⟨Nat.le_of_ble_eq_true rfl, Nat.le_of_ble_eq_true rfl⟩ rfl hl.1 rfl (Nat.le_of_ble_eq_true rfl) dX0_doStep_44 (Nat.zero_le _) (Nat.zero_le _) (fun H locs G => ?_)
    exact gx_vret (wf := gw0_ cI cZ h q) (u1 := pd_leaveBlocks (st_sa ((pd_perform (st_si u 15 0) p0).2) 12 (ix p0) ((((pd_perform (st_si u 15 0) p0).2).1 15) + (-1000))) p0) hx hb hr hlocks hsz hK hAe G dX0_doStep_47 (by unfold pd_doStep; rw [if_neg c_15])
  · refine lv_aload_n hx hb dX0_doStep_18 rfl (lv_at hl 1 rfl) ?_
    refine gg0_get (v := .ref (q 12)) hx hb hts hin hown hK G 12 (by decide) (index := 49) (by decide +kernel) rfl dX0_doStep_19 ?_
    refine lv_iload_n hx hb dX0_doStep_22 rfl (lv_at hl 2 rfl) ?_
    refine lv_iload_n hx hb dX0_doStep_23 rfl (lv_at hl 0 rfl) ?_
    refine gg0_st12 hx hb hK G (i := p0) (x := (pd_perform (st_si u 15 0) p0).1) hp0 dX0_doStep_24 (fun H locs G => ?_)
    refine lv_goto (tgt := 47) hx hb dX0_doStep_25 (by decide) ?_
    exact gx_vret (wf := gw0_ cI cZ h q) (u1 := st_sa ((pd_perform (st_si u 15 0) p0).2) 12 (ix p0) ((pd_perform (st_si u 15 0) p0).1)) hx hb hr hlocks hsz hK hAe G dX0_doStep_47 (by unfold pd_doStep; rw [if_pos c_15])
theorem hd_X0_doStep : yX0_doStep.cls = RX0 ∧ yX0_doStep.cls ≠ "java/lang/invoke/MethodHandle" ∧ yX0_doStep.cls ≠ "java/lang/invoke/VarHandle" ∧ (parseMethodDescriptor yX0_doStep.desc).map (fun d => d.parameters.length) = some 1 := by decide +kernel
end
section
/-! Arrays.fill, and the class's run -/
theorem pj_fill_0 (v : Int32) (f : Nat → Int32) : pj_fill 0 v f = f := funext fun j => if_neg (Nat.not_lt_zero j)
theorem pj_fill_s {i : Nat} (hi : i < 2 ^ 31) (v : Int32) (f : Nat → Int32) : upd (pj_fill i v f) (ix (nI i)) v = pj_fill (i + 1) v f := by
  funext j
  have e : ix (nI i) = i := nI_clamp hi
  rw [e]
  unfold upd pj_fill
  by_cases h1 : j = i
  · rw [if_pos h1, if_pos (by omega)]
  · rw [if_neg h1]
    by_cases h2 : j < i
    · rw [if_pos h2, if_pos (by omega)]
    · rw [if_neg h2, if_neg (by omega)]
set_option maxHeartbeats 4000000 in
set_option maxRecDepth 100000 in
theorem kj_fill (l : Launch) (dC : Nat → ClassId) (dI : Nat → Nat → Nat) (cI cZ : ClassId) (a n sz : Nat) (hn : n < 2 ^ 31) (f : Nat → Int32) (v : Int32) : gx_Mv l yJ7_fill_53178 wsJ7_fill_53178 { frames := 0, cells := 0, slots := 0, locals := 0 } [.ref a, .int v] (dC, dI) cI cZ (fun f : Nat → Int32 => [(a, .inl (cI, n, .inl f))]) f sz (pj_fill n v f) := by
  refine gx_met (cc := cJ7_fill_53178) (maxL := 4) (ret := none) (by decide +kernel) rfl (Nat.le_of_ble_eq_true rfl) (fun p e s m args below meth c A ls hsz hx hb hr hlocks hts hown hml hK hAe hA G hl => ?_)
  have hl : lv_has ls 4 [(0, .ref a), (1, .int v)] := hl
  have loop : ∀ (k i : Nat), i ≤ n → n - i < k → ∀ (H : Heap) (locs : List Loc) (ls : Array Slot), gx_ (dC, dI) A s.heap H locs [(a, .inl (cI, n, .inl (pj_fill i v f)))] → lv_has ls 4 [(2, .int (nI i)), (3, .int (nI n)), (0, .ref a), (1, .int v)] → W p l e { frames := 0, cells := 0, slots := 0, locals := 0 } s m args below meth c H locs 0 0 (MQ below (va_Qv (fun u1 => u1 = pj_fill n v f) (gx_O (dC, dI) cI cZ (fun f : Nat → Int32 => [(a, .inl (cI, n, .inl f))]) [(a, .inl (cI, n, .inl f))] sz) (va_A [(a, .inl (cI, n, .inl f))] sz)) args s 0 0 (va_A [(a, .inl (cI, n, .inl f))] sz)) (F0 m 5 ls []) := by
    intro k
    induction k with
    | zero => intro i h1 h2; exact absurd h2 (Nat.not_lt_zero _)
    | succ k ih =>
      intro i h1 h2 H locs ls G hl
      refine lv_iload_n hx hb dJ7_fill_53178_5 rfl (lv_at hl 0 rfl) ?_
      refine lv_iload_n hx hb dJ7_fill_53178_6 rfl (lv_at hl 1 rfl) ?_
      refine lv_icmp_ge (tgt := 20) hx hb dJ7_fill_53178_7 (by decide) (fun c_7 => ?_) (fun c_7 => ?_)
      · have e : i = n := by
          rw [nI_leI hn (by omega)] at c_7
          omega
        subst e
        exact gx_vret (wf := fun f : Nat → Int32 => [(a, .inl (cI, i, .inl f))]) (u1 := pj_fill i v f) hx hb hr hlocks hsz hK hAe G dJ7_fill_53178_20 rfl
      · have e : i < n := by
          rw [nI_leI hn (by omega)] at c_7
          omega
        refine lv_aload_n hx hb dJ7_fill_53178_10 rfl (lv_at hl 2 rfl) ?_
        refine lv_iload_n hx hb dJ7_fill_53178_11 rfl (lv_at hl 0 rfl) ?_
        refine lv_iload_n hx hb dJ7_fill_53178_12 rfl (lv_at hl 3 rfl) ?_
        refine va_iast hx hb hK G.1 G.2.1 G.2.2 0 0 (n := n) (f := pj_fill i v f) rfl rfl (vp_in_nI e hn) dJ7_fill_53178_13 (fun H locs g1 g2 g3 => ?_)
        refine lv_iinc (v := nI (i + 1)) (lv' := [(2, .int (nI (i + 1))), (3, .int (nI n)), (0, .ref a), (1, .int v)]) hx hb dJ7_fill_53178_14 hl (k := 0) rfl (nI_1 i) (by decide) rfl (fun ls hl => ?_)
        refine lv_goto (tgt := 5) hx hb dJ7_fill_53178_17 (by decide) ?_
        have g1 : va_P (dC, dI) vwCl [(a, .inl (cI, n, .inl (upd (pj_fill i v f) (ix (nI i)) v)))] H := g1
        have g2 : va_D A [(a, .inl (cI, n, .inl (upd (pj_fill i v f) (ix (nI i)) v)))] := g2
        rw [pj_fill_s (by omega)] at g1 g2
        exact ih (i + 1) (by omega) (by omega) H locs ls ⟨g1, g2, g3⟩ hl
  refine lv_iconst (v := 0) hx hb dJ7_fill_53178_0 (by decide) ?_
  refine lv_istore_n (lv' := [(2, .int 0), (0, .ref a), (1, .int v)]) hx hb dJ7_fill_53178_1 rfl hl (by decide) rfl (fun ls hl => ?_)
  refine lv_aload_n hx hb dJ7_fill_53178_2 rfl (lv_at hl 1 rfl) ?_
  refine va_alen (v := nI n) hx hb hK G.1 0 0 rfl rfl rfl dJ7_fill_53178_3 ?_
  refine lv_istore_n (lv' := [(3, .int (nI n)), (2, .int 0), (0, .ref a), (1, .int v)]) hx hb dJ7_fill_53178_4 rfl hl (by decide) rfl (fun ls hl => ?_)
  refine loop (n + 1) 0 (Nat.zero_le _) (by omega) s.heap [] ls ?_ (by rw [nI_0]; exact lv_sub hl [1, 0, 2, 3] rfl)
  rw [pj_fill_0]
  exact G
theorem hd_J7_fill : yJ7_fill_53178.cls ≠ "java/lang/invoke/MethodHandle" ∧ yJ7_fill_53178.cls ≠ "java/lang/invoke/VarHandle" ∧ (parseMethodDescriptor yJ7_fill_53178.desc).map (fun d => d.parameters.length) = some 2 := by decide +kernel
section GXF
variable {p : Program} {l : Launch} {e : Env} {R : Room} {s : State} {m : MethodId} {args : Array Value} {below : List Frame} {meth : Method} {c : Code} {H : Heap} {locs : List Loc} {cells slots : Nat} {Q : State → Prop}
variable {cc : ByteArray} {pc : Nat} {ls : Array Slot} {rest : List Value} {dC : Nat → ClassId} {dI : Nat → Nat → Nat} {A : Nat → Prop} {H0 : Heap} {cI cZ : ClassId} {Ts : List Cond} {own : String}
theorem gx_fill {ws : va_W} {pl a n : Nat} {f : Nat → Int32} {v : Int32} {index nL : Nat} (hx : p.tables.exec = Jvm.exec) (hb : c.code = cc) (hml : c.maxLocals = nL) (hown : s.vm.findClass own = some m.cls) (hts : ∀ w ∈ Ts, w.before args s = true) (hK : va_K (dC, dI) vwCl (ty_IZ cI cZ) s) (hA : ∀ x, H0.size ≤ x → A x) (G : gx_ (dC, dI) A H0 H locs ws)
    (ha : ws[pl]? = some (a, .inl (cI, n, .inl f))) (hn : n < 2 ^ 31) (gin : GoodIn Ts (va_wsS own index yJ7_fill_53178 wsJ7_fill_53178)) (hR : 0 + 1 ≤ R.frames ∧ 8 + (4 + 11) + 0 ≤ R.locals) (hls : ls.size = nL) (hroom : (rest.map fun v => v.category).sum ≤ 8) (hdg : decode cc pc = .ok (.invokestatic index, 3)) (hcl : cells ≤ R.cells) (hsl : slots ≤ R.slots)
    (kk : ∀ (H1 : Heap) (locs1 : List Loc), gx_ (dC, dI) A H0 H1 locs1 (ws.set pl (a, .inl (cI, n, .inl (pj_fill n v f)))) → W p l e R s m args below meth c H1 locs1 cells slots Q (F0 m (pc + 3) ls rest)) : W p l e R s m args below meth c H locs cells slots Q (F0 m pc ls (.int v :: .ref a :: rest)) := by
  obtain ⟨hP, hD, hS⟩ := G
  have hPc := hP.sub (ws' := [(a, .inl (cI, n, .inl f))]) [pl] (by simp [ha])
  have hDc := hD.sub (ws' := [(a, .inl (cI, n, .inl f))]) [pl] (by simp [va_nd]) (by simp [ha])
  have hFc := va_free (wc := [(a, .inl (cI, n, .inl f))]) hD hS hA [pl] (by simp [ha])
  refine va_callv (va_runS (As := [.ref a, .int v]) (rest := rest) ⟨hx, hb, hml, hown, hts⟩ (kj_fill l dC dI cI cZ a n H.size hn f v) (va_cwS 2 hts gin rfl rfl rfl hd_J7_fill hR) ⟨gx_blind, fun U hU hW => ⟨rfl, by rw [hU], by rw [hU]; exact hPc, va_K.moved hW.alike hK, hDc.weaken (fun _ _ _ _ => trivial)⟩⟩ rfl rfl hls rfl (lv_room hroom) hdg ⟨hcl, hsl⟩) hS (fun x _ h => hFc x h) hFc (fun u1 t H1 locs1 ht hvm hw hB hz1 hk1 hS1 => ?_)
  obtain ⟨hP1, hK1, hD1⟩ := hB
  subst hw
  rw [ht] at hP1
  refine kk H1 locs1 ⟨?_, hD.set ha, hS1⟩
  have hlp := (List.getElem?_eq_some_iff.mp ha).1
  intro k x hk
  by_cases hkp : k = pl
  · subst hkp
    rw [List.getElem?_set_self hlp] at hk
    cases hk
    exact hP1 0 _ rfl
  · rw [List.getElem?_set_ne (Ne.symm hkp)] at hk
    refine (hP k x hk).kept (hk1 x.1 (hP k x hk).lt ?_)
    rintro (⟨j, e1, hj⟩ | hj)
    · cases j with
      | zero => exact hkp (hD.1 k pl x _ hk ha (by cases hj; rfl))
      | succ j => cases hj
    · exact absurd (hP k x hk).lt (by show ¬ x.1 < H.size; omega)
end GXF
def pd_rl : Nat → st_T → Int32 → Int32 → Int32 × st_T
  | 0, u, d, _ => (d, u)
  | n + 1, u, d, i => if u.1 9 ≤ i then (d, u) else if i < u.1 16 then pd_rl n u d (i + 1) else pd_rl n (pd_doStep u i) (d + 1) (i + 1)
theorem pd_rl_s (n : Nat) (u : st_T) (d i : Int32) : pd_rl (n + 1) u d i = if u.1 9 ≤ i then (d, u) else if i < u.1 16 then pd_rl n u d (i + 1) else pd_rl n (pd_doStep u i) (d + 1) (i + 1) := rfl
def pd_sok (u : st_T) (p0 : Int32) : Prop := vp_in p0 24 ∧ (u.1 4 = 0 ∨ u.1 4 = 1) ∧ (u.2 7 (ix p0) = -1 ∨ vp_in (u.2 7 (ix p0)) 24) ∧ ∀ j : Nat, j < 24 → (pd_perform (st_si u 15 0) p0).2.2 7 j = -1 ∨ vp_in ((pd_perform (st_si u 15 0) p0).2.2 7 j) 24
def pd_rok : Nat → st_T → Int32 → Prop
  | 0, _, _ => False
  | n + 1, u, i => if u.1 9 ≤ i then True else if i < u.1 16 then pd_rok n u (i + 1) else pd_sok u i ∧ pd_rok n (pd_doStep u i) (i + 1)
def pd_r0 (u : st_T) : st_T := st_si (st_si (st_sf (st_sf u 12 (pj_fill 24 (-9) (u.2 12))) 14 (pj_fill 5 0 ((st_sf u 12 (pj_fill 24 (-9) (u.2 12))).2 14))) 13 0) 16 0
def pd_run (u : st_T) : Int32 × st_T := if u.1 10 = 0 then pd_rl 25 (pd_r0 u) 0 0 else (-1, u)
set_option maxHeartbeats 4000000 in
set_option maxRecDepth 100000 in
theorem kd_run (l : Launch) (dC : Nat → ClassId) (dI : Nat → Nat → Nat) (cI cZ : ClassId) (h : Nat) (q : Nat → Nat) (sz : Nat) (u : st_T) (hok : u.1 10 = 0 → pd_rok 25 (pd_r0 u) 0) : gx_Mi l yX0_run wsX0_run { frames := 5, cells := 0, slots := 0, locals := 111 } [.ref h] (dC, dI) cI cZ (gw0_ cI cZ h q) u sz (pd_run u) := by
  refine gx_met (cc := cX0_run) (maxL := 3) (ret := (some .int)) (by decide +kernel) rfl (Nat.le_of_ble_eq_true rfl) (fun p e s m args below meth c A ls hsz hx hb hr hlocks hts hown hml hK hAe hA G hl => ?_)
  have hown : s.vm.findClass RX0 = some m.cls := hown
  have hin : ∀ w ∈ wsX00, w ∈ wsX0_run := gx_in
  have hl : lv_has ls 3 [(0, .ref h)] := hl
  have loop : ∀ (n : Nat) (v : st_T) (d i : Int32), pd_rok n v i → pd_run u = pd_rl n v d i → ∀ (H : Heap) (locs : List Loc) (ls : Array Slot), gx_ (dC, dI) A s.heap H locs (gw0_ cI cZ h q v) → lv_has ls 3 [(2, .int i), (1, .int d), (0, .ref h)] → W p l e { frames := 5, cells := 0, slots := 0, locals := 111 } s m args below meth c H locs 0 0 (MQ below (va_Qi (fun r u1 => r = (pd_run u).1 ∧ u1 = (pd_run u).2) (gx_O (dC, dI) cI cZ (gw0_ cI cZ h q) (gw0_ cI cZ h q u) sz) (va_A (gw0_ cI cZ h q u) sz)) args s 0 0 (va_A (gw0_ cI cZ h q u) sz)) (F0 m 40 ls []) := by
    intro n
    induction n with
    | zero => intro v d i h1; exact h1.elim
    | succ n ih =>
      intro v d i hok hf H locs ls G hl
      rw [pd_rl_s n v d i] at hf
      have hs : ¬ v.1 9 ≤ i → ¬ i < v.1 16 → pd_sok v i ∧ pd_rok n (pd_doStep v i) (i + 1) := by
        intro a b
        rw [pd_rok, if_neg a, if_neg b] at hok
        exact hok
      have hs2 : ¬ v.1 9 ≤ i → i < v.1 16 → pd_rok n v (i + 1) := by
        intro a b
        rw [pd_rok, if_neg a, if_pos b] at hok
        exact hok
      refine lv_iload_n hx hb dX0_run_40 rfl (lv_at hl 0 rfl) ?_
      refine lv_aload_n hx hb dX0_run_41 rfl (lv_at hl 2 rfl) ?_
      refine gg0_get (v := .int (v.1 9)) hx hb hts hin hown hK G 9 (by decide) (index := 40) (by decide +kernel) rfl dX0_run_42 ?_
      refine lv_icmp_ge (tgt := 70) hx hb dX0_run_45 (by decide) (fun c_45 => ?_) (fun c_45 => ?_)
      · refine lv_iload_n hx hb dX0_run_70 rfl (lv_at hl 1 rfl) ?_
        exact gx_iret (wf := gw0_ cI cZ h q) (u1 := v) hx hb hr hlocks hsz hK hAe G dX0_run_71 (by rw [hf, if_pos c_45])
      · refine lv_iload_n hx hb dX0_run_48 rfl (lv_at hl 0 rfl) ?_
        refine lv_aload_n hx hb dX0_run_49 rfl (lv_at hl 2 rfl) ?_
        refine gg0_get (v := .int (v.1 16)) hx hb hts hin hown hK G 16 (by decide) (index := 61) (by decide +kernel) rfl dX0_run_50 ?_
        refine lv_icmp_lt (tgt := 64) hx hb dX0_run_53 (by decide) (fun c_53 => ?_) (fun c_53 => ?_)
        · refine lv_iinc (v := i + 1) (lv' := [(2, .int (i + 1)), (1, .int d), (0, .ref h)]) hx hb dX0_run_64 hl (k := 0) rfl (congrArg (fun z => i + z) (by decide)) (by decide) rfl (fun ls hl => ?_)
          refine lv_goto (tgt := 40) hx hb dX0_run_67 (by decide) ?_
          exact ih v d (i + 1) (hs2 c_45 c_53) (by rw [hf, if_neg c_45, if_pos c_53]) H locs ls G (lv_sub hl [0, 1, 2] rfl)
        · refine lv_aload_n hx hb dX0_run_56 rfl (lv_at hl 2 rfl) ?_
          refine lv_iload_n hx hb dX0_run_57 rfl (lv_at hl 0 rfl) ?_
          refine gx_callv (wf := gw0_ cI cZ h q) (u := v) (f := pd_doStep v i) (As := [.int i]) (rest := []) 1 hx hb hml hown hts hK hA G rfl rfl (kd_doStep l dC dI cI cZ h q _ v i (hs c_45 c_53).1.1 (hs c_45 c_53).1.2.1 (hs c_45 c_53).1.2.2.1 (hs c_45 c_53).1.2.2.2) gX0_run_X0_doStep rfl rfl rfl hd_X0_doStep ⟨Nat.le_of_ble_eq_true rfl, Nat.le_of_ble_eq_true rfl⟩ rfl hl.1 rfl (Nat.le_of_ble_eq_true rfl) dX0_run_58 (Nat.zero_le _) (Nat.zero_le _) (fun H locs G => ?_)
          refine lv_iinc (v := d + 1) (lv' := [(1, .int (d + 1)), (2, .int i), (0, .ref h)]) hx hb dX0_run_61 hl (k := 1) rfl (congrArg (fun z => d + z) (by decide)) (by decide) rfl (fun ls hl => ?_)
          refine lv_iinc (v := i + 1) (lv' := [(2, .int (i + 1)), (1, .int (d + 1)), (0, .ref h)]) hx hb dX0_run_64 hl (k := 1) rfl (congrArg (fun z => i + z) (by decide)) (by decide) rfl (fun ls hl => ?_)
          refine lv_goto (tgt := 40) hx hb dX0_run_67 (by decide) ?_
          exact ih (pd_doStep v i) (d + 1) (i + 1) (hs c_45 c_53).2 (by rw [hf, if_neg c_45, if_neg c_53]) H locs ls G (lv_sub hl [0, 1, 2] rfl)
  refine lv_aload_n hx hb dX0_run_0 rfl (lv_at hl 0 rfl) ?_
  refine gg0_get (v := .int (u.1 10)) hx hb hts hin hown hK G 10 (by decide) (index := 43) (by decide +kernel) rfl dX0_run_1 ?_
  refine lv_if_eq (tgt := 9) hx hb dX0_run_4 (by decide) (fun c_4 => ?_) (fun c_4 => ?_)
  · refine lv_aload_n hx hb dX0_run_9 rfl (lv_at hl 0 rfl) ?_
    refine gg0_get (v := .ref (q 12)) hx hb hts hin hown hK G 12 (by decide) (index := 49) (by decide +kernel) rfl dX0_run_10 ?_
    refine lv_bipush (v := (-9)) hx hb dX0_run_13 (by decide) ?_
    refine gx_fill (pl := 7) (rest := []) (v := (-9)) hx hb hml hown hts hK hA G rfl (Nat.le_of_ble_eq_true rfl) gX0_run_J7_fill_53178 ⟨Nat.le_of_ble_eq_true rfl, Nat.le_of_ble_eq_true rfl⟩ hl.1 (Nat.le_of_ble_eq_true rfl) dX0_run_15 (Nat.zero_le _) (Nat.zero_le _) (fun H locs G => ?_)
    have G : gx_ (dC, dI) A s.heap H locs (gw0_ cI cZ h q (st_sf u 12 (pj_fill 24 (-9) (u.2 12)))) := G
    refine lv_aload_n hx hb dX0_run_18 rfl (lv_at hl 0 rfl) ?_
    refine gg0_get (v := .ref (q 14)) hx hb hts hin hown hK G 14 (by decide) (index := 55) (by decide +kernel) rfl dX0_run_19 ?_
    refine lv_iconst (v := 0) hx hb dX0_run_22 (by decide) ?_
    refine gx_fill (pl := 8) (rest := []) (v := 0) hx hb hml hown hts hK hA G rfl (Nat.le_of_ble_eq_true rfl) gX0_run_J7_fill_53178 ⟨Nat.le_of_ble_eq_true rfl, Nat.le_of_ble_eq_true rfl⟩ hl.1 (Nat.le_of_ble_eq_true rfl) dX0_run_23 (Nat.zero_le _) (Nat.zero_le _) (fun H locs G => ?_)
    have G : gx_ (dC, dI) A s.heap H locs (gw0_ cI cZ h q (st_sf (st_sf u 12 (pj_fill 24 (-9) (u.2 12))) 14 (pj_fill 5 0 ((st_sf u 12 (pj_fill 24 (-9) (u.2 12))).2 14)))) := G
    refine lv_aload_n hx hb dX0_run_26 rfl (lv_at hl 0 rfl) ?_
    refine lv_iconst (v := 0) hx hb dX0_run_27 (by decide) ?_
    refine gg0_put13 (v := 0) hx hb hts hin hown hK G (index := 52) (by decide +kernel) dX0_run_28 (fun H locs G => ?_)
    refine lv_aload_n hx hb dX0_run_31 rfl (lv_at hl 0 rfl) ?_
    refine lv_iconst (v := 0) hx hb dX0_run_32 (by decide) ?_
    refine gg0_put16 (v := 0) hx hb hts hin hown hK G (index := 61) (by decide +kernel) dX0_run_33 (fun H locs G => ?_)
    refine lv_iconst (v := 0) hx hb dX0_run_36 (by decide) ?_
    refine lv_istore_n (lv' := [(1, .int 0), (0, .ref h)]) hx hb dX0_run_37 rfl hl (by decide) rfl (fun ls hl => ?_)
    refine lv_iconst (v := 0) hx hb dX0_run_38 (by decide) ?_
    refine lv_istore_n (lv' := [(2, .int 0), (1, .int 0), (0, .ref h)]) hx hb dX0_run_39 rfl hl (by decide) rfl (fun ls hl => ?_)
    exact loop 25 (pd_r0 u) 0 0 (hok c_4) (by unfold pd_run; rw [if_pos c_4]) _ _ ls G (lv_sub hl [0, 1, 2] rfl)
  · refine lv_iconst (v := (-1)) hx hb dX0_run_7 (by decide) ?_
    exact gx_iret (wf := gw0_ cI cZ h q) (u1 := u) hx hb hr hlocks hsz hK hAe G dX0_run_8 (by unfold pd_run; rw [if_neg c_4])
theorem hd_X0_run : yX0_run.cls = RX0 ∧ yX0_run.cls ≠ "java/lang/invoke/MethodHandle" ∧ yX0_run.cls ≠ "java/lang/invoke/VarHandle" ∧ (parseMethodDescriptor yX0_run.desc).map (fun d => d.parameters.length) = some 0 := by decide +kernel
end
section
/-! the two constructors -/
theorem ty_u {D : va_G} {cl : List vw_C} {tys : List (ClassId × FieldType)} {s : State} (hK : va_K D cl tys s) {i j : Nat} {c1 c2 : ClassId} {ty : FieldType} (hi : tys[i]? = some (c1, ty)) (hj : tys[j]? = some (c2, ty)) (hty : ty = .int ∨ ty = .boolean) : c1 = c2 := by
  have h1 := (hK.2 i _ hi).2
  have h2 := (hK.2 j _ hj).2
  rcases hty with rfl | rfl
  · exact Option.some.inj (Eq.trans (Eq.symm (show s.vm.findClass _ = some c1 from h1)) (show s.vm.findClass _ = some c2 from h2))
  · exact Option.some.inj (Eq.trans (Eq.symm (show s.vm.findClass _ = some c1 from h1)) (show s.vm.findClass _ = some c2 from h2))
def pd_zero : st_T := (fun k => if k = 11 then -1 else 0, fun _ _ => 0)
def pd_init : st_T := st_sf pd_zero 12 (pj_fill 24 (-9) (pd_zero.2 12))
def pm_zero : st_T := (fun _ => 0, fun _ _ => 0)
def pm_init : st_T := st_sf pm_zero 10 (pj_fill 24 (-9) (pm_zero.2 10))
def gn0_ (h : Nat) : va_W := [(h, .inr (0, [.null, .int 0, .null, .int 0, .int 0, .null, .null, .null, .null, .int 0, .int 0, .int 0, .null, .int 0, .null, .int 0, .int 0]))]
set_option maxHeartbeats 4000000 in
set_option maxRecDepth 100000 in
theorem kd_init (l : Launch) (dC : Nat → ClassId) (dI : Nat → Nat → Nat) (h sz : Nat) : Met l yX0_init wsX0_init { frames := 1, cells := 8, slots := 134, locals := 23 } (va_Pc [.ref h] (fun U => U.heap.size = sz ∧ va_P (dC, dI) vwCl (gn0_ h) U.heap ∧ va_K (dC, dI) vwCl [] U ∧ va_D (fun _ => True) (gn0_ h))) (va_Qv (fun _ : Unit => True) (fun (_ : Unit) t => ∃ (cI cZ : ClassId) (q : Nat → Nat), va_P (dC, dI) vwCl (gw0_ cI cZ h q pd_init) t.heap ∧ va_K (dC, dI) vwCl (ty_IZ cI cZ) t ∧ va_D (va_A (gn0_ h) sz) (gw0_ cI cZ h q pd_init)) (va_A (gn0_ h) sz)) 8 134 (va_A (gn0_ h) sz) := by
  refine Met.ofW (cc := cX0_init) (maxL := 1) (ret := none) (by decide) rfl ?_
  intro p e s m args below meth c s₁ B hml hv
  obtain ⟨rfl, hsz, hP, hK, hD0⟩ := hv
  have hx := B.exec
  have hb := B.bytes
  have hr := B.returns
  have hts := atoms_spec (ws := wsX0_init) B.pre
  have hown : s.vm.findClass RX0 = some m.cls := findClass_of_methodNamed B.named
  have hlocks := B.notSynchronized
  have hin : meth.name = "<init>" := (name_of_methodNamed B.named B.method).1
  have hin0 : ∀ w ∈ wsX00, w ∈ wsX0_init := gx_in
  subst hsz
  have hD := hD0.self (sz := s.heap.size)
  generalize hAe : va_A (gn0_ h) s.heap.size = A at hD ⊢
  have hA : ∀ q : Nat, s.heap.size ≤ q → A q := fun q h => by rw [← hAe]; exact Or.inr h
  have hS : va_S A s.heap s.heap [] := va_S.rf
  have hl := lv_entry ([.ref h]) (n := 1) (Nat.le_of_ble_eq_true rfl)
  rw [lg_entry_eq]
  generalize (lg_sl ([.ref h]) ++ List.replicate (1 - (lg_sl ([.ref h])).length) Slot.unset).toArray = ls at hl ⊢
  have hl : lv_has ls 1 [(0, .ref h)] := hl
  have hP : va_P (dC, dI) vwCl [(h, .inr (0, [.null, .int 0, .null, .int 0, .int 0, .null, .null, .null, .null, .int 0, .int 0, .int 0, .null, .int 0, .null, .int 0, .int 0]))] s.heap := hP
  have hD : va_D A [(h, .inr (0, [.null, .int 0, .null, .int 0, .int 0, .null, .null, .null, .null, .int 0, .int 0, .int 0, .null, .int 0, .null, .int 0, .int 0]))] := hD
  refine lv_aload_n hx hb dX0_init_0 rfl (lv_at hl 0 rfl) ?_
  refine W.objInit hx hb hown (hts (.methodLink RX0 1 objectInit) (by decide +kernel)) (hts (.instanceMethod objectInit) (by decide +kernel)) (hts (.code objectInit ⟨#[0xb1]⟩ 1 none) (by decide +kernel)) rfl (by rw [hml]; exact hl.1) rfl dX0_init_1 (Nat.le_of_ble_eq_true rfl) (Nat.le_of_ble_eq_true rfl) ?_
  refine W.eq (g2 := F0 m 4 ls []) rfl ?_
  refine lv_aload_n hx hb dX0_init_4 rfl (lv_at hl 0 rfl) ?_
  refine lv_iconst (v := 5) hx hb dX0_init_5 (by decide) ?_
  refine va_newa (atype := .int) (ty := .int) (N' := 5) (a0 := (5, .inl (fun _ => 0))) hx hb (hts (.arrayClass .int) (by decide +kernel)) rfl hK hP hD hS hA (fun _ => rfl) (by decide) (by decide) (Nat.le_of_ble_eq_true rfl) (Nat.le_of_ble_eq_true rfl) (Nat.le_of_ble_eq_true rfl) dX0_init_6 (fun q0 cI H hK hP hD hS => ?_)
  refine W.widen (k := 1) (n := 5) (Nat.le_of_ble_eq_true rfl) (Nat.le_of_ble_eq_true rfl) ?_
  have hK : va_K (dC, dI) vwCl [(cI, .int)] s := hK.sub [0] rfl
  have hP : va_P (dC, dI) vwCl [(h, .inr (0, [.null, .int 0, .null, .int 0, .int 0, .null, .null, .null, .null, .int 0, .int 0, .int 0, .null, .int 0, .null, .int 0, .int 0])), (q0, .inl (cI, 5, .inl (fun _ => 0)))] H := hP
  have hD : va_D A [(h, .inr (0, [.null, .int 0, .null, .int 0, .int 0, .null, .null, .null, .null, .int 0, .int 0, .int 0, .null, .int 0, .null, .int 0, .int 0])), (q0, .inl (cI, 5, .inl (fun _ => 0)))] := hD
  refine va_putF (D := (dC, dI)) (ci := 0) (v := .ref q0) (ty := (.array .int)) (C := RX0) (T := TX0) (N := 17) hx hb hts hin0 tyX0 tyX0_ok nmX0 hown hK hP hD hS 0 rfl rfl 0 (by decide) (hts (.fieldLink RX0 9 "MonitorDesk" "locks" "[I") (by decide +kernel)) (fun _ h9 => h9) rfl hin rfl (by decide +kernel) rfl rfl (Nat.le_of_ble_eq_true rfl) dX0_init_8 (fun H locs hP hD hS => ?_)
  have hP : va_P (dC, dI) vwCl [(h, .inr (0, [.ref q0, .int 0, .null, .int 0, .int 0, .null, .null, .null, .null, .int 0, .int 0, .int 0, .null, .int 0, .null, .int 0, .int 0])), (q0, .inl (cI, 5, .inl (fun _ => 0)))] H := hP
  have hD : va_D A [(h, .inr (0, [.ref q0, .int 0, .null, .int 0, .int 0, .null, .null, .null, .null, .int 0, .int 0, .int 0, .null, .int 0, .null, .int 0, .int 0])), (q0, .inl (cI, 5, .inl (fun _ => 0)))] := hD
  refine lv_aload_n hx hb dX0_init_11 rfl (lv_at hl 0 rfl) ?_
  refine lv_iconst (v := 0) hx hb dX0_init_12 (by decide) ?_
  refine va_put (D := (dC, dI)) (ci := 0) (v := .int 0) (ty := .int) (C := RX0) (T := TX0) (N := 17) hx hb hts hin0 tyX0 tyX0_ok nmX0 hown hK hP hD hS 0 rfl rfl 1 (by decide) (hts (.fieldLink RX0 13 "MonitorDesk" "locksMade" "I") (by decide +kernel)) (fun _ h9 => h9) rfl (by decide +kernel) rfl rfl (Nat.le_of_ble_eq_true rfl) dX0_init_13 (fun H locs hP hD hS => ?_)
  have hP : va_P (dC, dI) vwCl [(h, .inr (0, [.ref q0, .int 0, .null, .int 0, .int 0, .null, .null, .null, .null, .int 0, .int 0, .int 0, .null, .int 0, .null, .int 0, .int 0])), (q0, .inl (cI, 5, .inl (fun _ => 0)))] H := hP
  have hD : va_D A [(h, .inr (0, [.ref q0, .int 0, .null, .int 0, .int 0, .null, .null, .null, .null, .int 0, .int 0, .int 0, .null, .int 0, .null, .int 0, .int 0])), (q0, .inl (cI, 5, .inl (fun _ => 0)))] := hD
  refine lv_aload_n hx hb dX0_init_16 rfl (lv_at hl 0 rfl) ?_
  refine lv_iconst (v := 4) hx hb dX0_init_17 (by decide) ?_
  refine va_newa (atype := .boolean) (ty := .boolean) (N' := 4) (a0 := (4, .inl (fun _ => 0))) hx hb (hts (.arrayClass .boolean) (by decide +kernel)) rfl hK hP hD hS hA (fun _ => rfl) (by decide) (by decide) (Nat.le_of_ble_eq_true rfl) (Nat.le_of_ble_eq_true rfl) (Nat.le_of_ble_eq_true rfl) dX0_init_18 (fun q2 cZ H hK hP hD hS => ?_)
  refine W.widen (k := 2) (n := 9) (Nat.le_of_ble_eq_true rfl) (Nat.le_of_ble_eq_true rfl) ?_
  have hK : va_K (dC, dI) vwCl [(cI, .int), (cZ, .boolean)] s := hK.sub [0, 1] rfl
  have hP : va_P (dC, dI) vwCl [(h, .inr (0, [.ref q0, .int 0, .null, .int 0, .int 0, .null, .null, .null, .null, .int 0, .int 0, .int 0, .null, .int 0, .null, .int 0, .int 0])), (q0, .inl (cI, 5, .inl (fun _ => 0))), (q2, .inl (cZ, 4, .inl (fun _ => 0)))] H := hP
  have hD : va_D A [(h, .inr (0, [.ref q0, .int 0, .null, .int 0, .int 0, .null, .null, .null, .null, .int 0, .int 0, .int 0, .null, .int 0, .null, .int 0, .int 0])), (q0, .inl (cI, 5, .inl (fun _ => 0))), (q2, .inl (cZ, 4, .inl (fun _ => 0)))] := hD
  refine va_putF (D := (dC, dI)) (ci := 0) (v := .ref q2) (ty := (.array .boolean)) (C := RX0) (T := TX0) (N := 17) hx hb hts hin0 tyX0 tyX0_ok nmX0 hown hK hP hD hS 0 rfl rfl 2 (by decide) (hts (.fieldLink RX0 17 "MonitorDesk" "ended" "[Z") (by decide +kernel)) (fun _ h9 => h9) rfl hin rfl (by decide +kernel) rfl rfl (Nat.le_of_ble_eq_true rfl) dX0_init_20 (fun H locs hP hD hS => ?_)
  have hP : va_P (dC, dI) vwCl [(h, .inr (0, [.ref q0, .int 0, .ref q2, .int 0, .int 0, .null, .null, .null, .null, .int 0, .int 0, .int 0, .null, .int 0, .null, .int 0, .int 0])), (q0, .inl (cI, 5, .inl (fun _ => 0))), (q2, .inl (cZ, 4, .inl (fun _ => 0)))] H := hP
  have hD : va_D A [(h, .inr (0, [.ref q0, .int 0, .ref q2, .int 0, .int 0, .null, .null, .null, .null, .int 0, .int 0, .int 0, .null, .int 0, .null, .int 0, .int 0])), (q0, .inl (cI, 5, .inl (fun _ => 0))), (q2, .inl (cZ, 4, .inl (fun _ => 0)))] := hD
  refine lv_aload_n hx hb dX0_init_23 rfl (lv_at hl 0 rfl) ?_
  refine lv_iconst (v := 0) hx hb dX0_init_24 (by decide) ?_
  refine va_put (D := (dC, dI)) (ci := 0) (v := .int 0) (ty := .int) (C := RX0) (T := TX0) (N := 17) hx hb hts hin0 tyX0 tyX0_ok nmX0 hown hK hP hD hS 0 rfl rfl 3 (by decide) (hts (.fieldLink RX0 21 "MonitorDesk" "total" "I") (by decide +kernel)) (fun _ h9 => h9) rfl (by decide +kernel) rfl rfl (Nat.le_of_ble_eq_true rfl) dX0_init_25 (fun H locs hP hD hS => ?_)
  have hP : va_P (dC, dI) vwCl [(h, .inr (0, [.ref q0, .int 0, .ref q2, .int 0, .int 0, .null, .null, .null, .null, .int 0, .int 0, .int 0, .null, .int 0, .null, .int 0, .int 0])), (q0, .inl (cI, 5, .inl (fun _ => 0))), (q2, .inl (cZ, 4, .inl (fun _ => 0)))] H := hP
  have hD : va_D A [(h, .inr (0, [.ref q0, .int 0, .ref q2, .int 0, .int 0, .null, .null, .null, .null, .int 0, .int 0, .int 0, .null, .int 0, .null, .int 0, .int 0])), (q0, .inl (cI, 5, .inl (fun _ => 0))), (q2, .inl (cZ, 4, .inl (fun _ => 0)))] := hD
  refine lv_aload_n hx hb dX0_init_28 rfl (lv_at hl 0 rfl) ?_
  refine lv_iconst (v := 0) hx hb dX0_init_29 (by decide) ?_
  refine va_put (D := (dC, dI)) (ci := 0) (v := .int 0) (ty := .boolean) (C := RX0) (T := TX0) (N := 17) hx hb hts hin0 tyX0 tyX0_ok nmX0 hown hK hP hD hS 0 rfl rfl 4 (by decide) (hts (.fieldLink RX0 24 "MonitorDesk" "flag" "Z") (by decide +kernel)) (fun _ h9 => h9) rfl (by decide +kernel) rfl rfl (Nat.le_of_ble_eq_true rfl) dX0_init_30 (fun H locs hP hD hS => ?_)
  have hP : va_P (dC, dI) vwCl [(h, .inr (0, [.ref q0, .int 0, .ref q2, .int 0, .int 0, .null, .null, .null, .null, .int 0, .int 0, .int 0, .null, .int 0, .null, .int 0, .int 0])), (q0, .inl (cI, 5, .inl (fun _ => 0))), (q2, .inl (cZ, 4, .inl (fun _ => 0)))] H := hP
  have hD : va_D A [(h, .inr (0, [.ref q0, .int 0, .ref q2, .int 0, .int 0, .null, .null, .null, .null, .int 0, .int 0, .int 0, .null, .int 0, .null, .int 0, .int 0])), (q0, .inl (cI, 5, .inl (fun _ => 0))), (q2, .inl (cZ, 4, .inl (fun _ => 0)))] := hD
  refine lv_aload_n hx hb dX0_init_33 rfl (lv_at hl 0 rfl) ?_
  refine lv_bipush (v := 24) hx hb dX0_init_34 (by decide) ?_
  refine va_newa (atype := .int) (ty := .int) (N' := 24) (a0 := (24, .inl (fun _ => 0))) hx hb (hts (.arrayClass .int) (by decide +kernel)) rfl hK hP hD hS hA (fun _ => rfl) (by decide) (by decide) (Nat.le_of_ble_eq_true rfl) (Nat.le_of_ble_eq_true rfl) (Nat.le_of_ble_eq_true rfl) dX0_init_36 (fun q5 c5 H hK hP hD hS => ?_)
  refine W.widen (k := 3) (n := 33) (Nat.le_of_ble_eq_true rfl) (Nat.le_of_ble_eq_true rfl) ?_
  obtain rfl : cI = c5 := ty_u hK (i := 0) (j := 2) rfl rfl (Or.inl rfl)
  have hK : va_K (dC, dI) vwCl [(cI, .int), (cZ, .boolean)] s := hK.sub [0, 1] rfl
  have hP : va_P (dC, dI) vwCl [(h, .inr (0, [.ref q0, .int 0, .ref q2, .int 0, .int 0, .null, .null, .null, .null, .int 0, .int 0, .int 0, .null, .int 0, .null, .int 0, .int 0])), (q0, .inl (cI, 5, .inl (fun _ => 0))), (q2, .inl (cZ, 4, .inl (fun _ => 0))), (q5, .inl (cI, 24, .inl (fun _ => 0)))] H := hP
  have hD : va_D A [(h, .inr (0, [.ref q0, .int 0, .ref q2, .int 0, .int 0, .null, .null, .null, .null, .int 0, .int 0, .int 0, .null, .int 0, .null, .int 0, .int 0])), (q0, .inl (cI, 5, .inl (fun _ => 0))), (q2, .inl (cZ, 4, .inl (fun _ => 0))), (q5, .inl (cI, 24, .inl (fun _ => 0)))] := hD
  refine va_putF (D := (dC, dI)) (ci := 0) (v := .ref q5) (ty := (.array .int)) (C := RX0) (T := TX0) (N := 17) hx hb hts hin0 tyX0 tyX0_ok nmX0 hown hK hP hD hS 0 rfl rfl 5 (by decide) (hts (.fieldLink RX0 28 "MonitorDesk" "operations" "[I") (by decide +kernel)) (fun _ h9 => h9) rfl hin rfl (by decide +kernel) rfl rfl (Nat.le_of_ble_eq_true rfl) dX0_init_38 (fun H locs hP hD hS => ?_)
  have hP : va_P (dC, dI) vwCl [(h, .inr (0, [.ref q0, .int 0, .ref q2, .int 0, .int 0, .ref q5, .null, .null, .null, .int 0, .int 0, .int 0, .null, .int 0, .null, .int 0, .int 0])), (q0, .inl (cI, 5, .inl (fun _ => 0))), (q2, .inl (cZ, 4, .inl (fun _ => 0))), (q5, .inl (cI, 24, .inl (fun _ => 0)))] H := hP
  have hD : va_D A [(h, .inr (0, [.ref q0, .int 0, .ref q2, .int 0, .int 0, .ref q5, .null, .null, .null, .int 0, .int 0, .int 0, .null, .int 0, .null, .int 0, .int 0])), (q0, .inl (cI, 5, .inl (fun _ => 0))), (q2, .inl (cZ, 4, .inl (fun _ => 0))), (q5, .inl (cI, 24, .inl (fun _ => 0)))] := hD
  refine lv_aload_n hx hb dX0_init_41 rfl (lv_at hl 0 rfl) ?_
  refine lv_bipush (v := 24) hx hb dX0_init_42 (by decide) ?_
  refine va_newa (atype := .int) (ty := .int) (N' := 24) (a0 := (24, .inl (fun _ => 0))) hx hb (hts (.arrayClass .int) (by decide +kernel)) rfl hK hP hD hS hA (fun _ => rfl) (by decide) (by decide) (Nat.le_of_ble_eq_true rfl) (Nat.le_of_ble_eq_true rfl) (Nat.le_of_ble_eq_true rfl) dX0_init_44 (fun q6 c6 H hK hP hD hS => ?_)
  refine W.widen (k := 4) (n := 57) (Nat.le_of_ble_eq_true rfl) (Nat.le_of_ble_eq_true rfl) ?_
  obtain rfl : cI = c6 := ty_u hK (i := 0) (j := 2) rfl rfl (Or.inl rfl)
  have hK : va_K (dC, dI) vwCl [(cI, .int), (cZ, .boolean)] s := hK.sub [0, 1] rfl
  have hP : va_P (dC, dI) vwCl [(h, .inr (0, [.ref q0, .int 0, .ref q2, .int 0, .int 0, .ref q5, .null, .null, .null, .int 0, .int 0, .int 0, .null, .int 0, .null, .int 0, .int 0])), (q0, .inl (cI, 5, .inl (fun _ => 0))), (q2, .inl (cZ, 4, .inl (fun _ => 0))), (q5, .inl (cI, 24, .inl (fun _ => 0))), (q6, .inl (cI, 24, .inl (fun _ => 0)))] H := hP
  have hD : va_D A [(h, .inr (0, [.ref q0, .int 0, .ref q2, .int 0, .int 0, .ref q5, .null, .null, .null, .int 0, .int 0, .int 0, .null, .int 0, .null, .int 0, .int 0])), (q0, .inl (cI, 5, .inl (fun _ => 0))), (q2, .inl (cZ, 4, .inl (fun _ => 0))), (q5, .inl (cI, 24, .inl (fun _ => 0))), (q6, .inl (cI, 24, .inl (fun _ => 0)))] := hD
  refine va_putF (D := (dC, dI)) (ci := 0) (v := .ref q6) (ty := (.array .int)) (C := RX0) (T := TX0) (N := 17) hx hb hts hin0 tyX0 tyX0_ok nmX0 hown hK hP hD hS 0 rfl rfl 6 (by decide) (hts (.fieldLink RX0 31 "MonitorDesk" "arguments" "[I") (by decide +kernel)) (fun _ h9 => h9) rfl hin rfl (by decide +kernel) rfl rfl (Nat.le_of_ble_eq_true rfl) dX0_init_46 (fun H locs hP hD hS => ?_)
  have hP : va_P (dC, dI) vwCl [(h, .inr (0, [.ref q0, .int 0, .ref q2, .int 0, .int 0, .ref q5, .ref q6, .null, .null, .int 0, .int 0, .int 0, .null, .int 0, .null, .int 0, .int 0])), (q0, .inl (cI, 5, .inl (fun _ => 0))), (q2, .inl (cZ, 4, .inl (fun _ => 0))), (q5, .inl (cI, 24, .inl (fun _ => 0))), (q6, .inl (cI, 24, .inl (fun _ => 0)))] H := hP
  have hD : va_D A [(h, .inr (0, [.ref q0, .int 0, .ref q2, .int 0, .int 0, .ref q5, .ref q6, .null, .null, .int 0, .int 0, .int 0, .null, .int 0, .null, .int 0, .int 0])), (q0, .inl (cI, 5, .inl (fun _ => 0))), (q2, .inl (cZ, 4, .inl (fun _ => 0))), (q5, .inl (cI, 24, .inl (fun _ => 0))), (q6, .inl (cI, 24, .inl (fun _ => 0)))] := hD
  refine lv_aload_n hx hb dX0_init_49 rfl (lv_at hl 0 rfl) ?_
  refine lv_bipush (v := 24) hx hb dX0_init_50 (by decide) ?_
  refine va_newa (atype := .int) (ty := .int) (N' := 24) (a0 := (24, .inl (fun _ => 0))) hx hb (hts (.arrayClass .int) (by decide +kernel)) rfl hK hP hD hS hA (fun _ => rfl) (by decide) (by decide) (Nat.le_of_ble_eq_true rfl) (Nat.le_of_ble_eq_true rfl) (Nat.le_of_ble_eq_true rfl) dX0_init_52 (fun q7 c7 H hK hP hD hS => ?_)
  refine W.widen (k := 5) (n := 81) (Nat.le_of_ble_eq_true rfl) (Nat.le_of_ble_eq_true rfl) ?_
  obtain rfl : cI = c7 := ty_u hK (i := 0) (j := 2) rfl rfl (Or.inl rfl)
  have hK : va_K (dC, dI) vwCl [(cI, .int), (cZ, .boolean)] s := hK.sub [0, 1] rfl
  have hP : va_P (dC, dI) vwCl [(h, .inr (0, [.ref q0, .int 0, .ref q2, .int 0, .int 0, .ref q5, .ref q6, .null, .null, .int 0, .int 0, .int 0, .null, .int 0, .null, .int 0, .int 0])), (q0, .inl (cI, 5, .inl (fun _ => 0))), (q2, .inl (cZ, 4, .inl (fun _ => 0))), (q5, .inl (cI, 24, .inl (fun _ => 0))), (q6, .inl (cI, 24, .inl (fun _ => 0))), (q7, .inl (cI, 24, .inl (fun _ => 0)))] H := hP
  have hD : va_D A [(h, .inr (0, [.ref q0, .int 0, .ref q2, .int 0, .int 0, .ref q5, .ref q6, .null, .null, .int 0, .int 0, .int 0, .null, .int 0, .null, .int 0, .int 0])), (q0, .inl (cI, 5, .inl (fun _ => 0))), (q2, .inl (cZ, 4, .inl (fun _ => 0))), (q5, .inl (cI, 24, .inl (fun _ => 0))), (q6, .inl (cI, 24, .inl (fun _ => 0))), (q7, .inl (cI, 24, .inl (fun _ => 0)))] := hD
  refine va_putF (D := (dC, dI)) (ci := 0) (v := .ref q7) (ty := (.array .int)) (C := RX0) (T := TX0) (N := 17) hx hb hts hin0 tyX0 tyX0_ok nmX0 hown hK hP hD hS 0 rfl rfl 7 (by decide) (hts (.fieldLink RX0 34 "MonitorDesk" "around" "[I") (by decide +kernel)) (fun _ h9 => h9) rfl hin rfl (by decide +kernel) rfl rfl (Nat.le_of_ble_eq_true rfl) dX0_init_54 (fun H locs hP hD hS => ?_)
  have hP : va_P (dC, dI) vwCl [(h, .inr (0, [.ref q0, .int 0, .ref q2, .int 0, .int 0, .ref q5, .ref q6, .ref q7, .null, .int 0, .int 0, .int 0, .null, .int 0, .null, .int 0, .int 0])), (q0, .inl (cI, 5, .inl (fun _ => 0))), (q2, .inl (cZ, 4, .inl (fun _ => 0))), (q5, .inl (cI, 24, .inl (fun _ => 0))), (q6, .inl (cI, 24, .inl (fun _ => 0))), (q7, .inl (cI, 24, .inl (fun _ => 0)))] H := hP
  have hD : va_D A [(h, .inr (0, [.ref q0, .int 0, .ref q2, .int 0, .int 0, .ref q5, .ref q6, .ref q7, .null, .int 0, .int 0, .int 0, .null, .int 0, .null, .int 0, .int 0])), (q0, .inl (cI, 5, .inl (fun _ => 0))), (q2, .inl (cZ, 4, .inl (fun _ => 0))), (q5, .inl (cI, 24, .inl (fun _ => 0))), (q6, .inl (cI, 24, .inl (fun _ => 0))), (q7, .inl (cI, 24, .inl (fun _ => 0)))] := hD
  refine lv_aload_n hx hb dX0_init_57 rfl (lv_at hl 0 rfl) ?_
  refine lv_bipush (v := 24) hx hb dX0_init_58 (by decide) ?_
  refine va_newa (atype := .int) (ty := .int) (N' := 24) (a0 := (24, .inl (fun _ => 0))) hx hb (hts (.arrayClass .int) (by decide +kernel)) rfl hK hP hD hS hA (fun _ => rfl) (by decide) (by decide) (Nat.le_of_ble_eq_true rfl) (Nat.le_of_ble_eq_true rfl) (Nat.le_of_ble_eq_true rfl) dX0_init_60 (fun q8 c8 H hK hP hD hS => ?_)
  refine W.widen (k := 6) (n := 105) (Nat.le_of_ble_eq_true rfl) (Nat.le_of_ble_eq_true rfl) ?_
  obtain rfl : cI = c8 := ty_u hK (i := 0) (j := 2) rfl rfl (Or.inl rfl)
  have hK : va_K (dC, dI) vwCl [(cI, .int), (cZ, .boolean)] s := hK.sub [0, 1] rfl
  have hP : va_P (dC, dI) vwCl [(h, .inr (0, [.ref q0, .int 0, .ref q2, .int 0, .int 0, .ref q5, .ref q6, .ref q7, .null, .int 0, .int 0, .int 0, .null, .int 0, .null, .int 0, .int 0])), (q0, .inl (cI, 5, .inl (fun _ => 0))), (q2, .inl (cZ, 4, .inl (fun _ => 0))), (q5, .inl (cI, 24, .inl (fun _ => 0))), (q6, .inl (cI, 24, .inl (fun _ => 0))), (q7, .inl (cI, 24, .inl (fun _ => 0))), (q8, .inl (cI, 24, .inl (fun _ => 0)))] H := hP
  have hD : va_D A [(h, .inr (0, [.ref q0, .int 0, .ref q2, .int 0, .int 0, .ref q5, .ref q6, .ref q7, .null, .int 0, .int 0, .int 0, .null, .int 0, .null, .int 0, .int 0])), (q0, .inl (cI, 5, .inl (fun _ => 0))), (q2, .inl (cZ, 4, .inl (fun _ => 0))), (q5, .inl (cI, 24, .inl (fun _ => 0))), (q6, .inl (cI, 24, .inl (fun _ => 0))), (q7, .inl (cI, 24, .inl (fun _ => 0))), (q8, .inl (cI, 24, .inl (fun _ => 0)))] := hD
  refine va_putF (D := (dC, dI)) (ci := 0) (v := .ref q8) (ty := (.array .int)) (C := RX0) (T := TX0) (N := 17) hx hb hts hin0 tyX0 tyX0_ok nmX0 hown hK hP hD hS 0 rfl rfl 8 (by decide) (hts (.fieldLink RX0 37 "MonitorDesk" "ends" "[I") (by decide +kernel)) (fun _ h9 => h9) rfl hin rfl (by decide +kernel) rfl rfl (Nat.le_of_ble_eq_true rfl) dX0_init_62 (fun H locs hP hD hS => ?_)
  have hP : va_P (dC, dI) vwCl [(h, .inr (0, [.ref q0, .int 0, .ref q2, .int 0, .int 0, .ref q5, .ref q6, .ref q7, .ref q8, .int 0, .int 0, .int 0, .null, .int 0, .null, .int 0, .int 0])), (q0, .inl (cI, 5, .inl (fun _ => 0))), (q2, .inl (cZ, 4, .inl (fun _ => 0))), (q5, .inl (cI, 24, .inl (fun _ => 0))), (q6, .inl (cI, 24, .inl (fun _ => 0))), (q7, .inl (cI, 24, .inl (fun _ => 0))), (q8, .inl (cI, 24, .inl (fun _ => 0)))] H := hP
  have hD : va_D A [(h, .inr (0, [.ref q0, .int 0, .ref q2, .int 0, .int 0, .ref q5, .ref q6, .ref q7, .ref q8, .int 0, .int 0, .int 0, .null, .int 0, .null, .int 0, .int 0])), (q0, .inl (cI, 5, .inl (fun _ => 0))), (q2, .inl (cZ, 4, .inl (fun _ => 0))), (q5, .inl (cI, 24, .inl (fun _ => 0))), (q6, .inl (cI, 24, .inl (fun _ => 0))), (q7, .inl (cI, 24, .inl (fun _ => 0))), (q8, .inl (cI, 24, .inl (fun _ => 0)))] := hD
  refine lv_aload_n hx hb dX0_init_65 rfl (lv_at hl 0 rfl) ?_
  refine lv_iconst (v := 0) hx hb dX0_init_66 (by decide) ?_
  refine va_put (D := (dC, dI)) (ci := 0) (v := .int 0) (ty := .int) (C := RX0) (T := TX0) (N := 17) hx hb hts hin0 tyX0 tyX0_ok nmX0 hown hK hP hD hS 0 rfl rfl 9 (by decide) (hts (.fieldLink RX0 40 "MonitorDesk" "stepCount" "I") (by decide +kernel)) (fun _ h9 => h9) rfl (by decide +kernel) rfl rfl (Nat.le_of_ble_eq_true rfl) dX0_init_67 (fun H locs hP hD hS => ?_)
  have hP : va_P (dC, dI) vwCl [(h, .inr (0, [.ref q0, .int 0, .ref q2, .int 0, .int 0, .ref q5, .ref q6, .ref q7, .ref q8, .int 0, .int 0, .int 0, .null, .int 0, .null, .int 0, .int 0])), (q0, .inl (cI, 5, .inl (fun _ => 0))), (q2, .inl (cZ, 4, .inl (fun _ => 0))), (q5, .inl (cI, 24, .inl (fun _ => 0))), (q6, .inl (cI, 24, .inl (fun _ => 0))), (q7, .inl (cI, 24, .inl (fun _ => 0))), (q8, .inl (cI, 24, .inl (fun _ => 0)))] H := hP
  have hD : va_D A [(h, .inr (0, [.ref q0, .int 0, .ref q2, .int 0, .int 0, .ref q5, .ref q6, .ref q7, .ref q8, .int 0, .int 0, .int 0, .null, .int 0, .null, .int 0, .int 0])), (q0, .inl (cI, 5, .inl (fun _ => 0))), (q2, .inl (cZ, 4, .inl (fun _ => 0))), (q5, .inl (cI, 24, .inl (fun _ => 0))), (q6, .inl (cI, 24, .inl (fun _ => 0))), (q7, .inl (cI, 24, .inl (fun _ => 0))), (q8, .inl (cI, 24, .inl (fun _ => 0)))] := hD
  refine lv_aload_n hx hb dX0_init_70 rfl (lv_at hl 0 rfl) ?_
  refine lv_iconst (v := 0) hx hb dX0_init_71 (by decide) ?_
  refine va_put (D := (dC, dI)) (ci := 0) (v := .int 0) (ty := .int) (C := RX0) (T := TX0) (N := 17) hx hb hts hin0 tyX0 tyX0_ok nmX0 hown hK hP hD hS 0 rfl rfl 10 (by decide) (hts (.fieldLink RX0 43 "MonitorDesk" "openCount" "I") (by decide +kernel)) (fun _ h9 => h9) rfl (by decide +kernel) rfl rfl (Nat.le_of_ble_eq_true rfl) dX0_init_72 (fun H locs hP hD hS => ?_)
  have hP : va_P (dC, dI) vwCl [(h, .inr (0, [.ref q0, .int 0, .ref q2, .int 0, .int 0, .ref q5, .ref q6, .ref q7, .ref q8, .int 0, .int 0, .int 0, .null, .int 0, .null, .int 0, .int 0])), (q0, .inl (cI, 5, .inl (fun _ => 0))), (q2, .inl (cZ, 4, .inl (fun _ => 0))), (q5, .inl (cI, 24, .inl (fun _ => 0))), (q6, .inl (cI, 24, .inl (fun _ => 0))), (q7, .inl (cI, 24, .inl (fun _ => 0))), (q8, .inl (cI, 24, .inl (fun _ => 0)))] H := hP
  have hD : va_D A [(h, .inr (0, [.ref q0, .int 0, .ref q2, .int 0, .int 0, .ref q5, .ref q6, .ref q7, .ref q8, .int 0, .int 0, .int 0, .null, .int 0, .null, .int 0, .int 0])), (q0, .inl (cI, 5, .inl (fun _ => 0))), (q2, .inl (cZ, 4, .inl (fun _ => 0))), (q5, .inl (cI, 24, .inl (fun _ => 0))), (q6, .inl (cI, 24, .inl (fun _ => 0))), (q7, .inl (cI, 24, .inl (fun _ => 0))), (q8, .inl (cI, 24, .inl (fun _ => 0)))] := hD
  refine lv_aload_n hx hb dX0_init_75 rfl (lv_at hl 0 rfl) ?_
  refine lv_iconst (v := (-1)) hx hb dX0_init_76 (by decide) ?_
  refine va_put (D := (dC, dI)) (ci := 0) (v := .int (-1)) (ty := .int) (C := RX0) (T := TX0) (N := 17) hx hb hts hin0 tyX0 tyX0_ok nmX0 hown hK hP hD hS 0 rfl rfl 11 (by decide) (hts (.fieldLink RX0 46 "MonitorDesk" "latestOpen" "I") (by decide +kernel)) (fun _ h9 => h9) rfl (by decide +kernel) rfl rfl (Nat.le_of_ble_eq_true rfl) dX0_init_77 (fun H locs hP hD hS => ?_)
  have hP : va_P (dC, dI) vwCl [(h, .inr (0, [.ref q0, .int 0, .ref q2, .int 0, .int 0, .ref q5, .ref q6, .ref q7, .ref q8, .int 0, .int 0, .int (-1), .null, .int 0, .null, .int 0, .int 0])), (q0, .inl (cI, 5, .inl (fun _ => 0))), (q2, .inl (cZ, 4, .inl (fun _ => 0))), (q5, .inl (cI, 24, .inl (fun _ => 0))), (q6, .inl (cI, 24, .inl (fun _ => 0))), (q7, .inl (cI, 24, .inl (fun _ => 0))), (q8, .inl (cI, 24, .inl (fun _ => 0)))] H := hP
  have hD : va_D A [(h, .inr (0, [.ref q0, .int 0, .ref q2, .int 0, .int 0, .ref q5, .ref q6, .ref q7, .ref q8, .int 0, .int 0, .int (-1), .null, .int 0, .null, .int 0, .int 0])), (q0, .inl (cI, 5, .inl (fun _ => 0))), (q2, .inl (cZ, 4, .inl (fun _ => 0))), (q5, .inl (cI, 24, .inl (fun _ => 0))), (q6, .inl (cI, 24, .inl (fun _ => 0))), (q7, .inl (cI, 24, .inl (fun _ => 0))), (q8, .inl (cI, 24, .inl (fun _ => 0)))] := hD
  refine lv_aload_n hx hb dX0_init_80 rfl (lv_at hl 0 rfl) ?_
  refine lv_bipush (v := 24) hx hb dX0_init_81 (by decide) ?_
  refine va_newa (atype := .int) (ty := .int) (N' := 24) (a0 := (24, .inl (fun _ => 0))) hx hb (hts (.arrayClass .int) (by decide +kernel)) rfl hK hP hD hS hA (fun _ => rfl) (by decide) (by decide) (Nat.le_of_ble_eq_true rfl) (Nat.le_of_ble_eq_true rfl) (Nat.le_of_ble_eq_true rfl) dX0_init_83 (fun q12 c12 H hK hP hD hS => ?_)
  refine W.widen (k := 7) (n := 129) (Nat.le_of_ble_eq_true rfl) (Nat.le_of_ble_eq_true rfl) ?_
  obtain rfl : cI = c12 := ty_u hK (i := 0) (j := 2) rfl rfl (Or.inl rfl)
  have hK : va_K (dC, dI) vwCl [(cI, .int), (cZ, .boolean)] s := hK.sub [0, 1] rfl
  have hP : va_P (dC, dI) vwCl [(h, .inr (0, [.ref q0, .int 0, .ref q2, .int 0, .int 0, .ref q5, .ref q6, .ref q7, .ref q8, .int 0, .int 0, .int (-1), .null, .int 0, .null, .int 0, .int 0])), (q0, .inl (cI, 5, .inl (fun _ => 0))), (q2, .inl (cZ, 4, .inl (fun _ => 0))), (q5, .inl (cI, 24, .inl (fun _ => 0))), (q6, .inl (cI, 24, .inl (fun _ => 0))), (q7, .inl (cI, 24, .inl (fun _ => 0))), (q8, .inl (cI, 24, .inl (fun _ => 0))), (q12, .inl (cI, 24, .inl (fun _ => 0)))] H := hP
  have hD : va_D A [(h, .inr (0, [.ref q0, .int 0, .ref q2, .int 0, .int 0, .ref q5, .ref q6, .ref q7, .ref q8, .int 0, .int 0, .int (-1), .null, .int 0, .null, .int 0, .int 0])), (q0, .inl (cI, 5, .inl (fun _ => 0))), (q2, .inl (cZ, 4, .inl (fun _ => 0))), (q5, .inl (cI, 24, .inl (fun _ => 0))), (q6, .inl (cI, 24, .inl (fun _ => 0))), (q7, .inl (cI, 24, .inl (fun _ => 0))), (q8, .inl (cI, 24, .inl (fun _ => 0))), (q12, .inl (cI, 24, .inl (fun _ => 0)))] := hD
  refine va_putF (D := (dC, dI)) (ci := 0) (v := .ref q12) (ty := (.array .int)) (C := RX0) (T := TX0) (N := 17) hx hb hts hin0 tyX0 tyX0_ok nmX0 hown hK hP hD hS 0 rfl rfl 12 (by decide) (hts (.fieldLink RX0 49 "MonitorDesk" "results" "[I") (by decide +kernel)) (fun _ h9 => h9) rfl hin rfl (by decide +kernel) rfl rfl (Nat.le_of_ble_eq_true rfl) dX0_init_85 (fun H locs hP hD hS => ?_)
  have hP : va_P (dC, dI) vwCl [(h, .inr (0, [.ref q0, .int 0, .ref q2, .int 0, .int 0, .ref q5, .ref q6, .ref q7, .ref q8, .int 0, .int 0, .int (-1), .ref q12, .int 0, .null, .int 0, .int 0])), (q0, .inl (cI, 5, .inl (fun _ => 0))), (q2, .inl (cZ, 4, .inl (fun _ => 0))), (q5, .inl (cI, 24, .inl (fun _ => 0))), (q6, .inl (cI, 24, .inl (fun _ => 0))), (q7, .inl (cI, 24, .inl (fun _ => 0))), (q8, .inl (cI, 24, .inl (fun _ => 0))), (q12, .inl (cI, 24, .inl (fun _ => 0)))] H := hP
  have hD : va_D A [(h, .inr (0, [.ref q0, .int 0, .ref q2, .int 0, .int 0, .ref q5, .ref q6, .ref q7, .ref q8, .int 0, .int 0, .int (-1), .ref q12, .int 0, .null, .int 0, .int 0])), (q0, .inl (cI, 5, .inl (fun _ => 0))), (q2, .inl (cZ, 4, .inl (fun _ => 0))), (q5, .inl (cI, 24, .inl (fun _ => 0))), (q6, .inl (cI, 24, .inl (fun _ => 0))), (q7, .inl (cI, 24, .inl (fun _ => 0))), (q8, .inl (cI, 24, .inl (fun _ => 0))), (q12, .inl (cI, 24, .inl (fun _ => 0)))] := hD
  refine lv_aload_n hx hb dX0_init_88 rfl (lv_at hl 0 rfl) ?_
  refine lv_iconst (v := 0) hx hb dX0_init_89 (by decide) ?_
  refine va_put (D := (dC, dI)) (ci := 0) (v := .int 0) (ty := .int) (C := RX0) (T := TX0) (N := 17) hx hb hts hin0 tyX0 tyX0_ok nmX0 hown hK hP hD hS 0 rfl rfl 13 (by decide) (hts (.fieldLink RX0 52 "MonitorDesk" "latestFailure" "I") (by decide +kernel)) (fun _ h9 => h9) rfl (by decide +kernel) rfl rfl (Nat.le_of_ble_eq_true rfl) dX0_init_90 (fun H locs hP hD hS => ?_)
  have hP : va_P (dC, dI) vwCl [(h, .inr (0, [.ref q0, .int 0, .ref q2, .int 0, .int 0, .ref q5, .ref q6, .ref q7, .ref q8, .int 0, .int 0, .int (-1), .ref q12, .int 0, .null, .int 0, .int 0])), (q0, .inl (cI, 5, .inl (fun _ => 0))), (q2, .inl (cZ, 4, .inl (fun _ => 0))), (q5, .inl (cI, 24, .inl (fun _ => 0))), (q6, .inl (cI, 24, .inl (fun _ => 0))), (q7, .inl (cI, 24, .inl (fun _ => 0))), (q8, .inl (cI, 24, .inl (fun _ => 0))), (q12, .inl (cI, 24, .inl (fun _ => 0)))] H := hP
  have hD : va_D A [(h, .inr (0, [.ref q0, .int 0, .ref q2, .int 0, .int 0, .ref q5, .ref q6, .ref q7, .ref q8, .int 0, .int 0, .int (-1), .ref q12, .int 0, .null, .int 0, .int 0])), (q0, .inl (cI, 5, .inl (fun _ => 0))), (q2, .inl (cZ, 4, .inl (fun _ => 0))), (q5, .inl (cI, 24, .inl (fun _ => 0))), (q6, .inl (cI, 24, .inl (fun _ => 0))), (q7, .inl (cI, 24, .inl (fun _ => 0))), (q8, .inl (cI, 24, .inl (fun _ => 0))), (q12, .inl (cI, 24, .inl (fun _ => 0)))] := hD
  refine lv_aload_n hx hb dX0_init_93 rfl (lv_at hl 0 rfl) ?_
  refine lv_iconst (v := 5) hx hb dX0_init_94 (by decide) ?_
  refine va_newa (atype := .int) (ty := .int) (N' := 5) (a0 := (5, .inl (fun _ => 0))) hx hb (hts (.arrayClass .int) (by decide +kernel)) rfl hK hP hD hS hA (fun _ => rfl) (by decide) (by decide) (Nat.le_of_ble_eq_true rfl) (Nat.le_of_ble_eq_true rfl) (Nat.le_of_ble_eq_true rfl) dX0_init_95 (fun q14 c14 H hK hP hD hS => ?_)
  refine W.widen (k := 8) (n := 134) (Nat.le_of_ble_eq_true rfl) (Nat.le_of_ble_eq_true rfl) ?_
  obtain rfl : cI = c14 := ty_u hK (i := 0) (j := 2) rfl rfl (Or.inl rfl)
  have hK : va_K (dC, dI) vwCl [(cI, .int), (cZ, .boolean)] s := hK.sub [0, 1] rfl
  have hP : va_P (dC, dI) vwCl [(h, .inr (0, [.ref q0, .int 0, .ref q2, .int 0, .int 0, .ref q5, .ref q6, .ref q7, .ref q8, .int 0, .int 0, .int (-1), .ref q12, .int 0, .null, .int 0, .int 0])), (q0, .inl (cI, 5, .inl (fun _ => 0))), (q2, .inl (cZ, 4, .inl (fun _ => 0))), (q5, .inl (cI, 24, .inl (fun _ => 0))), (q6, .inl (cI, 24, .inl (fun _ => 0))), (q7, .inl (cI, 24, .inl (fun _ => 0))), (q8, .inl (cI, 24, .inl (fun _ => 0))), (q12, .inl (cI, 24, .inl (fun _ => 0))), (q14, .inl (cI, 5, .inl (fun _ => 0)))] H := hP
  have hD : va_D A [(h, .inr (0, [.ref q0, .int 0, .ref q2, .int 0, .int 0, .ref q5, .ref q6, .ref q7, .ref q8, .int 0, .int 0, .int (-1), .ref q12, .int 0, .null, .int 0, .int 0])), (q0, .inl (cI, 5, .inl (fun _ => 0))), (q2, .inl (cZ, 4, .inl (fun _ => 0))), (q5, .inl (cI, 24, .inl (fun _ => 0))), (q6, .inl (cI, 24, .inl (fun _ => 0))), (q7, .inl (cI, 24, .inl (fun _ => 0))), (q8, .inl (cI, 24, .inl (fun _ => 0))), (q12, .inl (cI, 24, .inl (fun _ => 0))), (q14, .inl (cI, 5, .inl (fun _ => 0)))] := hD
  refine va_putF (D := (dC, dI)) (ci := 0) (v := .ref q14) (ty := (.array .int)) (C := RX0) (T := TX0) (N := 17) hx hb hts hin0 tyX0 tyX0_ok nmX0 hown hK hP hD hS 0 rfl rfl 14 (by decide) (hts (.fieldLink RX0 55 "MonitorDesk" "held" "[I") (by decide +kernel)) (fun _ h9 => h9) rfl hin rfl (by decide +kernel) rfl rfl (Nat.le_of_ble_eq_true rfl) dX0_init_97 (fun H locs hP hD hS => ?_)
  have hP : va_P (dC, dI) vwCl [(h, .inr (0, [.ref q0, .int 0, .ref q2, .int 0, .int 0, .ref q5, .ref q6, .ref q7, .ref q8, .int 0, .int 0, .int (-1), .ref q12, .int 0, .ref q14, .int 0, .int 0])), (q0, .inl (cI, 5, .inl (fun _ => 0))), (q2, .inl (cZ, 4, .inl (fun _ => 0))), (q5, .inl (cI, 24, .inl (fun _ => 0))), (q6, .inl (cI, 24, .inl (fun _ => 0))), (q7, .inl (cI, 24, .inl (fun _ => 0))), (q8, .inl (cI, 24, .inl (fun _ => 0))), (q12, .inl (cI, 24, .inl (fun _ => 0))), (q14, .inl (cI, 5, .inl (fun _ => 0)))] H := hP
  have hD : va_D A [(h, .inr (0, [.ref q0, .int 0, .ref q2, .int 0, .int 0, .ref q5, .ref q6, .ref q7, .ref q8, .int 0, .int 0, .int (-1), .ref q12, .int 0, .ref q14, .int 0, .int 0])), (q0, .inl (cI, 5, .inl (fun _ => 0))), (q2, .inl (cZ, 4, .inl (fun _ => 0))), (q5, .inl (cI, 24, .inl (fun _ => 0))), (q6, .inl (cI, 24, .inl (fun _ => 0))), (q7, .inl (cI, 24, .inl (fun _ => 0))), (q8, .inl (cI, 24, .inl (fun _ => 0))), (q12, .inl (cI, 24, .inl (fun _ => 0))), (q14, .inl (cI, 5, .inl (fun _ => 0)))] := hD
  refine lv_aload_n hx hb dX0_init_100 rfl (lv_at hl 0 rfl) ?_
  refine lv_iconst (v := 0) hx hb dX0_init_101 (by decide) ?_
  refine va_put (D := (dC, dI)) (ci := 0) (v := .int 0) (ty := .int) (C := RX0) (T := TX0) (N := 17) hx hb hts hin0 tyX0 tyX0_ok nmX0 hown hK hP hD hS 0 rfl rfl 15 (by decide) (hts (.fieldLink RX0 58 "MonitorDesk" "raised" "I") (by decide +kernel)) (fun _ h9 => h9) rfl (by decide +kernel) rfl rfl (Nat.le_of_ble_eq_true rfl) dX0_init_102 (fun H locs hP hD hS => ?_)
  have hP : va_P (dC, dI) vwCl [(h, .inr (0, [.ref q0, .int 0, .ref q2, .int 0, .int 0, .ref q5, .ref q6, .ref q7, .ref q8, .int 0, .int 0, .int (-1), .ref q12, .int 0, .ref q14, .int 0, .int 0])), (q0, .inl (cI, 5, .inl (fun _ => 0))), (q2, .inl (cZ, 4, .inl (fun _ => 0))), (q5, .inl (cI, 24, .inl (fun _ => 0))), (q6, .inl (cI, 24, .inl (fun _ => 0))), (q7, .inl (cI, 24, .inl (fun _ => 0))), (q8, .inl (cI, 24, .inl (fun _ => 0))), (q12, .inl (cI, 24, .inl (fun _ => 0))), (q14, .inl (cI, 5, .inl (fun _ => 0)))] H := hP
  have hD : va_D A [(h, .inr (0, [.ref q0, .int 0, .ref q2, .int 0, .int 0, .ref q5, .ref q6, .ref q7, .ref q8, .int 0, .int 0, .int (-1), .ref q12, .int 0, .ref q14, .int 0, .int 0])), (q0, .inl (cI, 5, .inl (fun _ => 0))), (q2, .inl (cZ, 4, .inl (fun _ => 0))), (q5, .inl (cI, 24, .inl (fun _ => 0))), (q6, .inl (cI, 24, .inl (fun _ => 0))), (q7, .inl (cI, 24, .inl (fun _ => 0))), (q8, .inl (cI, 24, .inl (fun _ => 0))), (q12, .inl (cI, 24, .inl (fun _ => 0))), (q14, .inl (cI, 5, .inl (fun _ => 0)))] := hD
  refine lv_aload_n hx hb dX0_init_105 rfl (lv_at hl 0 rfl) ?_
  refine lv_iconst (v := 0) hx hb dX0_init_106 (by decide) ?_
  refine va_put (D := (dC, dI)) (ci := 0) (v := .int 0) (ty := .int) (C := RX0) (T := TX0) (N := 17) hx hb hts hin0 tyX0 tyX0_ok nmX0 hown hK hP hD hS 0 rfl rfl 16 (by decide) (hts (.fieldLink RX0 61 "MonitorDesk" "resumeAt" "I") (by decide +kernel)) (fun _ h9 => h9) rfl (by decide +kernel) rfl rfl (Nat.le_of_ble_eq_true rfl) dX0_init_107 (fun H locs hP hD hS => ?_)
  have hP : va_P (dC, dI) vwCl [(h, .inr (0, [.ref q0, .int 0, .ref q2, .int 0, .int 0, .ref q5, .ref q6, .ref q7, .ref q8, .int 0, .int 0, .int (-1), .ref q12, .int 0, .ref q14, .int 0, .int 0])), (q0, .inl (cI, 5, .inl (fun _ => 0))), (q2, .inl (cZ, 4, .inl (fun _ => 0))), (q5, .inl (cI, 24, .inl (fun _ => 0))), (q6, .inl (cI, 24, .inl (fun _ => 0))), (q7, .inl (cI, 24, .inl (fun _ => 0))), (q8, .inl (cI, 24, .inl (fun _ => 0))), (q12, .inl (cI, 24, .inl (fun _ => 0))), (q14, .inl (cI, 5, .inl (fun _ => 0)))] H := hP
  have hD : va_D A [(h, .inr (0, [.ref q0, .int 0, .ref q2, .int 0, .int 0, .ref q5, .ref q6, .ref q7, .ref q8, .int 0, .int 0, .int (-1), .ref q12, .int 0, .ref q14, .int 0, .int 0])), (q0, .inl (cI, 5, .inl (fun _ => 0))), (q2, .inl (cZ, 4, .inl (fun _ => 0))), (q5, .inl (cI, 24, .inl (fun _ => 0))), (q6, .inl (cI, 24, .inl (fun _ => 0))), (q7, .inl (cI, 24, .inl (fun _ => 0))), (q8, .inl (cI, 24, .inl (fun _ => 0))), (q12, .inl (cI, 24, .inl (fun _ => 0))), (q14, .inl (cI, 5, .inl (fun _ => 0)))] := hD
  obtain ⟨q, hq⟩ : ∃ q : Nat → Nat, q = fun k => if k = 0 then q0 else if k = 2 then q2 else if k = 5 then q5 else if k = 6 then q6 else if k = 7 then q7 else if k = 8 then q8 else if k = 12 then q12 else if k = 14 then q14 else 0 := ⟨_, rfl⟩
  have G : gx_ (dC, dI) A s.heap H locs (gw0_ cI cZ h q pd_zero) := by
    subst hq
    exact ⟨hP, hD, hS⟩
  refine lv_aload_n hx hb dX0_init_110 rfl (lv_at hl 0 rfl) ?_
  refine gg0_get (v := .ref (q 12)) hx hb hts hin0 hown hK G 12 (by decide) (index := 49) (by decide +kernel) rfl dX0_init_111 ?_
  refine lv_bipush (v := (-9)) hx hb dX0_init_114 (by decide) ?_
  refine gx_fill (pl := 7) (rest := []) (v := (-9)) hx hb hml hown hts hK hA G rfl (Nat.le_of_ble_eq_true rfl) gX0_init_J7_fill_53178 ⟨Nat.le_of_ble_eq_true rfl, Nat.le_of_ble_eq_true rfl⟩ hl.1 (Nat.le_of_ble_eq_true rfl) dX0_init_116 (Nat.le_of_ble_eq_true rfl) (Nat.le_of_ble_eq_true rfl) (fun H locs G => ?_)
  have G : gx_ (dC, dI) A s.heap H locs (gw0_ cI cZ h q (st_sf pd_zero 12 (pj_fill 24 (-9) (pd_zero.2 12)))) := G
  exact W.vret hx hb hr (fun t ht hW => ⟨⟨(), rfl, trivial, cI, cZ, q, by rw [ht]; exact G.1, va_K.moved hW.alike hK, G.2.1⟩, G.2.2.F ht⟩) G.2.2.2.2 dX0_init_119
end
section
/-! the desk between calls, in numbers: n steps, the open blocks L -/
theorem rs_1 (u : st_T) (k : Nat) (v : Int32) (j : Nat) : (st_si u k v).1 j = if j = k then v else u.1 j := rfl
theorem rs_2 (u : st_T) (k : Nat) (v : Int32) : (st_si u k v).2 = u.2 := rfl
theorem rs_3 (u : st_T) (k i : Nat) (v : Int32) : (st_sa u k i v).1 = u.1 := rfl
theorem rs_4 (u : st_T) (k i : Nat) (v : Int32) (j : Nat) : (st_sa u k i v).2 j = if j = k then upd (u.2 k) i v else u.2 j := rfl
theorem up_s (f : Nat → Int32) (i : Nat) (v : Int32) : upd f i v i = v := by simp [upd]
theorem up_n (f : Nat → Int32) {i j : Nat} (v : Int32) (h : j ≠ i) : upd f i v j = f j := by simp [upd, h]
theorem ix_n {n : Nat} (h : n < 2 ^ 31) : ix (nI n) = n := nI_clamp h
theorem nI_m1 {n : Nat} (h : n < 2 ^ 31) : ¬ nI n = -1 := fun z => by
  have := nI_toInt h
  rw [z, show (-1 : Int32).toInt = -1 by decide] at this
  omega
theorem nI_eq0 {n : Nat} (h : n < 2 ^ 31) : nI n = 0 ↔ n = 0 := by
  rw [← nI_0, nI_eq h (by decide)]
/-- the latest open block's number, or -1 -/
def tp_ : List Nat → Int32
  | [] => -1
  | b :: _ => nI b
def ch_ (f : Nat → Int32) (n : Nat) : List Nat → Prop
  | [] => True
  | b :: r => b < n ∧ f b = tp_ r ∧ ch_ f n r
theorem ch_up {f : Nat → Int32} {n : Nat} {x : Int32} : ∀ {L : List Nat}, ch_ f n L → ch_ (upd f n x) (n + 1) L := by
  intro L
  induction L with
  | nil => intro _; trivial
  | cons b r ih =>
    intro h
    exact ⟨by have := h.1; omega, by rw [up_n _ _ (by have := h.1; omega)]; exact h.2.1, ih h.2.2⟩
def ar_ (f : Nat → Int32) : Prop := ∀ j : Nat, j < 24 → f j = -1 ∨ vp_in (f j) 24
def jv_ (u : st_T) (n : Nat) (L : List Nat) : Prop := u.1 9 = nI n ∧ n ≤ 24 ∧ (u.1 4 = 0 ∨ u.1 4 = 1) ∧ ar_ (u.2 7) ∧ u.1 10 = nI L.length ∧ u.1 11 = tp_ L ∧ ch_ (u.2 7) n L ∧ L.length ≤ 8
theorem tp_in {f : Nat → Int32} {n : Nat} {L : List Nat} (h : ch_ f n L) (hn : n ≤ 24) : tp_ L = -1 ∨ vp_in (tp_ L) 24 := by
  cases L with
  | nil => exact Or.inl rfl
  | cons b r => exact Or.inr (vp_in_nI (by have := h.1; omega) (by decide))
theorem jv_pre {u : st_T} {n : Nat} {L : List Nat} (h : jv_ u n L) : ¬ u.1 9 < 0 ∧ (u.1 11 = -1 ∨ vp_in (u.1 11) 24) := by
  obtain ⟨h9, hn, h4, h7, h10, h11, hc, h8⟩ := h
  exact ⟨by rw [h9]; exact nI_pos (by omega), by rw [h11]; exact tp_in hc hn⟩
theorem jv_init : jv_ pd_init 0 [] := ⟨rfl, by omega, Or.inl rfl, fun j _ => Or.inr (in_z (by decide)), rfl, rfl, trivial, by decide⟩
theorem hold_ok {u : st_T} {a b : Int32} (h1 : ¬ a < 0) (h2 : ¬ 5 ≤ a) (h3 : ¬ b < -2) (h4 : b < 5) : (pd_hold u a b).1 = 0 ∧ ∀ (n : Nat) (L : List Nat), jv_ u n L → jv_ (pd_hold u a b).2 n L := by
  unfold pd_hold
  rw [if_neg h1, if_neg h2, if_neg h3, if_pos h4]
  by_cases h5 : b = -2
  · rw [if_pos h5]; exact ⟨rfl, fun n L h => h⟩
  · rw [if_neg h5]
    by_cases h6 : b = -1
    · rw [if_pos h6]; exact ⟨rfl, fun n L h => h⟩
    · rw [if_neg h6]; exact ⟨rfl, fun n L h => h⟩
theorem clear_ok {u : st_T} {n : Nat} {L : List Nat} (h : jv_ u n L) : ¬ (pd_clear u).1 < 0 ∧ jv_ (pd_clear u).2 0 [] := by
  obtain ⟨h9, hn, h4, h7, h10, h11, hc, h8⟩ := h
  unfold pd_clear
  exact ⟨by show ¬ u.1 9 < 0; rw [h9]; exact nI_pos (by omega), rfl, by omega, h4, h7, rfl, rfl, trivial, by decide⟩
theorem ob_1 {a : Int32} (h : a = 1 ∨ a = 2) : pd_opensBlock a = 1 := by rcases h with rfl | rfl <;> decide
theorem ob_0 {a : Int32} (h : ¬ (a = 1 ∨ a = 2)) : pd_opensBlock a = 0 := by
  unfold pd_opensBlock
  rw [if_neg (fun z => h (Or.inl z)), if_neg (fun z => h (Or.inr z))]
theorem ar_up {f : Nat → Int32} {k : Nat} {x : Int32} (h : ar_ f) (hx : x = -1 ∨ vp_in x 24) : ar_ (upd f k x) := by
  intro j hj
  by_cases e : j = k
  · subst e; rw [up_s]; exact hx
  · rw [up_n _ _ e]; exact h j hj
/-- an END of an open block is taken -/
theorem end_ok {u : st_T} {n b : Nat} {r : List Nat} (h : jv_ u n (b :: r)) (hn24 : n < 24) (c : Int32) : jv_ (pd_step u 0 c).2 (n + 1) r := by
  obtain ⟨h9, hn, h4, h7, h10, h11, hc, h8⟩ := h
  have hlt : u.1 9 < 24 := by
    rw [h9, show (24 : Int32) = nI 24 from by decide, nI_ltI (by omega) (by decide)]
    omega
  have e97 : ix (u.1 9) = n := by rw [h9]; exact ix_n (by omega)
  have hb := hc.1
  have e11 : u.1 11 = nI b := h11
  have e117 : ix (u.1 11) = b := by rw [e11]; exact ix_n (by omega)
  rw [List.length_cons] at h10 h8
  unfold pd_step
  rw [if_neg (by decide), if_neg (by decide), if_pos hlt, if_pos rfl, if_neg (by rw [e11]; exact nI_m1 (by omega) : ¬ u.1 11 = -1), if_pos (by decide : pd_opensBlock 0 = 0)]
  unfold pd_step_86
  rw [if_pos (by decide : pd_opensBlock 0 = 0), if_pos rfl]
  have ear : (st_sa (st_sa (st_sa u 5 (ix (u.1 9)) 0) 6 (ix (u.1 9)) c) 7 (ix (u.1 9)) (u.1 11)).2 7 (ix (u.1 11)) = tp_ r := by
    show upd (u.2 7) (ix (u.1 9)) (u.1 11) (ix (u.1 11)) = tp_ r
    rw [e97, e117, up_n _ _ (by omega)]
    exact hc.2.1
  rw [ear, e97, e117]
  refine ⟨?_, by omega, h4, ?_, ?_, rfl, ?_, by omega⟩
  · show u.1 9 + 1 = _
    rw [h9, nI_1]
  · show ar_ (upd (u.2 7) n (u.1 11))
    exact ar_up h7 (by rw [e11]; exact Or.inr (vp_in_nI (by omega) (by decide)))
  · show u.1 10 - 1 = _
    rw [h10, nI_pred]
  · show ch_ (upd (u.2 7) n (u.1 11)) (n + 1) r
    exact ch_up hc.2.2
/-- any step: the desk stays what it is -/
theorem step_ok {u : st_T} {n : Nat} {L : List Nat} (h : jv_ u n L) (a c : Int32) : ∃ (n1 : Nat) (L1 : List Nat), jv_ (pd_step u a c).2 n1 L1 ∧ n1 + L1.length ≤ n + L.length + 2 := by
  have h0 := h
  obtain ⟨h9, hn, h4, h7, h10, h11, hc, h8⟩ := h
  have same : ∀ w : Int32 × st_T, w.2 = u → ∃ (n1 : Nat) (L1 : List Nat), jv_ w.2 n1 L1 ∧ n1 + L1.length ≤ n + L.length + 2 := fun w hw => ⟨n, L, by rw [hw]; exact h0, by omega⟩
  by_cases a1 : a < 0
  · refine same _ ?_
    unfold pd_step
    rw [if_pos a1]
  · by_cases a2 : 15 < a
    · refine same _ ?_
      unfold pd_step
      rw [if_neg a1, if_pos a2]
    · by_cases hlt : u.1 9 < 24
      · have hn24 : n < 24 := by
          rw [h9, show (24 : Int32) = nI 24 from by decide, nI_ltI (by omega) (by decide)] at hlt
          exact hlt
        by_cases a0 : a = 0
        · subst a0
          cases L with
          | nil =>
            refine same _ ?_
            unfold pd_step
            rw [if_neg a1, if_neg a2, if_pos hlt, if_pos rfl, if_pos (by rw [h11]; rfl : u.1 11 = -1)]
          | cons b r => exact ⟨n + 1, r, end_ok h0 hn24 c, by rw [List.length_cons]; omega⟩
        · have e97 : ix (u.1 9) = n := by rw [h9]; exact ix_n (by omega)
          have hx11 : u.1 11 = -1 ∨ vp_in (u.1 11) 24 := by rw [h11]; exact tp_in hc hn
          by_cases a12 : a = 1 ∨ a = 2
          · have ob : ¬ pd_opensBlock a = 0 := by rw [ob_1 a12]; decide
            by_cases l8 : u.1 10 < 8
            · have hl8 : L.length < 8 := by
                rw [h10, show (8 : Int32) = nI 8 from by decide, nI_ltI (by omega) (by decide)] at l8
                exact l8
              refine ⟨n + 1, n :: L, ?_, by rw [List.length_cons]; omega⟩
              unfold pd_step
              rw [if_neg a1, if_neg a2, if_pos hlt, if_neg a0, if_neg ob, if_pos l8]
              unfold pd_step_86
              rw [if_neg ob, e97]
              refine ⟨?_, by omega, h4, ?_, ?_, h9, ?_, by rw [List.length_cons]; omega⟩
              · show u.1 9 + 1 = _
                rw [h9, nI_1]
              · show ar_ (upd (u.2 7) n (u.1 11))
                exact ar_up h7 hx11
              · show u.1 10 + 1 = _
                rw [h10, nI_1, List.length_cons]
              · show ch_ (upd (u.2 7) n (u.1 11)) (n + 1) (n :: L)
                exact ⟨by omega, by rw [up_s]; exact h11, ch_up hc⟩
            · refine same _ ?_
              unfold pd_step
              rw [if_neg a1, if_neg a2, if_pos hlt, if_neg a0, if_neg ob, if_neg l8]
          · have ob : pd_opensBlock a = 0 := ob_0 a12
            refine ⟨n + 1, L, ?_, by omega⟩
            unfold pd_step
            rw [if_neg a1, if_neg a2, if_pos hlt, if_neg a0, if_pos ob]
            unfold pd_step_86
            rw [if_pos ob, if_neg a0, e97]
            refine ⟨?_, by omega, h4, ?_, h10, h11, ?_, h8⟩
            · show u.1 9 + 1 = _
              rw [h9, nI_1]
            · show ar_ (upd (u.2 7) n (u.1 11))
              exact ar_up h7 hx11
            · show ch_ (upd (u.2 7) n (u.1 11)) (n + 1) L
              exact ch_up hc
      · refine same _ ?_
        unfold pd_step
        rw [if_neg a1, if_neg a2, if_neg hlt]
/-! within a run: what stays -/
def sm_ (v w : st_T) : Prop := w.1 9 = v.1 9 ∧ w.1 10 = v.1 10 ∧ w.1 11 = v.1 11 ∧ w.2 7 = v.2 7 ∧ (v.1 4 = 0 ∨ v.1 4 = 1 → w.1 4 = 0 ∨ w.1 4 = 1)
theorem sm_rf (v : st_T) : sm_ v v := ⟨rfl, rfl, rfl, rfl, id⟩
theorem sm_tr {a b c : st_T} (h : sm_ a b) (k : sm_ b c) : sm_ a c := ⟨k.1.trans h.1, k.2.1.trans h.2.1, k.2.2.1.trans h.2.2.1, k.2.2.2.1.trans h.2.2.2.1, fun z => k.2.2.2.2 (h.2.2.2.2 z)⟩
theorem sm_raise (v : st_T) (c : Int32) : sm_ v (pd_raise v c).2 := ⟨rfl, rfl, rfl, rfl, id⟩
theorem sm_giveBack (v : st_T) (p0 : Int32) : sm_ v (pd_giveBack v p0).2 := ⟨rfl, rfl, rfl, rfl, id⟩
theorem sm_takeFlag (v : st_T) : sm_ v (pd_takeFlag v).2 := ⟨rfl, rfl, rfl, rfl, fun _ => Or.inl rfl⟩
theorem sm_tr2 (v : st_T) (c : Int32) : sm_ v (pd_raise (pd_takeFlag v).2 c).2 := sm_tr (sm_takeFlag v) (sm_raise _ c)
theorem sm_endBlock (v : st_T) (p0 : Int32) : sm_ v (pd_endBlock v p0).2 := by
  unfold pd_endBlock
  split
  · exact sm_rf v
  · exact sm_giveBack v p0
theorem sm_enter (v : st_T) (p0 : Int32) : sm_ v (pd_enter v p0).2 := by
  unfold pd_enter
  split
  · exact sm_raise v 1
  · exact ⟨rfl, rfl, rfl, rfl, id⟩
theorem sm_notify (v : st_T) (p0 : Int32) : sm_ v (pd_notifyWaiting v p0).2 := by
  unfold pd_notifyWaiting
  split
  · exact sm_raise v 1
  · split
    · exact sm_raise v 2
    · exact sm_rf v
theorem sm_holds (v : st_T) (p0 : Int32) : sm_ v (pd_holdsLock v p0).2 := by
  unfold pd_holdsLock
  split
  · exact sm_raise v 1
  · split
    · exact sm_rf v
    · exact sm_rf v
theorem sm_ite {v : st_T} {c : Prop} [Decidable c] {a b : Int32 × st_T} (ha : sm_ v a.2) (hb : sm_ v b.2) : sm_ v (if c then a else b).2 := by
  by_cases h : c
  · rw [if_pos h]; exact ha
  · rw [if_neg h]; exact hb
theorem sm_await (v : st_T) (p0 : Int32) : sm_ v (pd_awaitNotice v p0).2 := by
  unfold pd_awaitNotice
  exact sm_ite (sm_ite (sm_raise v 1) (sm_raise v 3)) (sm_ite (sm_raise v 1) (sm_ite (sm_ite (sm_raise v 2) (sm_ite (sm_takeFlag v) (sm_tr2 v 4))) (sm_raise v 3)))
theorem sm_sleep (v : st_T) (p0 : Int32) : sm_ v (pd_sleep v p0).2 := by
  unfold pd_sleep
  split
  · split
    · exact sm_takeFlag v
    · exact sm_tr2 v 4
  · exact sm_raise v 3
theorem sm_start (v : st_T) (p0 : Int32) : sm_ v (pd_start v p0).2 := by
  unfold pd_start
  split
  · exact ⟨rfl, rfl, rfl, rfl, id⟩
  · exact sm_raise v 5
theorem sm_perform (v : st_T) (p0 : Int32) : sm_ v (pd_perform v p0).2 := by
  unfold pd_perform
  refine sm_ite (sm_endBlock v _) ?_
  refine sm_ite (sm_enter v _) ?_
  refine sm_ite (sm_rf v) ?_
  refine sm_ite (sm_notify v _) ?_
  refine sm_ite (sm_notify v _) ?_
  refine sm_ite (sm_holds v _) ?_
  refine sm_ite (sm_await v _) ?_
  refine sm_ite (⟨rfl, rfl, rfl, rfl, fun _ => Or.inr rfl⟩) ?_
  refine sm_ite (sm_takeFlag v) ?_
  refine sm_ite (sm_rf v) ?_
  refine sm_ite (sm_sleep v _) ?_
  refine sm_ite (sm_raise v _) ?_
  refine sm_ite (sm_start v _) ?_
  refine sm_ite (sm_rf v) ?_
  refine sm_ite (sm_rf v) ?_
  refine sm_ite (⟨rfl, rfl, rfl, rfl, id⟩) ?_
  exact sm_rf v
theorem sm_lb : ∀ (n : Nat) (v : st_T) (b k : Int32), sm_ v (pd_lb n v b k).2 := by
  intro n
  induction n with
  | zero => intro v b k; exact sm_rf v
  | succ n ih =>
    intro v b k
    rw [pd_lb_s]
    split
    · exact sm_rf v
    · split
      · exact sm_rf v
      · exact sm_tr (sm_giveBack v b) (ih _ _ _)
theorem sm_lt (v : st_T) (b : Int32) : sm_ v (pd_lt v b) := by
  unfold pd_lt
  split
  · exact ⟨rfl, rfl, rfl, rfl, id⟩
  · exact ⟨rfl, rfl, rfl, rfl, id⟩
theorem sm_leave (v : st_T) (p0 : Int32) : sm_ v (pd_leaveBlocks v p0) := by
  unfold pd_leaveBlocks
  exact sm_tr (sm_lb _ _ _ _) (sm_lt _ _)
theorem sm_res (v : st_T) (j : Nat) (x : Int32) : sm_ v (st_sa v 12 j x) := ⟨rfl, rfl, rfl, rfl, id⟩
theorem sm_code (v : st_T) (x : Int32) : sm_ v (st_si v 15 x) := ⟨rfl, rfl, rfl, rfl, id⟩
theorem sm_doStep (v : st_T) (p0 : Int32) : sm_ v (pd_doStep v p0) := by
  unfold pd_doStep
  split
  · exact sm_tr (sm_tr (sm_code v 0) (sm_perform _ p0)) (sm_res _ _ _)
  · exact sm_tr (sm_tr (sm_tr (sm_code v 0) (sm_perform _ p0)) (sm_res _ _ _)) (sm_leave _ _)
theorem rl_ok {n : Nat} (hn : n ≤ 24) : ∀ (f i dd : Nat) (v : st_T), v.1 9 = nI n → (v.1 4 = 0 ∨ v.1 4 = 1) → ar_ (v.2 7) → i ≤ n → n - i < f → dd + f ≤ 100 →
    pd_rok f v (nI i) ∧ sm_ v (pd_rl f v (nI dd) (nI i)).2 ∧ ∃ e : Nat, e ≤ 100 ∧ (pd_rl f v (nI dd) (nI i)).1 = nI e := by
  intro f
  induction f with
  | zero => intro i dd v h9 h4 h7 hi hf; omega
  | succ f ih =>
    intro i dd v h9 h4 h7 hi hf hd
    rw [pd_rl_s, pd_rok]
    rcases Nat.lt_or_ge i n with z | z
    · have a1 : ¬ v.1 9 ≤ nI i := by rw [h9, nI_leI (by omega) (by omega)]; omega
      rw [if_neg a1, if_neg a1]
      by_cases a2 : nI i < v.1 16
      · rw [if_pos a2, if_pos a2, nI_1]
        exact ih (i + 1) dd v h9 h4 h7 (by omega) (by omega) (by omega)
      · rw [if_neg a2, if_neg a2, nI_1, nI_1]
        have hs := sm_doStep v (nI i)
        obtain ⟨q1, q2, q3⟩ := ih (i + 1) (dd + 1) (pd_doStep v (nI i)) (hs.1.trans h9) (hs.2.2.2.2 h4) (by rw [hs.2.2.2.1]; exact h7) (by omega) (by omega) (by omega)
        have hp : sm_ v (pd_perform (st_si v 15 0) (nI i)).2 := sm_tr (sm_code v 0) (sm_perform _ _)
        exact ⟨⟨⟨vp_in_nI (by omega) (by decide), h4, by rw [ix_n (by omega)]; exact h7 i (by omega), by rw [hp.2.2.2.1]; exact h7⟩, q1⟩, sm_tr hs q2, q3⟩
    · have a1 : v.1 9 ≤ nI i := by rw [h9, nI_leI (by omega) (by omega)]; omega
      rw [if_pos a1, if_pos a1]
      exact ⟨trivial, sm_rf v, dd, by omega, rfl⟩
theorem jv_sm {u w : st_T} {n : Nat} {L : List Nat} (h : jv_ u n L) (k : sm_ u w) : jv_ w n L := by
  obtain ⟨h9, hn, h4, h7, h10, h11, hc, h8⟩ := h
  exact ⟨k.1.trans h9, hn, k.2.2.2.2 h4, by rw [k.2.2.2.1]; exact h7, k.2.1.trans h10, k.2.2.1.trans h11, by rw [k.2.2.2.1]; exact hc, h8⟩
theorem sm_r0 (u : st_T) : sm_ u (pd_r0 u) := ⟨rfl, rfl, rfl, rfl, id⟩
theorem run_pre {u : st_T} {n : Nat} {L : List Nat} (h : jv_ u n L) : u.1 10 = 0 → pd_rok 25 (pd_r0 u) 0 := fun _ => by
  have h1 := jv_sm h (sm_r0 u)
  exact (rl_ok h.2.1 25 0 0 (pd_r0 u) h1.1 h1.2.2.1 h1.2.2.2.1 (Nat.zero_le _) (by have := h.2.1; omega) (by omega)).1
theorem run_ok {u : st_T} {n : Nat} {L : List Nat} (h : jv_ u n L) (h0 : u.1 10 = 0) : ¬ (pd_run u).1 < 0 ∧ jv_ (pd_run u).2 n L := by
  have h1 := jv_sm h (sm_r0 u)
  obtain ⟨q1, q2, e, q3, q4⟩ := rl_ok h.2.1 25 0 0 (pd_r0 u) h1.1 h1.2.2.1 h1.2.2.2.1 (Nat.zero_le _) (by have := h.2.1; omega) (by omega)
  have e1 : pd_run u = pd_rl 25 (pd_r0 u) (nI 0) (nI 0) := by unfold pd_run; rw [if_pos h0]; rfl
  rw [e1]
  exact ⟨by rw [q4]; exact nI_pos (by omega), jv_sm h1 q2⟩
end
section
/-! the program HOLDS, TRY, NOTIFY, END, in numbers -/
theorem pp_2 {u : st_T} {p0 : Int32} (h : u.2 5 (ix p0) = 2) : pd_perform u p0 = (0, u) := by
  unfold pd_perform
  rw [if_neg (by rw [h]; decide), if_neg (by rw [h]; decide), if_pos h]
theorem pp_3 {u : st_T} {p0 : Int32} (h : u.2 5 (ix p0) = 3) : pd_perform u p0 = ((pd_notifyWaiting u (pj_floorMod_7cf53 (u.2 6 (ix p0)) 5)).1, (pd_notifyWaiting u (pj_floorMod_7cf53 (u.2 6 (ix p0)) 5)).2) := by
  unfold pd_perform
  rw [if_neg (by rw [h]; decide), if_neg (by rw [h]; decide), if_neg (by rw [h]; decide), if_pos h]
theorem pp_5 {u : st_T} {p0 : Int32} (h : u.2 5 (ix p0) = 5) : pd_perform u p0 = ((pd_holdsLock u (pj_floorMod_7cf53 (u.2 6 (ix p0)) 5)).1, (pd_holdsLock u (pj_floorMod_7cf53 (u.2 6 (ix p0)) 5)).2) := by
  unfold pd_perform
  rw [if_neg (by rw [h]; decide), if_neg (by rw [h]; decide), if_neg (by rw [h]; decide), if_neg (by rw [h]; decide), if_neg (by rw [h]; decide), if_pos h]
theorem ix_lt {x : Int32} {n : Nat} (h : vp_in x n) : ix x < n := by
  have := vp_in_iff.mp h
  show x.toInt.toNat < n
  omega
theorem fm_5 {x : Nat} (hx : x < 5) : pj_floorMod_7cf53 (nI x) 5 = nI x := Int32.toInt_inj.mp (by
  rw [fm_toInt (by decide), nI_toInt (by omega), show (5 : Int32).toInt = 5 by decide]
  omega)
theorem i_lt24 {u : st_T} {n : Nat} (h9 : u.1 9 = nI n) (hn : n < 24) : u.1 9 < 24 := by
  rw [h9, show (24 : Int32) = nI 24 from by decide, nI_ltI (by omega) (by decide)]
  exact hn
theorem step_pl {u : st_T} {n : Nat} {a : Int32} (h9 : u.1 9 = nI n) (hn : n < 24) (a1 : ¬ a < 0) (a2 : ¬ 15 < a) (a0 : ¬ a = 0) (ob : pd_opensBlock a = 0) (c : Int32) : pd_step u a c = (nI (n + 1), st_si (st_sa (st_sa (st_sa u 5 n a) 6 n c) 7 n (u.1 11)) 9 (nI (n + 1))) := by
  have e97 : ix (u.1 9) = n := by rw [h9]; exact ix_n (by omega)
  unfold pd_step
  rw [if_neg a1, if_neg a2, if_pos (i_lt24 h9 hn), if_neg a0, if_pos ob]
  unfold pd_step_86
  rw [if_pos ob, if_neg a0, e97, h9, nI_1]
theorem step_op {u : st_T} {n : Nat} (h9 : u.1 9 = nI n) (hn : n < 24) (l8 : u.1 10 < 8) (c : Int32) : pd_step u 2 c = (nI (n + 1), st_si (st_si (st_si (st_sa (st_sa (st_sa u 5 n 2) 6 n c) 7 n (u.1 11)) 11 (nI n)) 10 (u.1 10 + 1)) 9 (nI (n + 1))) := by
  have e97 : ix (u.1 9) = n := by rw [h9]; exact ix_n (by omega)
  have ob : ¬ pd_opensBlock 2 = 0 := by decide
  unfold pd_step
  rw [if_neg (by decide), if_neg (by decide), if_pos (i_lt24 h9 hn), if_neg (by decide), if_neg ob, if_pos l8]
  unfold pd_step_86
  rw [if_neg ob, e97, h9, nI_1]
theorem step_en {u : st_T} {n b : Nat} (h9 : u.1 9 = nI n) (hn : n < 24) (h11 : u.1 11 = nI b) (hb : b < n) (c : Int32) : pd_step u 0 c = (nI (n + 1), st_si (st_si (st_si (st_sa (st_sa (st_sa (st_sa u 5 n 0) 6 n c) 7 n (nI b)) 8 b (nI n)) 11 (u.2 7 b)) 10 (u.1 10 - 1)) 9 (nI (n + 1))) := by
  have e97 : ix (u.1 9) = n := by rw [h9]; exact ix_n (by omega)
  have e117 : ix (u.1 11) = b := by rw [h11]; exact ix_n (by omega)
  unfold pd_step
  rw [if_neg (by decide), if_neg (by decide), if_pos (i_lt24 h9 hn), if_pos rfl, if_neg (by rw [h11]; exact nI_m1 (by omega) : ¬ u.1 11 = -1), if_pos (by decide : pd_opensBlock 0 = 0)]
  unfold pd_step_86
  rw [if_pos (by decide : pd_opensBlock 0 = 0), if_pos rfl]
  have ear : (st_sa (st_sa (st_sa u 5 (ix (u.1 9)) 0) 6 (ix (u.1 9)) c) 7 (ix (u.1 9)) (u.1 11)).2 7 (ix (u.1 11)) = u.2 7 b := by
    show upd (u.2 7) (ix (u.1 9)) (u.1 11) (ix (u.1 11)) = _
    rw [e97, e117, up_n _ _ (by omega)]
  rw [ear, e97, e117, h9, h11, nI_1]
/-- throwing outside of every block, and just within a TRY -/
theorem lv_top {z : st_T} {p0 : Int32} (h : z.2 7 (ix p0) = -1) : pd_leaveBlocks z p0 = st_si (st_si z 13 (z.1 15)) 16 (z.1 9) := by
  have e : pd_lb 9 z (-1) 8 = (-1, z) := by
    rw [pd_lb_s, if_neg (by decide), if_pos (by unfold pd_isEnter; exact if_pos rfl)]
  unfold pd_leaveBlocks
  rw [h, e]
  unfold pd_lt
  exact if_pos rfl
theorem lv_try {z : st_T} {p0 : Int32} {b : Nat} (h : z.2 7 (ix p0) = nI b) (hb : b < 24) (ho : z.2 5 b = 2) : pd_leaveBlocks z p0 = st_si (st_sa z 12 b (z.1 15)) 16 (z.2 8 b + 1) := by
  have e : pd_lb 9 z (nI b) 8 = (nI b, z) := by
    rw [pd_lb_s, if_neg (by decide), if_pos (by unfold pd_isEnter; rw [if_neg (nI_m1 (by omega)), ix_n (by omega), if_neg (by rw [ho]; decide)])]
  unfold pd_leaveBlocks
  rw [h, e]
  unfold pd_lt
  rw [if_neg (nI_m1 (by omega)), ix_n (by omega)]
theorem rl_skip {v : st_T} {d : Int32} (h9 : v.1 9 = nI 4) (h16 : v.1 16 = nI 4) : ∀ (f i : Nat), i ≤ 4 → 4 - i < f → pd_rl f v d (nI i) = (d, v) := by
  intro f
  induction f with
  | zero => intro i h1 h2; omega
  | succ f ih =>
    intro i h1 h2
    rw [pd_rl_s]
    rcases Nat.lt_or_ge i 4 with z | z
    · rw [if_neg (by rw [h9, nI_leI (by omega) (by omega)]; omega), if_pos (by rw [h16, nI_ltI (by omega) (by omega)]; omega), nI_1]
      exact ih (i + 1) (by omega) (by omega)
    · rw [if_pos (by rw [h9, nI_leI (by omega) (by omega)]; omega)]
theorem rl_go {v : st_T} {f i dd : Nat} (h9 : v.1 9 = nI 4) (h16 : v.1 16 = nI 0) (hi : i < 4) : pd_rl (f + 1) v (nI dd) (nI i) = pd_rl f (pd_doStep v (nI i)) (nI (dd + 1)) (nI (i + 1)) := by
  rw [pd_rl_s, if_neg (by rw [h9, nI_leI (by omega) (by omega)]; omega), if_neg (by rw [h16, nI_ltI (by omega) (by omega)]; omega), nI_1, nI_1]
/-- the desk with that program in it -/
def qf_ (w : st_T) (lk : Nat → Int32) (x : Nat) : Prop := w.1 9 = nI 4 ∧ w.1 10 = 0 ∧ w.2 5 0 = 5 ∧ w.2 5 1 = 2 ∧ w.2 5 2 = 3 ∧ w.2 6 0 = nI x ∧ w.2 6 2 = nI x ∧ w.2 7 0 = -1 ∧ w.2 7 2 = nI 1 ∧ w.2 8 1 = nI 3 ∧ w.2 0 = lk
theorem r0_ok {w : st_T} {lk : Nat → Int32} {x : Nat} (h : qf_ w lk x) : ∃ r : st_T, pd_run w = pd_rl 25 r (nI 0) (nI 0) ∧ qf_ r lk x ∧ r.1 16 = nI 0 ∧ r.1 13 = 0 ∧ ∀ j, j < 5 → r.2 14 j = 0 :=
  ⟨pd_r0 w, by unfold pd_run; rw [if_pos h.2.1]; rfl, h, rfl, rfl, fun j hj => by
    show pj_fill 5 0 _ j = 0
    exact if_pos hj⟩
theorem do_null {r : st_T} {lk : Nat → Int32} {x : Nat} (h : qf_ r lk x) (hx : x < 5) (h0 : lk x = 0) : pd_doStep r (nI 0) = st_si (st_si (st_sa (st_si (st_si r 15 0) 15 1) 12 0 (-999)) 13 1) 16 (r.1 9) := by
  obtain ⟨h9, h10, o0, o1, o2, g0, g2, a0, a2, e1, hl⟩ := h
  have p0 : pd_perform (st_si r 15 0) (nI 0) = (0, st_si (st_si r 15 0) 15 1) := by
    have eh : pd_holdsLock (st_si r 15 0) (nI x) = (0, st_si (st_si r 15 0) 15 1) := by
      unfold pd_holdsLock
      rw [if_pos (by show r.2 0 (ix (nI x)) = 0; rw [ix_n (by omega), hl]; exact h0)]
      rfl
    have e6 : (st_si r 15 0).2 6 (ix (nI 0)) = nI x := by
      rw [ix_n (by omega)]
      exact g0
    rw [pp_5 (by rw [ix_n (by omega)]; exact o0), e6, fm_5 hx, eh]
  unfold pd_doStep
  rw [p0, if_neg (by show ¬ (1 : Int32) = 0; decide)]
  show pd_leaveBlocks (st_sa (st_si (st_si r 15 0) 15 1) 12 (ix (nI 0)) (1 + -1000)) (nI 0) = _
  rw [ix_n (by omega), show (1 : Int32) + -1000 = -999 by decide, lv_top (z := st_sa (st_si (st_si r 15 0) 15 1) 12 0 (-999)) (by rw [ix_n (by omega)]; exact a0)]
  rfl
theorem do_holds {r : st_T} {lk : Nat → Int32} {x : Nat} (h : qf_ r lk x) (hx : x < 5) (h0 : ¬ lk x = 0) (h14 : ∀ j, j < 5 → r.2 14 j = 0) : pd_doStep r (nI 0) = st_sa (st_si r 15 0) 12 0 0 := by
  obtain ⟨h9, h10, o0, o1, o2, g0, g2, a0, a2, e1, hl⟩ := h
  have p0 : pd_perform (st_si r 15 0) (nI 0) = (0, st_si r 15 0) := by
    have eh : pd_holdsLock (st_si r 15 0) (nI x) = (pd_asNumber 0, st_si r 15 0) := by
      unfold pd_holdsLock
      have ez : (st_si r 15 0).2 14 (ix (pd_leastHandle (st_si r 15 0) (nI x))) = 0 := h14 _ (ix_lt (least_in (vp_in_nI hx (by decide))))
      rw [if_neg (by show ¬ r.2 0 (ix (nI x)) = 0; rw [ix_n (by omega), hl]; exact h0), ez, if_pos (by decide)]
    have e6 : (st_si r 15 0).2 6 (ix (nI 0)) = nI x := by
      rw [ix_n (by omega)]
      exact g0
    rw [pp_5 (by rw [ix_n (by omega)]; exact o0), e6, fm_5 hx, eh]
    rfl
  unfold pd_doStep
  rw [p0, if_pos (by rfl), ix_n (by omega)]
theorem do_try {r : st_T} (o1 : r.2 5 1 = 2) : pd_doStep r (nI 1) = st_sa (st_si r 15 0) 12 1 0 := by
  have p0 : pd_perform (st_si r 15 0) (nI 1) = (0, st_si r 15 0) := pp_2 (by rw [ix_n (by omega)]; exact o1)
  unfold pd_doStep
  rw [p0, if_pos (by rfl), ix_n (by omega)]
theorem do_notify {r : st_T} {lk : Nat → Int32} {x : Nat} (h : qf_ r lk x) (hx : x < 5) (h0 : ¬ lk x = 0) (h14 : ∀ j, j < 5 → r.2 14 j = 0) : pd_doStep r (nI 2) = st_si (st_sa (st_sa (st_si (st_si r 15 0) 15 2) 12 2 (-998)) 12 1 2) 16 (nI 4) := by
  obtain ⟨h9, h10, o0, o1, o2, g0, g2, a0, a2, e1, hl⟩ := h
  have p0 : pd_perform (st_si r 15 0) (nI 2) = (0, st_si (st_si r 15 0) 15 2) := by
    have eh : pd_notifyWaiting (st_si r 15 0) (nI x) = (0, st_si (st_si r 15 0) 15 2) := by
      unfold pd_notifyWaiting
      have ez : (st_si r 15 0).2 14 (ix (pd_leastHandle (st_si r 15 0) (nI x))) = 0 := h14 _ (ix_lt (least_in (vp_in_nI hx (by decide))))
      rw [if_neg (by show ¬ r.2 0 (ix (nI x)) = 0; rw [ix_n (by omega), hl]; exact h0), if_pos ez]
      rfl
    have e6 : (st_si r 15 0).2 6 (ix (nI 2)) = nI x := by
      rw [ix_n (by omega)]
      exact g2
    rw [pp_3 (by rw [ix_n (by omega)]; exact o2), e6, fm_5 hx, eh]
  have e8 : (st_sa (st_si (st_si r 15 0) 15 2) 12 2 (-998)).2 8 1 + 1 = nI 4 := by
    show r.2 8 1 + 1 = nI 4
    rw [e1, nI_1]
  unfold pd_doStep
  rw [p0, if_neg (by show ¬ (2 : Int32) = 0; decide)]
  show pd_leaveBlocks (st_sa (st_si (st_si r 15 0) 15 2) 12 (ix (nI 2)) (2 + -1000)) (nI 2) = _
  rw [ix_n (by omega), show (2 : Int32) + -1000 = -998 by decide, lv_try (z := st_sa (st_si (st_si r 15 0) 15 2) 12 2 (-998)) (b := 1) (by rw [ix_n (by omega)]; exact a2) (by omega) o1, e8]
  rfl
theorem fr_null {w : st_T} {lk : Nat → Int32} {x : Nat} (h : qf_ w lk x) (hx : x < 5) (h0 : lk x = 0) : ∃ z : st_T, pd_run w = (nI 1, z) ∧ z.2 0 = lk ∧ z.2 12 0 = -999 ∧ z.1 13 = 1 := by
  obtain ⟨r, er, hr, r16, r13, r14⟩ := r0_ok h
  have d0 := do_null hr hx h0
  have e := rl_go (f := 24) (dd := 0) (i := 0) hr.1 r16 (by omega)
  rw [d0] at e
  obtain ⟨r1, hr1⟩ : ∃ r1, r1 = st_si (st_si (st_sa (st_si (st_si r 15 0) 15 1) 12 0 (-999)) 13 1) 16 (r.1 9) := ⟨_, rfl⟩
  rw [← hr1] at e
  exact ⟨r1, by rw [er, e, rl_skip (v := r1) (by rw [hr1]; exact hr.1) (by rw [hr1]; exact hr.1) 24 1 (by omega) (by omega)], by rw [hr1]; exact hr.2.2.2.2.2.2.2.2.2.2, by rw [hr1]; rfl, by rw [hr1]; rfl⟩
theorem fr_lock {w : st_T} {lk : Nat → Int32} {x : Nat} (h : qf_ w lk x) (hx : x < 5) (h0 : ¬ lk x = 0) : ∃ z : st_T, pd_run w = (nI 3, z) ∧ z.2 0 = lk ∧ z.2 12 0 = 0 ∧ z.2 12 2 = -998 ∧ z.1 13 = 0 := by
  obtain ⟨r, er, hr, r16, r13, r14⟩ := r0_ok h
  have d0 := do_holds hr hx h0 r14
  have e0 := rl_go (f := 24) (dd := 0) (i := 0) hr.1 r16 (by omega)
  rw [d0] at e0
  obtain ⟨r1, hr1⟩ : ∃ r1, r1 = st_sa (st_si r 15 0) 12 0 0 := ⟨_, rfl⟩
  rw [← hr1] at e0
  have q1 : qf_ r1 lk x := by rw [hr1]; exact hr
  have k16 : r1.1 16 = nI 0 := by rw [hr1]; exact r16
  have k13 : r1.1 13 = 0 := by rw [hr1]; exact r13
  have k14 : ∀ j, j < 5 → r1.2 14 j = 0 := by rw [hr1]; exact r14
  have k12 : r1.2 12 0 = 0 := by rw [hr1]; rfl
  have e1 := rl_go (f := 23) (dd := 1) (i := 1) q1.1 k16 (by omega)
  rw [do_try q1.2.2.2.1] at e1
  obtain ⟨r2, hr2⟩ : ∃ r2, r2 = st_sa (st_si r1 15 0) 12 1 0 := ⟨_, rfl⟩
  rw [← hr2] at e1
  have q2 : qf_ r2 lk x := by rw [hr2]; exact q1
  have l16 : r2.1 16 = nI 0 := by rw [hr2]; exact k16
  have l13 : r2.1 13 = 0 := by rw [hr2]; exact k13
  have l14 : ∀ j, j < 5 → r2.2 14 j = 0 := by rw [hr2]; exact k14
  have l12 : r2.2 12 0 = 0 := by rw [hr2]; exact k12
  have e2 := rl_go (f := 22) (dd := 2) (i := 2) q2.1 l16 (by omega)
  rw [do_notify q2 hx h0 l14] at e2
  obtain ⟨r3, hr3⟩ : ∃ r3, r3 = st_si (st_sa (st_sa (st_si (st_si r2 15 0) 15 2) 12 2 (-998)) 12 1 2) 16 (nI 4) := ⟨_, rfl⟩
  rw [← hr3] at e2
  exact ⟨r3, by rw [er, e0, e1, e2, rl_skip (v := r3) (by rw [hr3]; exact q2.1) (by rw [hr3]; rfl) 22 3 (by omega) (by omega)], by rw [hr3]; exact q2.2.2.2.2.2.2.2.2.2.2, by rw [hr3]; exact l12, by rw [hr3]; rfl, by rw [hr3]; exact l13⟩
theorem state_h {w : st_T} {x : Nat} (hx : x < 5) : pd_state w (5 + nI x) = if w.2 0 x = 0 then -2 else pd_leastHandle w (nI x) := by
  rcases (by omega : x = 0 ∨ x = 1 ∨ x = 2 ∨ x = 3 ∨ x = 4) with rfl | rfl | rfl | rfl | rfl
  all_goals
    unfold pd_state
    rw [if_neg (by decide), if_neg (by decide), if_neg (by decide), if_neg (by decide), if_neg (by decide)]
    unfold pd_handleState
    rw [if_neg (by decide), if_pos (by decide)]
  · rw [show 5 + nI 0 - 5 = nI 0 from by decide, ix_n (by omega)]
  · rw [show 5 + nI 1 - 5 = nI 1 from by decide, ix_n (by omega)]
  · rw [show 5 + nI 2 - 5 = nI 2 from by decide, ix_n (by omega)]
  · rw [show 5 + nI 3 - 5 = nI 3 from by decide, ix_n (by omega)]
  · rw [show 5 + nI 4 - 5 = nI 4 from by decide, ix_n (by omega)]
theorem result_n (w : st_T) {k : Nat} (hk : k < 24) : pd_result w (nI k) = w.2 12 k := by
  unfold pd_result
  rw [if_neg (nI_pos (by omega)), if_pos (by rw [show (24 : Int32) = nI 24 from by decide, nI_ltI (by omega) (by decide)]; exact hk), ix_n (by omega)]
def iv_ (u : st_T) : Prop := ∃ (n : Nat) (L : List Nat), jv_ u n L
theorem iv_step {u v : st_T} {a c r : Int32} (h : iv_ u) (e : pd_step u a c = (r, v)) : iv_ v := by
  obtain ⟨n, L, h⟩ := h
  obtain ⟨n1, L1, h1, -⟩ := step_ok h a c
  rw [e] at h1
  exact ⟨n1, L1, h1⟩
theorem iv_pre {u : st_T} (h : iv_ u) : ¬ u.1 9 < 0 ∧ (u.1 11 = -1 ∨ vp_in (u.1 11) 24) := by
  obtain ⟨n, L, h⟩ := h
  exact jv_pre h
theorem iv_run {u : st_T} (h : iv_ u) : u.1 10 = 0 → pd_rok 25 (pd_r0 u) 0 := by
  obtain ⟨n, L, h⟩ := h
  exact run_pre h
/-- what 'free' comes by -/
theorem free_ok {u : st_T} (h : iv_ u) {x : Nat} (hx : x < 5) : ∃ (a r : Int32) (v1 v2 v3 v4 v5 w : st_T), pd_clear u = (a, v1) ∧ ¬ a < 0 ∧ iv_ v1 ∧ pd_step v1 5 (nI x) = (1, v2) ∧ iv_ v2 ∧ pd_step v2 2 0 = (2, v3) ∧ iv_ v3 ∧ pd_step v3 3 (nI x) = (3, v4) ∧ iv_ v4 ∧ pd_step v4 0 0 = (4, v5) ∧ iv_ v5 ∧ pd_run v5 = (r, w) ∧ iv_ w ∧
    ((pd_state w (5 + nI x) < 0 ∧ r = 1 ∧ pd_result w 0 = -999 ∧ pd_failure w = 1) ∨ (¬ pd_state w (5 + nI x) < 0 ∧ r = 3 ∧ pd_result w 0 = 0 ∧ pd_result w 2 = -998 ∧ pd_failure w = 0)) := by
  obtain ⟨n, L, hj⟩ := h
  have hc := clear_ok hj
  obtain ⟨v1, e1⟩ : ∃ v1, v1 = (pd_clear u).2 := ⟨_, rfl⟩
  rw [← e1] at hc
  obtain ⟨i9, -, -, -, i10, i11, -, -⟩ := hc.2
  have i10 : v1.1 10 = 0 := i10
  have i11 : v1.1 11 = -1 := i11
  have s1 := step_pl (a := 5) i9 (by omega) (by decide) (by decide) (by decide) (by decide) (nI x)
  obtain ⟨v2, e2⟩ : ∃ v, v = st_si (st_sa (st_sa (st_sa v1 5 0 5) 6 0 (nI x)) 7 0 (v1.1 11)) 9 (nI (0 + 1)) := ⟨_, rfl⟩
  rw [← e2] at s1
  have j9 : v2.1 9 = nI 1 := by rw [e2]; rfl
  have j10 : v2.1 10 = 0 := by rw [e2]; exact i10
  have j11 : v2.1 11 = -1 := by rw [e2]; exact i11
  have j50 : v2.2 5 0 = 5 := by rw [e2]; rfl
  have j60 : v2.2 6 0 = nI x := by rw [e2]; rfl
  have j70 : v2.2 7 0 = -1 := by rw [e2]; exact i11
  have j0 : v2.2 0 = v1.2 0 := by rw [e2]; rfl
  have s2 := step_op j9 (by omega) (by rw [j10]; decide) 0
  obtain ⟨v3, e3⟩ : ∃ v, v = st_si (st_si (st_si (st_sa (st_sa (st_sa v2 5 1 2) 6 1 0) 7 1 (v2.1 11)) 11 (nI 1)) 10 (v2.1 10 + 1)) 9 (nI (1 + 1)) := ⟨_, rfl⟩
  rw [← e3] at s2
  have k9 : v3.1 9 = nI 2 := by rw [e3]; rfl
  have k10 : v3.1 10 = 1 := by rw [e3]; show v2.1 10 + 1 = 1; rw [j10]; decide
  have k11 : v3.1 11 = nI 1 := by rw [e3]; rfl
  have k50 : v3.2 5 0 = 5 := by rw [e3]; exact j50
  have k51 : v3.2 5 1 = 2 := by rw [e3]; rfl
  have k60 : v3.2 6 0 = nI x := by rw [e3]; exact j60
  have k70 : v3.2 7 0 = -1 := by rw [e3]; exact j70
  have k0 : v3.2 0 = v1.2 0 := by rw [e3]; exact j0
  have s3 := step_pl (a := 3) k9 (by omega) (by decide) (by decide) (by decide) (by decide) (nI x)
  obtain ⟨v4, e4⟩ : ∃ v, v = st_si (st_sa (st_sa (st_sa v3 5 2 3) 6 2 (nI x)) 7 2 (v3.1 11)) 9 (nI (2 + 1)) := ⟨_, rfl⟩
  rw [← e4] at s3
  have l9 : v4.1 9 = nI 3 := by rw [e4]; rfl
  have l10 : v4.1 10 = 1 := by rw [e4]; exact k10
  have l11 : v4.1 11 = nI 1 := by rw [e4]; exact k11
  have l50 : v4.2 5 0 = 5 := by rw [e4]; exact k50
  have l51 : v4.2 5 1 = 2 := by rw [e4]; exact k51
  have l52 : v4.2 5 2 = 3 := by rw [e4]; rfl
  have l60 : v4.2 6 0 = nI x := by rw [e4]; exact k60
  have l62 : v4.2 6 2 = nI x := by rw [e4]; rfl
  have l70 : v4.2 7 0 = -1 := by rw [e4]; exact k70
  have l72 : v4.2 7 2 = nI 1 := by rw [e4]; exact k11
  have l0 : v4.2 0 = v1.2 0 := by rw [e4]; exact k0
  have s4 := step_en l9 (by omega) l11 (by omega) 0
  obtain ⟨v5, e5⟩ : ∃ v, v = st_si (st_si (st_si (st_sa (st_sa (st_sa (st_sa v4 5 3 0) 6 3 0) 7 3 (nI 1)) 8 1 (nI 3)) 11 (v4.2 7 1)) 10 (v4.1 10 - 1)) 9 (nI (3 + 1)) := ⟨_, rfl⟩
  rw [← e5] at s4
  have q : qf_ v5 (v1.2 0) x := by
    rw [e5]
    refine ⟨rfl, ?_, l50, l51, l52, l60, l62, l70, l72, rfl, l0⟩
    show v4.1 10 - 1 = 0
    rw [l10]; decide
  have n1 : iv_ v1 := ⟨0, [], hc.2⟩
  have n2 := iv_step n1 s1
  have n3 := iv_step n2 s2
  have n4 := iv_step n3 s3
  have n5 := iv_step n4 s4
  have last : ∀ (r : Int32) (w : st_T), pd_run v5 = (r, w) → iv_ w := fun r w e => by
    obtain ⟨n, L, z⟩ := n5
    have := (run_ok z q.2.1).2
    rw [e] at this
    exact ⟨n, L, this⟩
  have s1 : pd_step v1 5 (nI x) = (1, v2) := s1
  have s2 : pd_step v2 2 0 = (2, v3) := s2
  have s3 : pd_step v3 3 (nI x) = (3, v4) := s3
  have s4 : pd_step v4 0 0 = (4, v5) := s4
  by_cases h0 : v1.2 0 x = 0
  · obtain ⟨w, ew, w0, w12, w13⟩ := fr_null q hx h0
    refine ⟨_, _, v1, v2, v3, v4, v5, w, by rw [e1], hc.1, n1, s1, n2, s2, n3, s3, n4, s4, n5, ew, last _ _ ew, Or.inl ⟨?_, rfl, ?_, w13⟩⟩
    · rw [state_h hx, if_pos (by rw [w0]; exact h0)]; decide
    · exact (result_n w (k := 0) (by omega)).trans w12
  · obtain ⟨w, ew, w0, w12, w122, w13⟩ := fr_lock q hx h0
    refine ⟨_, _, v1, v2, v3, v4, v5, w, by rw [e1], hc.1, n1, s1, n2, s2, n3, s3, n4, s4, n5, ew, last _ _ ew, Or.inr ⟨?_, rfl, ?_, ?_, w13⟩⟩
    · rw [state_h hx, if_neg (by rw [w0]; exact h0), Int32.lt_iff_toInt_lt, Int32.toInt_zero]
      have := vp_in_iff.mp (least_in (u := w) (vp_in_nI hx (by decide)))
      omega
    · exact (result_n w (k := 0) (by omega)).trans w12
    · exact (result_n w (k := 2) (by omega)).trans w122
end
section
/-! contracts of the law's own static methods: what they say besides the world; calls of them -/
theorem gx_blindX {av : List Value} {D : va_G} {cI cZ : ClassId} {ws : va_W} {sz : Nat} {B2 : State → Prop} (hb2 : ∀ a (U : State) g mk, B2 U → B2 (U.calling g mk a)) : FrameBlind (va_Pc av (fun U => gx_I D cI cZ ws sz U ∧ B2 U)) := fun a U g mk h => by
  obtain ⟨h0, ⟨h1, h2, h3, h4⟩, h5⟩ := h
  exact ⟨h0, ⟨h1, h2, va_K.moved (u := U) (U := U.calling g mk a) (Vm.Alike.refl U.vm) h3, h4⟩, hb2 a U g mk h5⟩
theorem gx_metX {y : MethodName} {l : Launch} {wsy ws' : List Cond} {rm : Room} {cc : ByteArray} {maxL : Nat} {ret : Option FieldType} {av : List Value} {D : va_G} {cI cZ : ClassId} {ws0 : va_W} {sz : Nat} {Qc : Array Value → State → Outcome → State → Prop} {free : Addr → Prop} {B2 : State → Prop}
    (hy : plainFor y = true) (hw : wsy = Cond.code y cc maxL ret :: ws') (hle : (lg_sl av).length ≤ maxL)
    (body : ∀ (p : Program) (e : Env) (s : State) (m : MethodId) (args : Array Value) (below : List Frame) (meth : Method) (c : Code) (A : Nat → Prop) (ls : Array Slot), s.heap.size = sz → p.tables.exec = Jvm.exec → c.code = cc → meth.sig.returnType = ret → meth.locks = false → (∀ w ∈ wsy, w.before args s = true) → s.vm.findClass y.cls = some m.cls → c.maxLocals = maxL → va_K D vwCl (ty_IZ cI cZ) s → A = va_A ws0 sz → (∀ x, s.heap.size ≤ x → A x) → gx_ D A s.heap s.heap [] ws0 → B2 s → lv_has ls maxL (lv_args 0 av) →
      W p l e rm s m args below meth c s.heap [] 0 0 (MQ below Qc args s 0 0 free) (F0 m 0 ls [])) : Met l y wsy rm (va_Pc av (fun U => gx_I D cI cZ ws0 sz U ∧ B2 U)) Qc 0 0 free := by
  refine va_MetF (cc := cc) (maxL := maxL) (ret := ret) hy hw ?_
  intro p e s m args below meth c s₁ B hml hv
  obtain ⟨rfl, ⟨hsz, hP, hK, hD0⟩, h5⟩ := hv
  have hts := atoms_spec (ws := wsy) B.pre
  rw [lg_entry_eq]
  subst hsz
  exact body p e s m _ below meth c (va_A ws0 s.heap.size) _ rfl B.exec B.bytes B.returns B.notSynchronized hts (findClass_of_methodNamed B.named) hml hK rfl (fun x hx => Or.inr hx) ⟨hP, hD0.self, va_S.rf⟩ h5 (lv_entry av hle)
section GS
variable {p : Program} {l : Launch} {e : Env} {R : Room} {s : State} {m : MethodId} {args : Array Value} {below : List Frame} {meth : Method} {c : Code} {H : Heap} {locs : List Loc} {cells slots : Nat} {Q : State → Prop}
variable {cc : ByteArray} {pc : Nat} {ls : Array Slot} {rest : List Value} {D : va_G} {A : Nat → Prop} {H0 : Heap} {cI cZ : ClassId} {Ts : List Cond} {own : String} {sz : Nat} {ws0 : va_W} {B2 : State → Prop}
theorem gx_pzret {S : Type} {wf : S → va_W} {u1 : S} {post : Int32 → S → Prop} {v : Int32} (hx : p.tables.exec = Jvm.exec) (hb : c.code = cc) (hr : meth.sig.returnType = some .boolean) (hlocks : meth.locks = false) (hK : va_K D vwCl (ty_IZ cI cZ) s) (hAe : A = va_A ws0 sz) (G : gx_ D A s.heap H locs (wf u1)) (hdg : decode cc pc = .ok (.ireturn, 1)) (hn : narrow .boolean (.int v) = .int v) (hp : post v u1) :
    W p l e R s m args below meth c H locs cells slots (MQ below (va_Qi post (gx_O D cI cZ wf ws0 sz) (va_A ws0 sz)) args s cells slots (va_A ws0 sz)) (F0 m pc ls [.int v]) := by
  subst hAe
  exact W.zret hx hb hr hn (fun t ht hW => ⟨⟨v, u1, rfl, hp, by rw [ht]; exact G.1, va_K.moved hW.alike hK, G.2.1⟩, G.2.2.F ht⟩) G.2.2.2.2 hdg hlocks
theorem gx_pvret {S : Type} {wf : S → va_W} {u1 : S} {post : S → Prop} (hx : p.tables.exec = Jvm.exec) (hb : c.code = cc) (hr : meth.sig.returnType = none) (hlocks : meth.locks = false) (hK : va_K D vwCl (ty_IZ cI cZ) s) (hAe : A = va_A ws0 sz) (G : gx_ D A s.heap H locs (wf u1)) (hdg : decode cc pc = .ok (.return_, 1)) (hp : post u1) :
    W p l e R s m args below meth c H locs cells slots (MQ below (va_Qv post (gx_O D cI cZ wf ws0 sz) (va_A ws0 sz)) args s cells slots (va_A ws0 sz)) (F0 m pc ls []) := by
  subst hAe
  exact W.vret hx hb hr (fun t ht hW => ⟨⟨u1, rfl, hp, by rw [ht]; exact G.1, va_K.moved hW.alike hK, G.2.1⟩, G.2.2.F ht⟩) G.2.2.2.2 hdg hlocks
theorem gx_callSi {S : Type} {wf : S → va_W} {u : S} {post : Int32 → S → Prop} {index maxL nL : Nat} {y : MethodName} {bytes : ByteArray} {ret : Option FieldType} {wsy ws' : List Cond} {rm : Room} {As st0 : List Value} (n : Nat)
    (hx : p.tables.exec = Jvm.exec) (hb : c.code = cc) (hml : c.maxLocals = nL) (hown : s.vm.findClass own = some m.cls) (hts : ∀ w ∈ Ts, w.before args s = true) (hK : va_K D vwCl (ty_IZ cI cZ) s) (hA : ∀ x, H0.size ≤ x → A x) (G : gx_ D A H0 H locs (wf u))
    (hM : Met l y wsy rm (va_Pc As (fun U => gx_I D cI cZ (wf u) H.size U ∧ B2 U)) (va_Qi post (gx_O D cI cZ wf (wf u) H.size) (va_A (wf u) H.size)) 0 0 (va_A (wf u) H.size)) (gin : GoodIn Ts (va_wsS own index y wsy)) (hw : wsy = Cond.code y bytes maxL ret :: ws') (hr0 : rm.cells = 0) (hr1 : rm.slots = 0)
    (hd : y.cls ≠ "java/lang/invoke/MethodHandle" ∧ y.cls ≠ "java/lang/invoke/VarHandle" ∧ (parseMethodDescriptor y.desc).map (fun d => d.parameters.length) = some n) (hR : rm.frames + 1 ≤ R.frames ∧ 8 + (maxL + 11) + rm.locals ≤ R.locals)
    (hn : As.length = n) (hls : ls.size = nL) (hst : st0 = As.reverse ++ rest) (hroom : (rest.map fun v => v.category).sum ≤ 8) (hdg : decode cc pc = .ok (.invokestatic index, 3)) (hcl : cells ≤ R.cells) (hsl : slots ≤ R.slots)
    (hb2 : ∀ a (U : State) g mk, B2 U → B2 (U.calling g mk a)) (hB2 : ∀ U : State, U.heap = H → s.vm.Alike U.vm → B2 U)
    (kk : ∀ (r : Int32) (u1 : S) (H1 : Heap) (locs1 : List Loc), post r u1 → gx_ D A H0 H1 locs1 (wf u1) → W p l e R s m args below meth c H1 locs1 cells slots Q (F0 m (pc + 3) ls (.int r :: rest))) : W p l e R s m args below meth c H locs cells slots Q (F0 m pc ls st0) := by
  have hFc := gx_free hA G
  obtain ⟨hP, hD, hS⟩ := G
  refine va_calli (va_runS (As := As) (rest := rest) ⟨hx, hb, hml, hown, hts⟩ hM (va_cwS n hts gin hw hr0 hr1 hd hR) ⟨gx_blindX hb2, fun U hU hW => ⟨rfl, ⟨by rw [hU], by rw [hU]; exact hP, va_K.moved hW.alike hK, hD.weaken (fun _ _ _ _ => trivial)⟩, hB2 U hU hW.alike⟩⟩ rfl hn hls hst (lv_room hroom) hdg ⟨hcl, hsl⟩) hS (fun x _ h => hFc x h) hFc (fun r u1 t H1 locs1 ht hvm hw hB hz1 hk1 hS1 => ?_)
  obtain ⟨hP1, hK1, hD1⟩ := hB
  rw [ht] at hP1
  exact kk r u1 H1 locs1 hw ⟨hP1, hD1.weaken (fun _ _ _ z => hFc _ z), hS1⟩
theorem gx_callSv {S : Type} {wf : S → va_W} {u : S} {post : S → Prop} {index maxL nL : Nat} {y : MethodName} {bytes : ByteArray} {ret : Option FieldType} {wsy ws' : List Cond} {rm : Room} {As st0 : List Value} (n : Nat)
    (hx : p.tables.exec = Jvm.exec) (hb : c.code = cc) (hml : c.maxLocals = nL) (hown : s.vm.findClass own = some m.cls) (hts : ∀ w ∈ Ts, w.before args s = true) (hK : va_K D vwCl (ty_IZ cI cZ) s) (hA : ∀ x, H0.size ≤ x → A x) (G : gx_ D A H0 H locs (wf u))
    (hM : Met l y wsy rm (va_Pc As (fun U => gx_I D cI cZ (wf u) H.size U ∧ B2 U)) (va_Qv post (gx_O D cI cZ wf (wf u) H.size) (va_A (wf u) H.size)) 0 0 (va_A (wf u) H.size)) (gin : GoodIn Ts (va_wsS own index y wsy)) (hw : wsy = Cond.code y bytes maxL ret :: ws') (hr0 : rm.cells = 0) (hr1 : rm.slots = 0)
    (hd : y.cls ≠ "java/lang/invoke/MethodHandle" ∧ y.cls ≠ "java/lang/invoke/VarHandle" ∧ (parseMethodDescriptor y.desc).map (fun d => d.parameters.length) = some n) (hR : rm.frames + 1 ≤ R.frames ∧ 8 + (maxL + 11) + rm.locals ≤ R.locals)
    (hn : As.length = n) (hls : ls.size = nL) (hst : st0 = As.reverse ++ rest) (hroom : (rest.map fun v => v.category).sum ≤ 8) (hdg : decode cc pc = .ok (.invokestatic index, 3)) (hcl : cells ≤ R.cells) (hsl : slots ≤ R.slots)
    (hb2 : ∀ a (U : State) g mk, B2 U → B2 (U.calling g mk a)) (hB2 : ∀ U : State, U.heap = H → s.vm.Alike U.vm → B2 U)
    (kk : ∀ (u1 : S) (H1 : Heap) (locs1 : List Loc), post u1 → gx_ D A H0 H1 locs1 (wf u1) → W p l e R s m args below meth c H1 locs1 cells slots Q (F0 m (pc + 3) ls rest)) : W p l e R s m args below meth c H locs cells slots Q (F0 m pc ls st0) := by
  have hFc := gx_free hA G
  obtain ⟨hP, hD, hS⟩ := G
  refine va_callv (va_runS (As := As) (rest := rest) ⟨hx, hb, hml, hown, hts⟩ hM (va_cwS n hts gin hw hr0 hr1 hd hR) ⟨gx_blindX hb2, fun U hU hW => ⟨rfl, ⟨by rw [hU], by rw [hU]; exact hP, va_K.moved hW.alike hK, hD.weaken (fun _ _ _ _ => trivial)⟩, hB2 U hU hW.alike⟩⟩ rfl hn hls hst (lv_room hroom) hdg ⟨hcl, hsl⟩) hS (fun x _ h => hFc x h) hFc (fun u1 t H1 locs1 ht hvm hw hB hz1 hk1 hS1 => ?_)
  obtain ⟨hP1, hK1, hD1⟩ := hB
  rw [ht] at hP1
  exact kk u1 H1 locs1 hw ⟨hP1, hD1.weaken (fun _ _ _ z => hFc _ z), hS1⟩
end GS
end
section
/-! free: the law's own method -/
theorem i_ge0 {x : Int32} (h : 0 ≤ x) : ¬ x < 0 := by
  rw [Int32.le_iff_toInt_le] at h
  rw [Int32.lt_iff_toInt_lt]
  omega
theorem i_ge1 {x : Int32} (h : ¬ x < 0) : 0 ≤ x := by
  rw [Int32.lt_iff_toInt_lt] at h
  rw [Int32.le_iff_toInt_le]
  omega
set_option maxHeartbeats 4000000 in
set_option maxRecDepth 100000 in
theorem kt_free (l : Launch) (dC : Nat → ClassId) (dI : Nat → Nat → Nat) (cI cZ : ClassId) (h : Nat) (q : Nat → Nat) (sz : Nat) (u : st_T) (x : Nat) (hx5 : x < 5) (hu : iv_ u) : Met l yL_free wsL_free { frames := 6, cells := 0, slots := 0, locals := 133 } (va_Pc [.ref h, .int (nI x)] (fun U => gx_I (dC, dI) cI cZ (gw0_ cI cZ h q u) sz U ∧ True)) (va_Qi (fun r u1 => r = 1 ∧ iv_ u1) (gx_O (dC, dI) cI cZ (gw0_ cI cZ h q) (gw0_ cI cZ h q u) sz) (va_A (gw0_ cI cZ h q u) sz)) 0 0 (va_A (gw0_ cI cZ h q u) sz) := by
  refine gx_metX (cc := cL_free) (maxL := 3) (ret := (some .boolean)) (by decide +kernel) rfl (Nat.le_of_ble_eq_true rfl) (fun p e s m args below meth c A ls hsz hx hb hr hlocks hts hown hml hK hAe hA G _ hl => ?_)
  have hown : s.vm.findClass RL = some m.cls := hown
  have hl : lv_has ls 3 [(0, .ref h), (1, .int (nI x))] := hl
  obtain ⟨a, r, v1, v2, v3, v4, v5, w, s0, ha, n1, s1, n2, s2, n3, s3, n4, s4, n5, s5, nw, fin⟩ := free_ok hu hx5
  have m0 : ∀ sz, gx_Mi l yX0_clear wsX0_clear { frames := 0, cells := 0, slots := 0, locals := 0 } [.ref h] (dC, dI) cI cZ (gw0_ cI cZ h q) u sz (a, v1) := fun sz => by rw [← s0]; exact kd_clear l dC dI cI cZ h q sz u
  have m1 : ∀ sz, gx_Mi l yX0_step wsX0_step { frames := 1, cells := 0, slots := 0, locals := 20 } [.ref h, .int 5, .int (nI x)] (dC, dI) cI cZ (gw0_ cI cZ h q) v1 sz (1, v2) := fun sz => by rw [← s1]; exact kd_step l dC dI cI cZ h q sz v1 5 (nI x) (iv_pre n1).1 (iv_pre n1).2
  have m2 : ∀ sz, gx_Mi l yX0_step wsX0_step { frames := 1, cells := 0, slots := 0, locals := 20 } [.ref h, .int 2, .int 0] (dC, dI) cI cZ (gw0_ cI cZ h q) v2 sz (2, v3) := fun sz => by rw [← s2]; exact kd_step l dC dI cI cZ h q sz v2 2 0 (iv_pre n2).1 (iv_pre n2).2
  have m3 : ∀ sz, gx_Mi l yX0_step wsX0_step { frames := 1, cells := 0, slots := 0, locals := 20 } [.ref h, .int 3, .int (nI x)] (dC, dI) cI cZ (gw0_ cI cZ h q) v3 sz (3, v4) := fun sz => by rw [← s3]; exact kd_step l dC dI cI cZ h q sz v3 3 (nI x) (iv_pre n3).1 (iv_pre n3).2
  have m4 : ∀ sz, gx_Mi l yX0_step wsX0_step { frames := 1, cells := 0, slots := 0, locals := 20 } [.ref h, .int 0, .int 0] (dC, dI) cI cZ (gw0_ cI cZ h q) v4 sz (4, v5) := fun sz => by rw [← s4]; exact kd_step l dC dI cI cZ h q sz v4 0 0 (iv_pre n4).1 (iv_pre n4).2
  have m5 : ∀ sz, gx_Mi l yX0_run wsX0_run { frames := 5, cells := 0, slots := 0, locals := 111 } [.ref h] (dC, dI) cI cZ (gw0_ cI cZ h q) v5 sz (r, w) := fun sz => by rw [← s5]; exact kd_run l dC dI cI cZ h q sz v5 (iv_run n5)
  refine lv_aload_n hx hb dL_free_0 rfl (lv_at hl 0 rfl) ?_
  refine gx_calli (wf := gw0_ cI cZ h q) (u := u) (f := (a, v1)) (As := []) (rest := []) 0 hx hb hml hown hts hK hA G rfl rfl (m0 _) gL_free_X0_clear rfl rfl rfl hd_X0_clear ⟨Nat.le_of_ble_eq_true rfl, Nat.le_of_ble_eq_true rfl⟩ rfl hl.1 rfl (Nat.le_of_ble_eq_true rfl) dL_free_1 (Nat.zero_le _) (Nat.zero_le _) (fun H locs G => ?_)
  have G : gx_ (dC, dI) A s.heap H locs (gw0_ cI cZ h q v1) := G
  refine lv_if_lt (tgt := 47) hx hb dL_free_4 (by decide) (fun z => absurd z ha) (fun _ => ?_)
  refine lv_aload_n hx hb dL_free_7 rfl (lv_at hl 0 rfl) ?_
  refine lv_iconst (v := 5) hx hb dL_free_8 (by decide) ?_
  refine lv_iload_n hx hb dL_free_9 rfl (lv_at hl 1 rfl) ?_
  refine gx_calli (wf := gw0_ cI cZ h q) (u := v1) (f := (1, v2)) (As := [.int 5, .int (nI x)]) (rest := []) 2 hx hb hml hown hts hK hA G rfl rfl (m1 _) gL_free_X0_step rfl rfl rfl hd_X0_step ⟨Nat.le_of_ble_eq_true rfl, Nat.le_of_ble_eq_true rfl⟩ rfl hl.1 rfl (Nat.le_of_ble_eq_true rfl) dL_free_10 (Nat.zero_le _) (Nat.zero_le _) (fun H locs G => ?_)
  have G : gx_ (dC, dI) A s.heap H locs (gw0_ cI cZ h q v2) := G
  refine lv_iconst (v := 1) hx hb dL_free_13 (by decide) ?_
  refine lv_icmp_ne (tgt := 47) hx hb dL_free_14 (by decide) (fun z => absurd rfl z) (fun _ => ?_)
  refine lv_aload_n hx hb dL_free_17 rfl (lv_at hl 0 rfl) ?_
  refine lv_iconst (v := 2) hx hb dL_free_18 (by decide) ?_
  refine lv_iconst (v := 0) hx hb dL_free_19 (by decide) ?_
  refine gx_calli (wf := gw0_ cI cZ h q) (u := v2) (f := (2, v3)) (As := [.int 2, .int 0]) (rest := []) 2 hx hb hml hown hts hK hA G rfl rfl (m2 _) gL_free_X0_step rfl rfl rfl hd_X0_step ⟨Nat.le_of_ble_eq_true rfl, Nat.le_of_ble_eq_true rfl⟩ rfl hl.1 rfl (Nat.le_of_ble_eq_true rfl) dL_free_20 (Nat.zero_le _) (Nat.zero_le _) (fun H locs G => ?_)
  have G : gx_ (dC, dI) A s.heap H locs (gw0_ cI cZ h q v3) := G
  refine lv_iconst (v := 2) hx hb dL_free_23 (by decide) ?_
  refine lv_icmp_ne (tgt := 47) hx hb dL_free_24 (by decide) (fun z => absurd rfl z) (fun _ => ?_)
  refine lv_aload_n hx hb dL_free_27 rfl (lv_at hl 0 rfl) ?_
  refine lv_iconst (v := 3) hx hb dL_free_28 (by decide) ?_
  refine lv_iload_n hx hb dL_free_29 rfl (lv_at hl 1 rfl) ?_
  refine gx_calli (wf := gw0_ cI cZ h q) (u := v3) (f := (3, v4)) (As := [.int 3, .int (nI x)]) (rest := []) 2 hx hb hml hown hts hK hA G rfl rfl (m3 _) gL_free_X0_step rfl rfl rfl hd_X0_step ⟨Nat.le_of_ble_eq_true rfl, Nat.le_of_ble_eq_true rfl⟩ rfl hl.1 rfl (Nat.le_of_ble_eq_true rfl) dL_free_30 (Nat.zero_le _) (Nat.zero_le _) (fun H locs G => ?_)
  have G : gx_ (dC, dI) A s.heap H locs (gw0_ cI cZ h q v4) := G
  refine lv_iconst (v := 3) hx hb dL_free_33 (by decide) ?_
  refine lv_icmp_ne (tgt := 47) hx hb dL_free_34 (by decide) (fun z => absurd rfl z) (fun _ => ?_)
  refine lv_aload_n hx hb dL_free_37 rfl (lv_at hl 0 rfl) ?_
  refine lv_iconst (v := 0) hx hb dL_free_38 (by decide) ?_
  refine lv_iconst (v := 0) hx hb dL_free_39 (by decide) ?_
  refine gx_calli (wf := gw0_ cI cZ h q) (u := v4) (f := (4, v5)) (As := [.int 0, .int 0]) (rest := []) 2 hx hb hml hown hts hK hA G rfl rfl (m4 _) gL_free_X0_step rfl rfl rfl hd_X0_step ⟨Nat.le_of_ble_eq_true rfl, Nat.le_of_ble_eq_true rfl⟩ rfl hl.1 rfl (Nat.le_of_ble_eq_true rfl) dL_free_40 (Nat.zero_le _) (Nat.zero_le _) (fun H locs G => ?_)
  have G : gx_ (dC, dI) A s.heap H locs (gw0_ cI cZ h q v5) := G
  refine lv_iconst (v := 4) hx hb dL_free_43 (by decide) ?_
  refine lv_icmp_eq (tgt := 49) hx hb dL_free_44 (by decide) (fun _ => ?_) (fun z => absurd rfl z)
  refine lv_aload_n hx hb dL_free_49 rfl (lv_at hl 0 rfl) ?_
  refine gx_calli (wf := gw0_ cI cZ h q) (u := v5) (f := (r, w)) (As := []) (rest := []) 0 hx hb hml hown hts hK hA G rfl rfl (m5 _) gL_free_X0_run rfl rfl rfl hd_X0_run ⟨Nat.le_of_ble_eq_true rfl, Nat.le_of_ble_eq_true rfl⟩ rfl hl.1 rfl (Nat.le_of_ble_eq_true rfl) dL_free_50 (Nat.zero_le _) (Nat.zero_le _) (fun H locs G => ?_)
  have G : gx_ (dC, dI) A s.heap H locs (gw0_ cI cZ h q w) := G
  refine lv_istore_n (lv' := [(2, .int r), (0, .ref h), (1, .int (nI x))]) hx hb dL_free_53 rfl hl (by decide) rfl (fun ls hl => ?_)
  refine lv_aload_n hx hb dL_free_54 rfl (lv_at hl 1 rfl) ?_
  refine lv_iconst (v := 5) hx hb dL_free_55 (by decide) ?_
  refine lv_iload_n hx hb dL_free_56 rfl (lv_at hl 2 rfl) ?_
  refine lv_iadd hx hb dL_free_57 ?_
  refine gx_callr (wf := gw0_ cI cZ h q) (u := w) (f := (pd_state w (5 + nI x))) (As := [.int (5 + nI x)]) (rest := []) 1 hx hb hml hown hts hK hA G rfl rfl (kd_state l dC dI cI cZ h q _ w (5 + nI x)) gL_free_X0_state rfl rfl rfl hd_X0_state ⟨Nat.le_of_ble_eq_true rfl, Nat.le_of_ble_eq_true rfl⟩ rfl hl.1 rfl (Nat.le_of_ble_eq_true rfl) dL_free_58 (Nat.zero_le _) (Nat.zero_le _) (fun H locs G => ?_)
  rcases fin with ⟨g1, g2, g3, g4⟩ | ⟨g1, g2, g3, g4, g5⟩
  · refine lv_if_ge (tgt := 94) hx hb dL_free_61 (by decide) (fun z => absurd g1 (i_ge0 z)) (fun _ => ?_)
    refine lv_iload_n hx hb dL_free_64 rfl (lv_at hl 0 rfl) ?_
    refine lv_iconst (v := 1) hx hb dL_free_65 (by decide) ?_
    refine lv_icmp_ne (tgt := 92) hx hb dL_free_66 (by decide) (fun z => absurd g2 z) (fun _ => ?_)
    refine lv_aload_n hx hb dL_free_69 rfl (lv_at hl 1 rfl) ?_
    refine lv_iconst (v := 0) hx hb dL_free_70 (by decide) ?_
    refine gx_callr (wf := gw0_ cI cZ h q) (u := w) (f := (pd_result w 0)) (As := [.int 0]) (rest := []) 1 hx hb hml hown hts hK hA G rfl rfl (kd_result l dC dI cI cZ h q _ w 0) gL_free_X0_result rfl rfl rfl hd_X0_result ⟨Nat.le_of_ble_eq_true rfl, Nat.le_of_ble_eq_true rfl⟩ rfl hl.1 rfl (Nat.le_of_ble_eq_true rfl) dL_free_71 (Nat.zero_le _) (Nat.zero_le _) (fun H locs G => ?_)
    refine lv_sipush (v := (-999)) hx hb dL_free_74 (by decide) ?_
    refine lv_icmp_ne (tgt := 92) hx hb dL_free_77 (by decide) (fun z => absurd g3 z) (fun _ => ?_)
    refine lv_aload_n hx hb dL_free_80 rfl (lv_at hl 1 rfl) ?_
    refine gx_callr (wf := gw0_ cI cZ h q) (u := w) (f := (pd_failure w)) (As := []) (rest := []) 0 hx hb hml hown hts hK hA G rfl rfl (kd_failure l dC dI cI cZ h q _ w) gL_free_X0_failure rfl rfl rfl hd_X0_failure ⟨Nat.le_of_ble_eq_true rfl, Nat.le_of_ble_eq_true rfl⟩ rfl hl.1 rfl (Nat.le_of_ble_eq_true rfl) dL_free_81 (Nat.zero_le _) (Nat.zero_le _) (fun H locs G => ?_)
    refine lv_iconst (v := 1) hx hb dL_free_84 (by decide) ?_
    refine lv_icmp_ne (tgt := 92) hx hb dL_free_85 (by decide) (fun z => absurd g4 z) (fun _ => ?_)
    refine lv_iconst (v := 1) hx hb dL_free_88 (by decide) ?_
    refine lv_goto (tgt := 93) hx hb dL_free_89 (by decide) ?_
    exact gx_pzret (wf := gw0_ cI cZ h q) (u1 := w) hx hb hr hlocks hK hAe G dL_free_93 rfl ⟨rfl, nw⟩
  · refine lv_if_ge (tgt := 94) hx hb dL_free_61 (by decide) (fun _ => ?_) (fun z => absurd (i_ge1 g1) z)
    refine lv_iload_n hx hb dL_free_94 rfl (lv_at hl 0 rfl) ?_
    refine lv_iconst (v := 3) hx hb dL_free_95 (by decide) ?_
    refine lv_icmp_ne (tgt := 129) hx hb dL_free_96 (by decide) (fun z => absurd g2 z) (fun _ => ?_)
    refine lv_aload_n hx hb dL_free_99 rfl (lv_at hl 1 rfl) ?_
    refine lv_iconst (v := 0) hx hb dL_free_100 (by decide) ?_
    refine gx_callr (wf := gw0_ cI cZ h q) (u := w) (f := (pd_result w 0)) (As := [.int 0]) (rest := []) 1 hx hb hml hown hts hK hA G rfl rfl (kd_result l dC dI cI cZ h q _ w 0) gL_free_X0_result rfl rfl rfl hd_X0_result ⟨Nat.le_of_ble_eq_true rfl, Nat.le_of_ble_eq_true rfl⟩ rfl hl.1 rfl (Nat.le_of_ble_eq_true rfl) dL_free_101 (Nat.zero_le _) (Nat.zero_le _) (fun H locs G => ?_)
    refine lv_if_ne (tgt := 129) hx hb dL_free_104 (by decide) (fun z => absurd g3 z) (fun _ => ?_)
    refine lv_aload_n hx hb dL_free_107 rfl (lv_at hl 1 rfl) ?_
    refine lv_iconst (v := 2) hx hb dL_free_108 (by decide) ?_
    refine gx_callr (wf := gw0_ cI cZ h q) (u := w) (f := (pd_result w 2)) (As := [.int 2]) (rest := []) 1 hx hb hml hown hts hK hA G rfl rfl (kd_result l dC dI cI cZ h q _ w 2) gL_free_X0_result rfl rfl rfl hd_X0_result ⟨Nat.le_of_ble_eq_true rfl, Nat.le_of_ble_eq_true rfl⟩ rfl hl.1 rfl (Nat.le_of_ble_eq_true rfl) dL_free_109 (Nat.zero_le _) (Nat.zero_le _) (fun H locs G => ?_)
    refine lv_sipush (v := (-998)) hx hb dL_free_112 (by decide) ?_
    refine lv_icmp_ne (tgt := 129) hx hb dL_free_115 (by decide) (fun z => absurd g4 z) (fun _ => ?_)
    refine lv_aload_n hx hb dL_free_118 rfl (lv_at hl 1 rfl) ?_
    refine gx_callr (wf := gw0_ cI cZ h q) (u := w) (f := (pd_failure w)) (As := []) (rest := []) 0 hx hb hml hown hts hK hA G rfl rfl (kd_failure l dC dI cI cZ h q _ w) gL_free_X0_failure rfl rfl rfl hd_X0_failure ⟨Nat.le_of_ble_eq_true rfl, Nat.le_of_ble_eq_true rfl⟩ rfl hl.1 rfl (Nat.le_of_ble_eq_true rfl) dL_free_119 (Nat.zero_le _) (Nat.zero_le _) (fun H locs G => ?_)
    refine lv_if_ne (tgt := 129) hx hb dL_free_122 (by decide) (fun z => absurd g5 z) (fun _ => ?_)
    refine lv_iconst (v := 1) hx hb dL_free_125 (by decide) ?_
    refine lv_goto (tgt := 130) hx hb dL_free_126 (by decide) ?_
    exact gx_pzret (wf := gw0_ cI cZ h q) (u1 := w) hx hb hr hlocks hK hAe G dL_free_130 rfl ⟨rfl, nw⟩
theorem hd_L_free : yL_free.cls ≠ "java/lang/invoke/MethodHandle" ∧ yL_free.cls ≠ "java/lang/invoke/VarHandle" ∧ (parseMethodDescriptor yL_free.desc).map (fun d => d.parameters.length) = some 2 := by decide +kernel
end
section
/-! type: the law's own method -/
set_option maxHeartbeats 4000000 in
set_option maxRecDepth 100000 in
theorem kt_type (l : Launch) (dC : Nat → ClassId) (dI : Nat → Nat → Nat) (cI cZ : ClassId) (h : Nat) (q : Nat → Nat) (sz : Nat) (u : st_T) (b L f : Nat) (xs : Nat → Int32) (hfL : f + 16 ≤ L) (hL : L ≤ 260) (hu : jv_ u 0 []) : Met l yL_type wsL_type { frames := 3, cells := 0, slots := 0, locals := 65 } (va_Pc [.ref h, .ref b, .int (nI f), .int (nI (f + 16))] (fun U => gx_I (dC, dI) cI cZ (gw0_ cI cZ h q u) sz U ∧ va_X b L xs U U.heap ∧ ∀ (k : Nat) (e : va_E), ¬ (gw0_ cI cZ h q u)[k]? = some (b, e))) (va_Qv (fun u1 => iv_ u1 ∧ u1.1 10 = 0) (gx_O (dC, dI) cI cZ (gw0_ cI cZ h q) (gw0_ cI cZ h q u) sz) (va_A (gw0_ cI cZ h q u) sz)) 0 0 (va_A (gw0_ cI cZ h q u) sz) := by
  refine gx_metX (cc := cL_type) (maxL := 8) (ret := none) (by decide +kernel) rfl (Nat.le_of_ble_eq_true rfl) (fun p e s m args below meth c A ls hsz hx hb hr hlocks hts hown hml hK hAe hA G hB2 hl => ?_)
  have hown : s.vm.findClass RL = some m.cls := hown
  obtain ⟨hX, hnb⟩ := hB2
  have hbl : b < s.heap.size := by
    obtain ⟨scr, h1, -⟩ := hX
    exact (Array.getElem?_eq_some_iff.mp h1).1
  have hbA : ¬ A b := by
    rw [hAe]
    rintro (⟨k, e, hk⟩ | hk)
    · exact hnb k e hk
    · omega
  have hl : lv_has ls 8 [(0, .ref h), (1, .ref b), (2, .int (nI f)), (3, .int (nI (f + 16)))] := hl
  have clo : ∀ (n : Nat) (v : st_T) (nn : Nat) (Ls : List Nat) (x4 : Int32), Ls.length < n → jv_ v nn Ls → nn + Ls.length ≤ 23 → ∀ (H : Heap) (locs : List Loc) (ls : Array Slot), gx_ (dC, dI) A s.heap H locs (gw0_ cI cZ h q v) → lv_has ls 8 [(4, .int x4), (0, .ref h), (1, .ref b), (2, .int (nI f)), (3, .int (nI (f + 16)))] → W p l e { frames := 3, cells := 0, slots := 0, locals := 65 } s m args below meth c H locs 0 0 (MQ below (va_Qv (fun u1 => iv_ u1 ∧ u1.1 10 = 0) (gx_O (dC, dI) cI cZ (gw0_ cI cZ h q) (gw0_ cI cZ h q u) sz) (va_A (gw0_ cI cZ h q u) sz)) args s 0 0 (va_A (gw0_ cI cZ h q u) sz)) (F0 m 164 ls []) := by
    intro n
    induction n with
    | zero => intro v nn Ls x4 h1; exact absurd h1 (Nat.not_lt_zero _)
    | succ n ih =>
      intro v nn Ls x4 h1 hj hs H locs ls G hl
      refine lv_aload_n hx hb dL_type_164 rfl (lv_at hl 1 rfl) ?_
      refine lv_iconst (v := 1) hx hb dL_type_165 (by decide) ?_
      refine gx_callr (wf := gw0_ cI cZ h q) (u := v) (f := (pd_state v 1)) (As := [.int 1]) (rest := []) 1 hx hb hml hown hts hK hA G rfl rfl (kd_state l dC dI cI cZ h q _ v 1) gL_type_X0_state rfl rfl rfl hd_X0_state ⟨Nat.le_of_ble_eq_true rfl, Nat.le_of_ble_eq_true rfl⟩ rfl hl.1 rfl (Nat.le_of_ble_eq_true rfl) dL_type_166 (Nat.zero_le _) (Nat.zero_le _) (fun H locs G => ?_)
      refine gx_is (y := nI Ls.length) hj.2.2.2.2.1 ?_
      refine lv_if_le (tgt := 183) hx hb dL_type_169 (by decide) (fun c_169 => ?_) (fun c_169 => ?_)
      · have e0 : Ls.length = 0 := by
          rw [← nI_0, nI_leI (by have := hj.2.2.2.2.2.2.2; omega) (by decide)] at c_169
          omega
        exact gx_pvret (wf := gw0_ cI cZ h q) (u1 := v) hx hb hr hlocks hK hAe G dL_type_183 ⟨⟨nn, Ls, hj⟩, by rw [hj.2.2.2.2.1, e0]; rfl⟩
      · cases Ls with
        | nil => exact absurd (by decide) c_169
        | cons b0 r =>
          rw [List.length_cons] at h1 hs
          have hj2 := end_ok hj (by omega) 0
          refine lv_aload_n hx hb dL_type_172 rfl (lv_at hl 1 rfl) ?_
          refine lv_iconst (v := 0) hx hb dL_type_173 (by decide) ?_
          refine lv_iconst (v := 0) hx hb dL_type_174 (by decide) ?_
          refine gx_calli (wf := gw0_ cI cZ h q) (u := v) (f := (pd_step v 0 0)) (As := [.int 0, .int 0]) (rest := []) 2 hx hb hml hown hts hK hA G rfl rfl (kd_step l dC dI cI cZ h q _ v 0 0 (jv_pre hj).1 (jv_pre hj).2) gL_type_X0_step rfl rfl rfl hd_X0_step ⟨Nat.le_of_ble_eq_true rfl, Nat.le_of_ble_eq_true rfl⟩ rfl hl.1 rfl (Nat.le_of_ble_eq_true rfl) dL_type_175 (Nat.zero_le _) (Nat.zero_le _) (fun H locs G => ?_)
          refine lv_istore (lv' := [(4, .int (pd_step v 0 0).1), (0, .ref h), (1, .ref b), (2, .int (nI f)), (3, .int (nI (f + 16)))]) hx hb dL_type_178 hl (by decide) rfl (fun ls hl => ?_)
          refine lv_goto (tgt := 164) hx hb dL_type_180 (by decide) ?_
          exact ih (pd_step v 0 0).2 (nn + 1) r _ (by omega) hj2 (by omega) H locs ls G hl
  have loop : ∀ (n k : Nat), k ≤ 8 → 9 ≤ k + n → ∀ (v : st_T) (nn : Nat) (Ls : List Nat) (x4 : Int32), jv_ v nn Ls → nn + Ls.length ≤ 23 → ∀ (H : Heap) (locs : List Loc) (ls : Array Slot), gx_ (dC, dI) A s.heap H locs (gw0_ cI cZ h q v) → lv_has ls 8 [(5, .int (nI (f + 2 * k))), (4, .int x4), (0, .ref h), (1, .ref b), (2, .int (nI f)), (3, .int (nI (f + 16)))] → W p l e { frames := 3, cells := 0, slots := 0, locals := 65 } s m args below meth c H locs 0 0 (MQ below (va_Qv (fun u1 => iv_ u1 ∧ u1.1 10 = 0) (gx_O (dC, dI) cI cZ (gw0_ cI cZ h q) (gw0_ cI cZ h q u) sz) (va_A (gw0_ cI cZ h q u) sz)) args s 0 0 (va_A (gw0_ cI cZ h q u) sz)) (F0 m 6 ls []) := by
    intro n
    induction n with
    | zero => intro k h1 h2; exact absurd h2 (by omega)
    | succ n ih =>
      intro k hk8 hkn v nn Ls x4 hj hs H locs ls G hl
      refine lv_iload hx hb dL_type_6 (lv_at hl 0 rfl) ?_
      refine lv_iconst (v := nI 2) hx hb dL_type_8 (by decide) ?_
      refine lv_iadd hx hb dL_type_9 ?_
      refine gx_is (y := nI (f + 2 * k + 2)) (nI_add _ _) ?_
      refine lv_iload_n hx hb dL_type_10 rfl (lv_at hl 5 rfl) ?_
      refine lv_icmp_gt (tgt := 164) hx hb dL_type_11 (by decide) (fun c_11 => ?_) (fun c_11 => ?_)
      · exact clo _ v nn Ls x4 (Nat.lt_succ_self _) hj hs H locs ls G (lv_sub hl [1, 2, 3, 4, 5] rfl)
      · have hk7 : k ≤ 7 := by
          rw [nI_ltI (by omega) (by omega)] at c_11
          omega
        have i0 : vp_in (nI (f + 2 * k)) L := vp_in_nI (by omega) (by omega)
        have i1 : vp_in (nI (f + 2 * k) + 1) L := by rw [nI_1]; exact vp_in_nI (by omega) (by omega)
        have next : ∀ (v : st_T) (nn : Nat) (Ls : List Nat) (x4 : Int32), jv_ v nn Ls → nn + Ls.length ≤ 23 → ∀ (H : Heap) (locs : List Loc) (ls : Array Slot), gx_ (dC, dI) A s.heap H locs (gw0_ cI cZ h q v) → lv_has ls 8 [(5, .int (nI (f + 2 * k))), (4, .int x4), (0, .ref h), (1, .ref b), (2, .int (nI f)), (3, .int (nI (f + 16)))] → W p l e { frames := 3, cells := 0, slots := 0, locals := 65 } s m args below meth c H locs 0 0 (MQ below (va_Qv (fun u1 => iv_ u1 ∧ u1.1 10 = 0) (gx_O (dC, dI) cI cZ (gw0_ cI cZ h q) (gw0_ cI cZ h q u) sz) (va_A (gw0_ cI cZ h q u) sz)) args s 0 0 (va_A (gw0_ cI cZ h q u) sz)) (F0 m 158 ls []) := by
          intro v nn Ls x4 hj hs H locs ls G hl
          refine lv_iinc (v := nI (f + 2 * (k + 1))) (lv' := [(5, .int (nI (f + 2 * (k + 1)))), (4, .int x4), (0, .ref h), (1, .ref b), (2, .int (nI f)), (3, .int (nI (f + 16)))]) hx hb dL_type_158 hl (k := 0) rfl (by show nI (f + 2 * k) + nI 2 = nI (f + 2 * (k + 1)); rw [nI_add]; rfl) (by decide) rfl (fun ls hl => ?_)
          refine lv_goto (tgt := 6) hx hb dL_type_161 (by decide) ?_
          exact ih (k + 1) (by omega) (by omega) v nn Ls x4 hj hs H locs ls G hl
        have at153 : ∀ (op w ar : Int32), nn + Ls.length < 22 → ∀ (H : Heap) (locs : List Loc) (ls : Array Slot), gx_ (dC, dI) A s.heap H locs (gw0_ cI cZ h q v) → lv_has ls 8 [(7, .int op), (6, .int w), (5, .int (nI (f + 2 * k))), (4, .int x4), (0, .ref h), (1, .ref b), (2, .int (nI f)), (3, .int (nI (f + 16)))] → W p l e { frames := 3, cells := 0, slots := 0, locals := 65 } s m args below meth c H locs 0 0 (MQ below (va_Qv (fun u1 => iv_ u1 ∧ u1.1 10 = 0) (gx_O (dC, dI) cI cZ (gw0_ cI cZ h q) (gw0_ cI cZ h q u) sz) (va_A (gw0_ cI cZ h q u) sz)) args s 0 0 (va_A (gw0_ cI cZ h q u) sz)) (F0 m 153 ls [.int ar, .int op, .ref h]) := by
          intro op w ar hlt H locs ls G hl
          obtain ⟨n1, L1, hj1, hs1⟩ := step_ok hj op ar
          refine gx_calli (wf := gw0_ cI cZ h q) (u := v) (f := (pd_step v op ar)) (As := [.int op, .int ar]) (rest := []) 2 hx hb hml hown hts hK hA G rfl rfl (kd_step l dC dI cI cZ h q _ v op ar (jv_pre hj).1 (jv_pre hj).2) gL_type_X0_step rfl rfl rfl hd_X0_step ⟨Nat.le_of_ble_eq_true rfl, Nat.le_of_ble_eq_true rfl⟩ rfl hl.1 rfl (Nat.le_of_ble_eq_true rfl) dL_type_153 (Nat.zero_le _) (Nat.zero_le _) (fun H locs G => ?_)
          refine lv_istore (lv' := [(4, .int (pd_step v op ar).1), (7, .int op), (6, .int w), (5, .int (nI (f + 2 * k))), (0, .ref h), (1, .ref b), (2, .int (nI f)), (3, .int (nI (f + 16)))]) hx hb dL_type_156 hl (by decide) rfl (fun ls hl => ?_)
          exact next (pd_step v op ar).2 n1 L1 _ hj1 (by omega) H locs ls G (lv_sub hl [3, 0, 4, 5, 6, 7] rfl)
        have at104 : ∀ (w op : Int32), ∀ (H : Heap) (locs : List Loc) (ls : Array Slot), gx_ (dC, dI) A s.heap H locs (gw0_ cI cZ h q v) → lv_has ls 8 [(6, .int w), (5, .int (nI (f + 2 * k))), (4, .int x4), (0, .ref h), (1, .ref b), (2, .int (nI f)), (3, .int (nI (f + 16)))] → W p l e { frames := 3, cells := 0, slots := 0, locals := 65 } s m args below meth c H locs 0 0 (MQ below (va_Qv (fun u1 => iv_ u1 ∧ u1.1 10 = 0) (gx_O (dC, dI) cI cZ (gw0_ cI cZ h q) (gw0_ cI cZ h q u) sz) (va_A (gw0_ cI cZ h q u) sz)) args s 0 0 (va_A (gw0_ cI cZ h q u) sz)) (F0 m 104 ls [.int op]) := by
          intro w op H locs ls G hl
          refine lv_istore (lv' := [(7, .int op), (6, .int w), (5, .int (nI (f + 2 * k))), (4, .int x4), (0, .ref h), (1, .ref b), (2, .int (nI f)), (3, .int (nI (f + 16)))]) hx hb dL_type_104 hl (by decide) rfl (fun ls hl => ?_)
          refine lv_aload_n hx hb dL_type_106 rfl (lv_at hl 4 rfl) ?_
          refine lv_iconst (v := 0) hx hb dL_type_107 (by decide) ?_
          refine gx_callr (wf := gw0_ cI cZ h q) (u := v) (f := (pd_state v 0)) (As := [.int 0]) (rest := []) 1 hx hb hml hown hts hK hA G rfl rfl (kd_state l dC dI cI cZ h q _ v 0) gL_type_X0_state rfl rfl rfl hd_X0_state ⟨Nat.le_of_ble_eq_true rfl, Nat.le_of_ble_eq_true rfl⟩ rfl hl.1 rfl (Nat.le_of_ble_eq_true rfl) dL_type_108 (Nat.zero_le _) (Nat.zero_le _) (fun H locs G => ?_)
          refine gx_is (y := nI nn) hj.1 ?_
          refine lv_aload_n hx hb dL_type_111 rfl (lv_at hl 4 rfl) ?_
          refine lv_iconst (v := 1) hx hb dL_type_112 (by decide) ?_
          refine gx_callr (wf := gw0_ cI cZ h q) (u := v) (f := (pd_state v 1)) (As := [.int 1]) (rest := [.int (nI nn)]) 1 hx hb hml hown hts hK hA G rfl rfl (kd_state l dC dI cI cZ h q _ v 1) gL_type_X0_state rfl rfl rfl hd_X0_state ⟨Nat.le_of_ble_eq_true rfl, Nat.le_of_ble_eq_true rfl⟩ rfl hl.1 rfl (Nat.le_of_ble_eq_true rfl) dL_type_113 (Nat.zero_le _) (Nat.zero_le _) (fun H locs G => ?_)
          refine gx_is (y := nI Ls.length) hj.2.2.2.2.1 ?_
          refine lv_iadd hx hb dL_type_116 ?_
          refine gx_is (y := nI (nn + Ls.length)) (nI_add _ _) ?_
          refine lv_bipush (v := nI 22) hx hb dL_type_117 (by decide) ?_
          refine lv_icmp_ge (tgt := 158) hx hb dL_type_119 (by decide) (fun c_119 => ?_) (fun c_119 => ?_)
          · exact next v nn Ls x4 hj hs H locs ls G (lv_sub hl [2, 3, 4, 5, 6, 7] rfl)
          · have hlt : nn + Ls.length < 22 := by
              rw [nI_leI (by decide) (by omega)] at c_119
              omega
            refine lv_aload_n hx hb dL_type_122 rfl (lv_at hl 4 rfl) ?_
            refine lv_iload hx hb dL_type_123 (lv_at hl 0 rfl) ?_
            refine lv_aload_n hx hb dL_type_125 rfl (lv_at hl 5 rfl) ?_
            refine lv_iload hx hb dL_type_126 (lv_at hl 2 rfl) ?_
            refine va_sld hx hb hX hbl hbA G.2.2 i0 dL_type_128 ?_
            refine lv_bipush (v := 32) hx hb dL_type_129 (by decide) ?_
            refine lv_iand hx hb dL_type_131 ?_
            refine lv_if_eq (tgt := 144) hx hb dL_type_132 (by decide) (fun _ => ?_) (fun _ => ?_)
            · refine lv_aload_n hx hb dL_type_144 rfl (lv_at hl 5 rfl) ?_
              refine lv_iload hx hb dL_type_145 (lv_at hl 2 rfl) ?_
              refine lv_iconst (v := 1) hx hb dL_type_147 (by decide) ?_
              refine lv_iadd hx hb dL_type_148 ?_
              refine va_sld hx hb hX hbl hbA G.2.2 i1 dL_type_149 ?_
              refine lv_bipush (v := 7) hx hb dL_type_150 (by decide) ?_
              refine lv_iand hx hb dL_type_152 ?_
              exact at153 op w _ hlt H locs ls G hl
            · refine lv_aload_n hx hb dL_type_135 rfl (lv_at hl 5 rfl) ?_
              refine lv_iload hx hb dL_type_136 (lv_at hl 2 rfl) ?_
              refine lv_iconst (v := 1) hx hb dL_type_138 (by decide) ?_
              refine lv_iadd hx hb dL_type_139 ?_
              refine va_sld hx hb hX hbl hbA G.2.2 i1 dL_type_140 ?_
              refine lv_goto (tgt := 153) hx hb dL_type_141 (by decide) ?_
              exact at153 op w _ hlt H locs ls G hl
        refine lv_aload_n hx hb dL_type_14 rfl (lv_at hl 3 rfl) ?_
        refine lv_iload hx hb dL_type_15 (lv_at hl 0 rfl) ?_
        refine va_sld hx hb hX hbl hbA G.2.2 i0 dL_type_17 ?_
        refine lv_bipush (v := 31) hx hb dL_type_18 (by decide) ?_
        refine lv_iand hx hb dL_type_20 ?_
        obtain ⟨w, ew⟩ : ∃ w, w = xs (nI (f + 2 * k)).toNatClampNeg &&& 31 := ⟨_, rfl⟩
        refine gx_is (y := w) ew.symm ?_
        refine lv_istore (lv' := [(6, .int w), (5, .int (nI (f + 2 * k))), (4, .int x4), (0, .ref h), (1, .ref b), (2, .int (nI f)), (3, .int (nI (f + 16)))]) hx hb dL_type_21 hl (by decide) rfl (fun ls hl => ?_)
        refine lv_iload hx hb dL_type_23 (lv_at hl 0 rfl) ?_
        refine lv_bipush (v := 16) hx hb dL_type_25 (by decide) ?_
        refine lv_icmp_ge (tgt := 35) hx hb dL_type_27 (by decide) (fun _ => ?_) (fun _ => ?_)
        rotate_left
        · refine lv_iload hx hb dL_type_30 (lv_at hl 0 rfl) ?_
          refine lv_goto (tgt := 104) hx hb dL_type_32 (by decide) ?_
          exact at104 w _ H locs ls G hl
        refine lv_iload hx hb dL_type_35 (lv_at hl 0 rfl) ?_
        refine lv_bipush (v := 20) hx hb dL_type_37 (by decide) ?_
        refine lv_icmp_ge (tgt := 46) hx hb dL_type_39 (by decide) (fun _ => ?_) (fun _ => ?_)
        rotate_left
        · refine lv_iconst (v := 0) hx hb dL_type_42 (by decide) ?_
          refine lv_goto (tgt := 104) hx hb dL_type_43 (by decide) ?_
          exact at104 w _ H locs ls G hl
        refine lv_iload hx hb dL_type_46 (lv_at hl 0 rfl) ?_
        refine lv_bipush (v := 23) hx hb dL_type_48 (by decide) ?_
        refine lv_icmp_ge (tgt := 57) hx hb dL_type_50 (by decide) (fun _ => ?_) (fun _ => ?_)
        rotate_left
        · refine lv_iconst (v := 1) hx hb dL_type_53 (by decide) ?_
          refine lv_goto (tgt := 104) hx hb dL_type_54 (by decide) ?_
          exact at104 w _ H locs ls G hl
        refine lv_iload hx hb dL_type_57 (lv_at hl 0 rfl) ?_
        refine lv_bipush (v := 26) hx hb dL_type_59 (by decide) ?_
        refine lv_icmp_ge (tgt := 68) hx hb dL_type_61 (by decide) (fun _ => ?_) (fun _ => ?_)
        rotate_left
        · refine lv_iconst (v := 2) hx hb dL_type_64 (by decide) ?_
          refine lv_goto (tgt := 104) hx hb dL_type_65 (by decide) ?_
          exact at104 w _ H locs ls G hl
        refine lv_iload hx hb dL_type_68 (lv_at hl 0 rfl) ?_
        refine lv_bipush (v := 28) hx hb dL_type_70 (by decide) ?_
        refine lv_icmp_ge (tgt := 79) hx hb dL_type_72 (by decide) (fun _ => ?_) (fun _ => ?_)
        rotate_left
        · refine lv_iconst (v := 3) hx hb dL_type_75 (by decide) ?_
          refine lv_goto (tgt := 104) hx hb dL_type_76 (by decide) ?_
          exact at104 w _ H locs ls G hl
        refine lv_iload hx hb dL_type_79 (lv_at hl 0 rfl) ?_
        refine lv_bipush (v := 29) hx hb dL_type_81 (by decide) ?_
        refine lv_icmp_ge (tgt := 91) hx hb dL_type_83 (by decide) (fun _ => ?_) (fun _ => ?_)
        rotate_left
        · refine lv_bipush (v := 6) hx hb dL_type_86 (by decide) ?_
          refine lv_goto (tgt := 104) hx hb dL_type_88 (by decide) ?_
          exact at104 w _ H locs ls G hl
        refine lv_iload hx hb dL_type_91 (lv_at hl 0 rfl) ?_
        refine lv_bipush (v := 31) hx hb dL_type_93 (by decide) ?_
        refine lv_icmp_ge (tgt := 102) hx hb dL_type_95 (by decide) (fun _ => ?_) (fun _ => ?_)
        rotate_left
        · refine lv_iconst (v := 5) hx hb dL_type_98 (by decide) ?_
          refine lv_goto (tgt := 104) hx hb dL_type_99 (by decide) ?_
          exact at104 w _ H locs ls G hl
        refine lv_bipush (v := 11) hx hb dL_type_102 (by decide) ?_
        exact at104 w _ H locs ls G hl
  refine lv_iconst (v := 0) hx hb dL_type_0 (by decide) ?_
  refine lv_istore (lv' := [(4, .int 0), (0, .ref h), (1, .ref b), (2, .int (nI f)), (3, .int (nI (f + 16)))]) hx hb dL_type_1 hl (by decide) rfl (fun ls hl => ?_)
  refine lv_iload_n hx hb dL_type_3 rfl (lv_at hl 3 rfl) ?_
  refine lv_istore (lv' := [(5, .int (nI f)), (4, .int 0), (0, .ref h), (1, .ref b), (2, .int (nI f)), (3, .int (nI (f + 16)))]) hx hb dL_type_4 hl (by decide) rfl (fun ls hl => ?_)
  exact loop 9 0 (by omega) (by omega) u 0 [] 0 hu (by decide) _ _ ls G hl
theorem hd_L_type : yL_type.cls ≠ "java/lang/invoke/MethodHandle" ∧ yL_type.cls ≠ "java/lang/invoke/VarHandle" ∧ (parseMethodDescriptor yL_type.desc).map (fun d => d.parameters.length) = some 4 := by decide +kernel
end
section
/-! THE CLAIM OUT OF ONE WALK OF THE LAW'S BODY. Your part is whole_start (and what it stands on); all else here is the same for every law, but numbers. -/
def R_law : String := "MonitorDeskLaw"
def lw_P (b : Addr) (xs : List Int32) (args : Array Value) (s : State) : Prop := args = #[.ref b] ∧ s.IntsAt b xs ∧ xs.length ≤ 260 ∧ (Jvm.Cond.and given_1 narrow_1).before args s = true
def lw_Q (_ : Array Value) (s : State) (o : Outcome) (t : State) : Prop := o = .returned (some (.int 1)) ∧ Framed s o t [] 9 151
def lw_Z (below : List Frame) (a : Array Value) (s : State) : State → Prop := fun t => ∃ o, t.status = .running ∧ Ended t below o ∧ lw_Q a s o t
/-- the law's own end, with 1 on the stack, nothing written that was there before, its room as the claim has it -/
theorem lw_ret {p : Program} {l : Launch} {e : Env} {s : State} {m : MethodId} {below : List Frame} {meth : Method} {c : Code} {b : Nat} (hx : p.tables.exec = Jvm.exec) (hb : c.code = code) (hr : meth.sig.returnType = ret) (hlocks : meth.locks = false) {pc : Nat} {H : Heap} {ls : Array Slot} (hdg : decode code pc = .ok (.ireturn, 1)) : W p l e room_1 s m #[Value.ref b] below meth c H [] 9 151 (lw_Z below #[Value.ref b] s) (F0 m pc ls [.int 1]) := by
  intro T hT X
  obtain ⟨fs, hret, hrun, hended, hW, hframe⟩ := X.leave (v := some (.int 1)) (hlocks := hlocks) (fun h => by rw [hr] at h; cases h)
  have hmeth' : T.vm.method? m = some meth := X.method'
  refine ⟨T.setFrames fs, ?_, .returned (some (.int 1)), hrun, hended, rfl, ⟨_, rfl⟩, hW, hframe⟩
  jvm_step X.here [X.here.top, hx, hb, hdg, hmeth', hr, ret, narrow_b1]
  (try refine ⟨rfl, ?_⟩); (try refine ⟨rfl, ?_⟩)
  first | (intro acts; rw [hret _ acts rfl rfl rfl]) | rw [hret _ _ rfl rfl rfl]
  exact Steps.refl _
/-- what holds at the law's entry: the machine, the code, the tables' words (any of lw_tbl by 'hts w (by decide +kernel)'), the script of L ints xs at the cell b, what the Statement gives of the start (any of its parts by flat_of_before) -/
def lw_At (p : Program) (s : State) (m : MethodId) (meth : Method) (c : Code) (b L : Nat) (xs : Nat → Int32) : Prop :=
  p.tables.exec = Jvm.exec ∧ c.code = code ∧ meth.sig.returnType = ret ∧ c.maxLocals = 5 ∧ s.vm.findClass R_law = some m.cls ∧ (∀ w ∈ lw_tbl, w.before #[Value.ref b] s = true) ∧ va_X b L xs s s.heap ∧ b < s.heap.size ∧ meth.locks = false ∧ (Jvm.Cond.and given_1 narrow_1).before #[Value.ref b] s = true
theorem sh_1 : ∀ j, j < 4 → nI 2 * nI j = nI (2 * j) := by decide
theorem sh_2 : ∀ j i, j < 4 → i < 2 → ¬ nI j + nI i < 0 ∧ ¬ 5 ≤ nI j + nI i := by
  intro j i hj hi
  rw [nI_add]
  refine ⟨nI_pos (by omega), ?_⟩
  rw [show (5 : Int32) = nI 5 from by decide, nI_leI (by decide) (by omega)]
  omega
theorem sh_3 : ∀ j, j < 8 → ¬ nI j - nI j / 6 * 6 - 2 < -2 ∧ nI j - nI j / 6 * 6 - 2 < 5 := by decide
theorem sx_0 {i : Nat} (h : i < 2 ^ 31) (xs : Nat → Int32) : xs (nI i).toNatClampNeg = xs i := congrArg xs (nI_clamp h)
theorem no_b {dC : Nat → ClassId} {dI : Nat → Nat → Nat} {H0 H : Heap} {locs : List Loc} {ws : va_W} {b : Nat} (G : gx_ (dC, dI) (fun q : Nat => H0.size ≤ q) H0 H locs ws) (hb : b < H0.size) : ∀ (k : Nat) (e : va_E), ¬ ws[k]? = some (b, e) := fun k e hk => by
  have := G.2.1.2 k _ hk
  exact absurd hb (Nat.not_lt.mpr this)
set_option maxHeartbeats 4000000 in
set_option maxRecDepth 100000 in
theorem law_loop {p : Program} {l : Launch} {e : Env} {s : State} {m : MethodId} {below : List Frame} {meth : Method} {c : Code} {dC : Nat → ClassId} {dI : Nat → Nat → Nat} {cI cZ : ClassId} {b L : Nat} {xs : Nat → Int32} {h : Nat} {q : Nat → Nat} (hL : L ≤ 260) (C0 : lw_At p s m meth c b L xs) (hK : va_K (dC, dI) vwCl (ty_IZ cI cZ) s) :
    ∀ (n k : Nat), 16 * k ≤ L → 17 ≤ k + n → ∀ (v : st_T), iv_ v → ∀ (H : Heap) (locs : List Loc) (ls : Array Slot), gx_ (dC, dI) (fun q : Nat => s.heap.size ≤ q) s.heap H locs (gw0_ cI cZ h q v) → lv_has ls 5 [(2, .int (nI (16 * k))), (1, .ref h), (0, .ref b)] → W p l e room_1 s m #[Value.ref b] below meth c H locs 9 151 (lw_Z below #[Value.ref b] s) (F0 m 10 ls []) := by
  obtain ⟨hx, hb, hr, hml, hown, hts, hX, hbl, hlocks, hgv⟩ := C0
  have hown : s.vm.findClass RL = some m.cls := hown
  have hts := fun w h => hts w (wsL_law_in w h)
  have hA : ∀ q : Nat, s.heap.size ≤ q → (fun q : Nat => s.heap.size ≤ q) q := fun _ h => h
  have hbA : ¬ (fun q : Nat => s.heap.size ≤ q) b := Nat.not_le.mpr hbl
  intro n
  induction n with
  | zero =>
    intro k h1 h2
    exact absurd h2 (by omega)
  | succ n ih =>
    intro k hk hn v hv H locs ls G hl
    refine lv_iload_n hx hb dL_law_10 rfl (lv_at hl 0 rfl) ?_
    refine lv_bipush (v := nI 16) hx hb dL_law_11 (by decide) ?_
    refine lv_iadd hx hb dL_law_13 ?_
    refine gx_is (y := nI (16 * k + 16)) (nI_add _ _) ?_
    refine lv_aload_n hx hb dL_law_14 rfl (lv_at hl 2 rfl) ?_
    refine va_slen hx hb hX hbl hbA G.2.2 dL_law_15 ?_
    refine gx_is (y := nI L) rfl ?_
    refine lv_icmp_gt (tgt := 131) hx hb dL_law_16 (by decide) (fun c_16 => ?_) (fun c_16 => ?_)
    · refine lv_iconst (v := 1) hx hb dL_law_131 (by decide) ?_
      refine va_forget (fun q hq => G.2.2.2.2 q hq) ?_
      exact lw_ret hx hb hr hlocks dL_law_132
    · have hk16 : 16 * k + 16 ≤ L := by
        rw [nI_ltI (by omega) (by omega)] at c_16
        omega
      have fr : ∀ (t i : Nat) (r3 : Int32) (v : st_T), i ≤ 5 → 6 ≤ i + t → iv_ v → ∀ (H : Heap) (locs : List Loc) (ls : Array Slot), gx_ (dC, dI) (fun q : Nat => s.heap.size ≤ q) s.heap H locs (gw0_ cI cZ h q v) → lv_has ls 5 [(4, .int (nI i)), (3, .int r3), (2, .int (nI (16 * k))), (1, .ref h), (0, .ref b)] → W p l e room_1 s m #[Value.ref b] below meth c H locs 9 151 (lw_Z below #[Value.ref b] s) (F0 m 102 ls []) := by
        intro t
        induction t with
        | zero => intro i r3 v h1 h2; exact absurd h2 (by omega)
        | succ t it =>
          intro i r3 v hi5 hit hv H locs ls G hl
          refine lv_iload hx hb dL_law_102 (lv_at hl 0 rfl) ?_
          refine lv_iconst (v := nI 5) hx hb dL_law_104 (by decide) ?_
          refine lv_icmp_ge (tgt := 125) hx hb dL_law_105 (by decide) (fun c_105 => ?_) (fun c_105 => ?_)
          · refine lv_iinc (v := nI (16 * (k + 1))) (lv' := [(2, .int (nI (16 * (k + 1)))), (4, .int (nI i)), (3, .int r3), (1, .ref h), (0, .ref b)]) hx hb dL_law_125 hl (k := 2) rfl (by show nI (16 * k) + nI 16 = nI (16 * (k + 1)); rw [nI_add]; rfl) (by decide) rfl (fun ls hl => ?_)
            refine lv_goto (tgt := 10) hx hb dL_law_128 (by decide) ?_
            exact ih (k + 1) (by omega) (by omega) v hv H locs ls G (lv_sub hl [0, 3, 4] rfl)
          · have hi : i < 5 := by
              rw [nI_leI (by decide) (by omega)] at c_105
              omega
            refine lv_aload_n hx hb dL_law_108 rfl (lv_at hl 3 rfl) ?_
            refine lv_iload hx hb dL_law_109 (lv_at hl 0 rfl) ?_
            refine gx_callSi (wf := gw0_ cI cZ h q) (u := v) (B2 := fun _ => True) (As := [.ref h, .int (nI i)]) (rest := []) 2 hx hb hml hown hts hK hA G (kt_free l dC dI cI cZ h q H.size v i hi hv) gL_law_L_free rfl rfl rfl hd_L_free ⟨Nat.le_of_ble_eq_true rfl, Nat.le_of_ble_eq_true rfl⟩ rfl hl.1 rfl (Nat.le_of_ble_eq_true rfl) dL_law_111 (Nat.le_of_ble_eq_true rfl) (Nat.le_of_ble_eq_true rfl) (fun _ _ _ _ _ => trivial) (fun _ _ _ => trivial) (fun r u1 H locs hp G => ?_)
            obtain ⟨rfl, hv1⟩ := hp
            refine lv_if_ne (tgt := 119) hx hb dL_law_114 (by decide) (fun _ => ?_) (fun z => absurd z (by decide))
            refine lv_iinc (v := nI (i + 1)) (lv' := [(4, .int (nI (i + 1))), (3, .int r3), (2, .int (nI (16 * k))), (1, .ref h), (0, .ref b)]) hx hb dL_law_119 hl (k := 0) rfl (nI_1 i) (by decide) rfl (fun ls hl => ?_)
            refine lv_goto (tgt := 102) hx hb dL_law_122 (by decide) ?_
            exact it (i + 1) r3 u1 (by omega) (by omega) hv1 H locs ls G hl
      have at69 : ∀ (r3 : Int32) (v : st_T), iv_ v → ∀ (H : Heap) (locs : List Loc) (ls : Array Slot), gx_ (dC, dI) (fun q : Nat => s.heap.size ≤ q) s.heap H locs (gw0_ cI cZ h q v) → lv_has ls 5 [(3, .int r3), (2, .int (nI (16 * k))), (1, .ref h), (0, .ref b)] → W p l e room_1 s m #[Value.ref b] below meth c H locs 9 151 (lw_Z below #[Value.ref b] s) (F0 m 69 ls []) := by
        intro r3 v hv H locs ls G hl
        obtain ⟨nn, Ls, hj⟩ := hv
        refine lv_aload_n hx hb dL_law_69 rfl (lv_at hl 2 rfl) ?_
        refine gx_calli (wf := gw0_ cI cZ h q) (u := v) (f := (pd_clear v)) (As := []) (rest := []) 0 hx hb hml hown hts hK hA G rfl rfl (kd_clear l dC dI cI cZ h q _ v) gL_law_X0_clear rfl rfl rfl hd_X0_clear ⟨Nat.le_of_ble_eq_true rfl, Nat.le_of_ble_eq_true rfl⟩ rfl hl.1 rfl (Nat.le_of_ble_eq_true rfl) dL_law_70 (Nat.le_of_ble_eq_true rfl) (Nat.le_of_ble_eq_true rfl) (fun H locs G => ?_)
        obtain ⟨hc1, hc2⟩ := clear_ok hj
        refine lv_if_ge (tgt := 78) hx hb dL_law_73 (by decide) (fun _ => ?_) (fun z => absurd (i_ge1 hc1) z)
        refine lv_aload_n hx hb dL_law_78 rfl (lv_at hl 2 rfl) ?_
        refine lv_aload_n hx hb dL_law_79 rfl (lv_at hl 3 rfl) ?_
        refine lv_iload_n hx hb dL_law_80 rfl (lv_at hl 1 rfl) ?_
        refine lv_iload_n hx hb dL_law_81 rfl (lv_at hl 1 rfl) ?_
        refine lv_bipush (v := nI 16) hx hb dL_law_82 (by decide) ?_
        refine lv_iadd hx hb dL_law_84 ?_
        refine gx_is (y := nI (16 * k + 16)) (nI_add _ _) ?_
        refine gx_callSv (wf := gw0_ cI cZ h q) (u := (pd_clear v).2) (B2 := fun U => va_X b L xs U U.heap ∧ ∀ (k : Nat) (e : va_E), ¬ (gw0_ cI cZ h q (pd_clear v).2)[k]? = some (b, e)) (As := [.ref h, .ref b, .int (nI (16 * k)), .int (nI (16 * k + 16))]) (rest := []) 4 hx hb hml hown hts hK hA G (kt_type l dC dI cI cZ h q _ (pd_clear v).2 b L (16 * k) xs hk16 hL hc2) gL_law_L_type rfl rfl rfl hd_L_type ⟨Nat.le_of_ble_eq_true rfl, Nat.le_of_ble_eq_true rfl⟩ rfl hl.1 rfl (Nat.le_of_ble_eq_true rfl) dL_law_85 (Nat.le_of_ble_eq_true rfl) (Nat.le_of_ble_eq_true rfl) (fun a U g mk z => ⟨va_X.moved (u := U) (U := U.calling g mk a) (Vm.Alike.refl U.vm) z.1, z.2⟩) (fun U hU hal => ⟨by rw [hU]; exact va_X.moved hal (hX.kept (G.2.2.2.1 b hbl hbA)), no_b G hbl⟩) (fun v1 H locs hp G => ?_)
        obtain ⟨⟨n1, L1, hj1⟩, h10⟩ := hp
        obtain ⟨hr1, hr2⟩ := run_ok hj1 h10
        refine lv_aload_n hx hb dL_law_88 rfl (lv_at hl 2 rfl) ?_
        refine gx_calli (wf := gw0_ cI cZ h q) (u := v1) (f := (pd_run v1)) (As := []) (rest := []) 0 hx hb hml hown hts hK hA G rfl rfl (kd_run l dC dI cI cZ h q _ v1 (run_pre hj1)) gL_law_X0_run rfl rfl rfl hd_X0_run ⟨Nat.le_of_ble_eq_true rfl, Nat.le_of_ble_eq_true rfl⟩ rfl hl.1 rfl (Nat.le_of_ble_eq_true rfl) dL_law_89 (Nat.le_of_ble_eq_true rfl) (Nat.le_of_ble_eq_true rfl) (fun H locs G => ?_)
        refine lv_istore_n (lv' := [(3, .int (pd_run v1).1), (2, .int (nI (16 * k))), (1, .ref h), (0, .ref b)]) hx hb dL_law_92 rfl hl (by decide) rfl (fun ls hl => ?_)
        refine lv_iload_n hx hb dL_law_93 rfl (lv_at hl 0 rfl) ?_
        refine lv_if_ge (tgt := 99) hx hb dL_law_94 (by decide) (fun _ => ?_) (fun z => absurd (i_ge1 hr1) z)
        refine lv_iconst (v := 0) hx hb dL_law_99 (by decide) ?_
        refine lv_istore (lv' := [(4, .int 0), (3, .int (pd_run v1).1), (2, .int (nI (16 * k))), (1, .ref h), (0, .ref b)]) hx hb dL_law_100 hl (by decide) rfl (fun ls hl => ?_)
        exact fr 6 0 _ (pd_run v1).2 (by omega) (by omega) ⟨n1, L1, hr2⟩ H locs ls G hl
      have ho : ∀ (t j : Nat) (v : st_T), j ≤ 4 → 5 ≤ j + t → iv_ v → ∀ (H : Heap) (locs : List Loc) (ls : Array Slot), gx_ (dC, dI) (fun q : Nat => s.heap.size ≤ q) s.heap H locs (gw0_ cI cZ h q v) → lv_has ls 5 [(3, .int (nI j)), (2, .int (nI (16 * k))), (1, .ref h), (0, .ref b)] → W p l e room_1 s m #[Value.ref b] below meth c H locs 9 151 (lw_Z below #[Value.ref b] s) (F0 m 21 ls []) := by
        intro t
        induction t with
        | zero => intro j v h1 h2; exact absurd h2 (by omega)
        | succ t it =>
          intro j v hj4 hjt hv H locs ls G hl
          refine lv_iload_n hx hb dL_law_21 rfl (lv_at hl 0 rfl) ?_
          refine lv_iconst (v := nI 4) hx hb dL_law_22 (by decide) ?_
          refine lv_icmp_ge (tgt := 69) hx hb dL_law_23 (by decide) (fun c_23 => ?_) (fun c_23 => ?_)
          · exact at69 _ v hv H locs ls G hl
          · have hj : j < 4 := by
              rw [nI_leI (by decide) (by omega)] at c_23
              omega
            refine lv_aload_n hx hb dL_law_26 rfl (lv_at hl 2 rfl) ?_
            refine lv_iload_n hx hb dL_law_27 rfl (lv_at hl 0 rfl) ?_
            refine lv_aload_n hx hb dL_law_28 rfl (lv_at hl 3 rfl) ?_
            refine lv_iload_n hx hb dL_law_29 rfl (lv_at hl 1 rfl) ?_
            refine va_sld hx hb hX hbl hbA G.2.2 (vp_in_nI (by omega) (by omega)) dL_law_30 ?_
            refine lv_bipush (v := 6) hx hb dL_law_31 (by decide) ?_
            refine lv_ishr hx hb dL_law_33 ?_
            refine lv_iconst (v := 1) hx hb dL_law_34 (by decide) ?_
            refine lv_iand hx hb dL_law_35 ?_
            obtain ⟨i1, hi1, ei1⟩ := pk_andE (xs (nI (16 * k)).toNatClampNeg >>> ((6 : Int32) &&& 31)) (m := 1) 1 (by decide)
            refine gx_is (y := nI i1) ei1 ?_
            refine lv_iadd hx hb dL_law_36 ?_
            refine lv_aload_n hx hb dL_law_37 rfl (lv_at hl 3 rfl) ?_
            refine lv_iload_n hx hb dL_law_38 rfl (lv_at hl 1 rfl) ?_
            refine lv_iconst (v := nI 2) hx hb dL_law_39 (by decide) ?_
            refine lv_iload_n hx hb dL_law_40 rfl (lv_at hl 0 rfl) ?_
            refine lv_imul hx hb dL_law_41 ?_
            refine gx_is (y := nI (2 * j)) (sh_1 j hj) ?_
            refine lv_iadd hx hb dL_law_42 ?_
            refine gx_is (y := nI (16 * k + 2 * j)) (nI_add _ _) ?_
            refine va_sld hx hb hX hbl hbA G.2.2 (vp_in_nI (by omega) (by omega)) dL_law_43 ?_
            refine lv_bipush (v := 7) hx hb dL_law_44 (by decide) ?_
            refine lv_ishr hx hb dL_law_46 ?_
            refine lv_bipush (v := 7) hx hb dL_law_47 (by decide) ?_
            refine lv_iand hx hb dL_law_49 ?_
            obtain ⟨i2, hi2, ei2⟩ := pk_andE (xs (nI (16 * k + 2 * j)).toNatClampNeg >>> ((7 : Int32) &&& 31)) (m := 7) 3 (by decide)
            refine gx_is (y := nI i2) ei2 ?_
            refine lv_bipush (v := 6) hx hb dL_law_50 (by decide) ?_
            refine lv_irem hx hb dL_law_52 (by decide) ?_
            refine lv_iconst (v := 2) hx hb dL_law_53 (by decide) ?_
            refine lv_isub hx hb dL_law_54 ?_
            obtain ⟨q1, q2⟩ := hold_ok (u := v) (sh_2 j i1 hj hi1).1 (sh_2 j i1 hj hi1).2 (sh_3 i2 hi2).1 (sh_3 i2 hi2).2
            refine gx_calli (wf := gw0_ cI cZ h q) (u := v) (f := (pd_hold v (nI j + nI i1) (nI i2 - nI i2 / 6 * 6 - 2))) (As := [.int (nI j + nI i1), .int (nI i2 - nI i2 / 6 * 6 - 2)]) (rest := []) 2 hx hb hml hown hts hK hA G rfl rfl (kd_hold l dC dI cI cZ h q _ v (nI j + nI i1) (nI i2 - nI i2 / 6 * 6 - 2)) gL_law_X0_hold rfl rfl rfl hd_X0_hold ⟨Nat.le_of_ble_eq_true rfl, Nat.le_of_ble_eq_true rfl⟩ rfl hl.1 rfl (Nat.le_of_ble_eq_true rfl) dL_law_55 (Nat.le_of_ble_eq_true rfl) (Nat.le_of_ble_eq_true rfl) (fun H locs G => ?_)
            refine lv_if_eq (tgt := 63) hx hb dL_law_58 (by decide) (fun _ => ?_) (fun z => absurd q1 z)
            obtain ⟨nn, Ls, hjv⟩ := hv
            refine lv_iinc (v := nI (j + 1)) (lv' := [(3, .int (nI (j + 1))), (2, .int (nI (16 * k))), (1, .ref h), (0, .ref b)]) hx hb dL_law_63 hl (k := 0) rfl (nI_1 j) (by decide) rfl (fun ls hl => ?_)
            refine lv_goto (tgt := 21) hx hb dL_law_66 (by decide) ?_
            exact it (j + 1) _ (by omega) (by omega) ⟨nn, Ls, q2 nn Ls hjv⟩ H locs ls G hl
      refine lv_iconst (v := 0) hx hb dL_law_19 (by decide) ?_
      refine lv_istore_n (lv' := [(3, .int 0), (2, .int (nI (16 * k))), (1, .ref h), (0, .ref b)]) hx hb dL_law_20 rfl hl (by decide) rfl (fun ls hl => ?_)
      exact ho 5 0 v (by omega) (by omega) hv H locs ls G hl
set_option maxHeartbeats 4000000 in
set_option maxRecDepth 100000 in
/-- THE LAW, from its entry -/
theorem whole_start {p : Program} {e : Env} {s : State} {m : MethodId} {below : List Frame} {meth : Method} {c : Code} (l : Launch) (hflags : l.flags = flags0) {b L : Nat} {xs : Nat → Int32} (hL : L ≤ 260) (C0 : lw_At p s m meth c b L xs) : W p l e room_1 s m #[Value.ref b] below meth c s.heap [] 0 0 (lw_Z below #[Value.ref b] s) (entryFrame m ([Value.ref b] : List Value).toArray 5) := by
  obtain ⟨hx, hb, hr, hml, hown, hts0, hX, hbl, hlocks, hgv⟩ := id C0
  have hown : s.vm.findClass RL = some m.cls := hown
  have hts := fun w h => hts0 w (wsL_law_in w h)
  have hA : ∀ q : Nat, s.heap.size ≤ q → (fun q : Nat => s.heap.size ≤ q) q := fun _ h => h
  obtain ⟨c0, iS0, hKn0⟩ := u_known (C := RX0) (T := TX0) (N := 17) (n := 17) hts inlX0 (hts (.instantiable RX0 17) (by decide +kernel))
  obtain ⟨dC, dI, hKc⟩ : ∃ (dC : Nat → ClassId) (dI : Nat → Nat → Nat), ∀ (k : Nat) (q : vw_C), vwCl[k]? = some q → u_Kn s q.1 q.2.1 q.2.2 (dC k) (dI k) := by
    refine ⟨fun k => c0, fun k => iS0, ?_⟩
    intro k q hq
    match k, hq with
    | 0, hq => cases hq; exact hKn0
    | k + 1, hq => simp [vwCl] at hq
  have hS : va_S (fun q : Nat => s.heap.size ≤ q) s.heap s.heap [] := va_S.rf
  have hK : va_K (dC, dI) vwCl [] s := ⟨hKc, fun k q h => by simp at h⟩
  have hP : va_P (dC, dI) vwCl [] s.heap := fun k q h => by simp at h
  have hD : va_D (fun q : Nat => s.heap.size ≤ q) [] := ⟨fun i j p q h => by simp at h, fun k q h => by simp at h⟩
  have hl := lv_entry ([.ref b]) (n := 5) (Nat.le_of_ble_eq_true rfl)
  rw [lg_entry_eq]
  generalize (lg_sl ([.ref b]) ++ List.replicate (5 - (lg_sl ([.ref b])).length) Slot.unset).toArray = ls at hl ⊢
  have hl : lv_has ls 5 [(0, .ref b)] := hl
  refine va_new (ci := 0) (fs := [.null, .int 0, .null, .int 0, .int 0, .null, .null, .null, .null, .int 0, .int 0, .int 0, .null, .int 0, .null, .int 0, .int 0]) (C := RX0) (T := TX0) (N := 17) hx hb hts inlX0 tyX0 tyX0_ok hown (hts (.classLink RL 8 RX0) (by decide +kernel)) (hts (.instantiable RX0 17) (by decide +kernel)) (hts (.initialized RX0) (by decide +kernel)) hK hP hD hS hA rfl (fun j hj => by
    match j, hj with
    | 0, _ => rfl
    | 1, _ => rfl
    | 2, _ => rfl
    | 3, _ => rfl
    | 4, _ => rfl
    | 5, _ => rfl
    | 6, _ => rfl
    | 7, _ => rfl
    | 8, _ => rfl
    | 9, _ => rfl
    | 10, _ => rfl
    | 11, _ => rfl
    | 12, _ => rfl
    | 13, _ => rfl
    | 14, _ => rfl
    | 15, _ => rfl
    | 16, _ => rfl
    | j + 17, hj => exact absurd hj (by omega)) (Nat.le_of_ble_eq_true rfl) (Nat.le_of_ble_eq_true rfl) dL_law_0 (fun h H hP hD hS => ?_)
  have hP : va_P (dC, dI) vwCl (gn0_ h) H := hP
  have hD : va_D (fun q : Nat => s.heap.size ≤ q) (gn0_ h) := hD
  refine W.widen (k := 1) (n := 17) (Nat.le_of_ble_eq_true rfl) (Nat.le_of_ble_eq_true rfl) ?_
  refine lv_dup hx hb dL_law_3 rfl ?_
  have hPc := hP.sub (ws' := gn0_ h) [0] rfl
  have hDc := hD.sub (ws' := gn0_ h) [0] (by decide) rfl
  have hKc0 := hK.sub (tys' := []) [] rfl
  have hFc := va_free (wc := gn0_ h) hD hS hA [0] rfl
  refine va_callv (va_runI (As := []) (rest := [.ref h]) ⟨hx, hb, hml, hown, hts⟩ (kd_init l dC dI h H.size) (cwI 0 hts gL_law_X0_init rfl rfl rfl (hts (.initialized RX0) (by decide +kernel)) (hts (.methodLink RL 30 yX0_init) (by decide +kernel)) (hts (.instanceMethod yX0_init) (by decide +kernel)) rfl (by decide +kernel) ⟨Nat.le_of_ble_eq_true rfl, Nat.le_of_ble_eq_true rfl⟩) ⟨fun a U g mk q => by obtain ⟨q0, q1, qP, qK, qD⟩ := q; exact ⟨q0, q1, qP, va_K.moved (u := U) (U := U.calling g mk a) (Vm.Alike.refl U.vm) qK, qD⟩, fun U hU hW => ⟨rfl, by rw [hU], by rw [hU]; exact hPc, va_K.moved hW.alike hKc0, hDc.weaken (fun _ _ _ _ => trivial)⟩⟩ rfl rfl hl.1 rfl (lv_room (Nat.le_of_ble_eq_true rfl)) dL_law_4 ⟨Nat.le_of_ble_eq_true rfl, Nat.le_of_ble_eq_true rfl⟩) hS (fun q _ h => hFc q h) hFc (fun un t H1 locs ht hvm hw hB hz1 hk1 hS => ?_)
  obtain ⟨cI, cZ, q, hP1, hK1, hD1⟩ := hB
  rw [ht] at hP1
  have hK1 := va_K.moved hvm.symm hK1
  obtain ⟨hP, hD⟩ := va_join (wr := []) (w1 := gw0_ cI cZ h q pd_init) hP hD [0] [] rfl rfl (by decide) (by decide) hk1 hFc hP1 hD1
  have hK : va_K (dC, dI) vwCl (ty_IZ cI cZ) s := hK1
  generalize H1 = H at hP hS ⊢
  have hP : va_P (dC, dI) vwCl (gw0_ cI cZ h q pd_init) H := hP
  have hD : va_D (fun q : Nat => s.heap.size ≤ q) (gw0_ cI cZ h q pd_init) := hD
  refine W.widen (k := 9) (n := 151) (Nat.le_of_ble_eq_true rfl) (Nat.le_of_ble_eq_true rfl) ?_
  refine lv_astore_n (lv' := [(1, .ref h), (0, .ref b)]) hx hb dL_law_7 rfl hl (by decide) rfl (fun ls hl => ?_)
  refine lv_iconst (v := 0) hx hb dL_law_8 (by decide) ?_
  refine lv_istore_n (lv' := [(2, .int 0), (1, .ref h), (0, .ref b)]) hx hb dL_law_9 rfl hl (by decide) rfl (fun ls hl => ?_)
  exact law_loop hL C0 hK 17 0 (Nat.zero_le _) (by decide) pd_init ⟨0, [], jv_init⟩ H locs ls ⟨hP, hD, hS⟩ hl
set_option maxHeartbeats 4000000 in
theorem lw_walk (l : Launch) (hflags : l.flags = flags0) (b : Addr) (xs : List Int32) : MetFree l x (headSpec (Jvm.Cond.code x code maxLocals ret :: tables_1) room_1) (lw_P b xs) (fun _ _ _ _ _ => True) lw_Q := by
  refine MetFree.of_bodyS (code := code) (maxLocals := maxLocals) (ret := ret) (by decide) ?_ ?_
  · intro args s m h hn
    obtain ⟨meth, c, h1, h2, h3, h4, h5, h6, -, -⟩ := Cond.code_spec hn (atoms_spec (ws := Jvm.Cond.code x code maxLocals ret :: tables_1) h _ List.mem_cons_self)
    exact ⟨meth, c, h1, h2, h3, h4, h5, h6⟩
  · intro p e s m args below meth c s₁ B hml0 hP _
    obtain ⟨rfl, hx, hbd, hgv⟩ := hP
    obtain ⟨scr, harrAt, hlist, hof, hsmall⟩ := hx
    obtain ⟨hcb, hkn, -, -⟩ := State.arrayAt?_spec harrAt
    have hown : s.vm.findClass R_law = some m.cls := findClass_of_methodNamed B.named
    have hts0 : ∀ c ∈ (Jvm.Cond.code x code maxLocals ret :: tables_1), c.before #[Value.ref b] s = true := atoms_spec (ws := Jvm.Cond.code x code maxLocals ret :: tables_1) B.pre
    have hts : ∀ w ∈ lw_tbl, w.before #[Value.ref b] s = true := k2_hts_sels lw_privs (fun w hw => hts0 w (List.mem_cons_of_mem _ hw)) lw_privs_ok
    have hml : c.maxLocals = 5 := B.maxLocals_eq (hts0 _ List.mem_cons_self)
    have X₀ : Stand p l e room_1 s m #[Value.ref b] below meth c s₁ [] 0 0 := Stand.of_body B
    have hh0 : s₁.heap = s.heap := by rw [B.state]; rfl
    have hsz : scr.slots.size = xs.length := by rw [← Array.length_toList, hlist, List.length_map]
    have hval : ∀ j : Nat, j < xs.length → scr.slots[j]? = some (.int (xs.getD j 0)) := fun j hj => by
      rw [← Array.getElem?_toList, hlist]
      simp [hj]
    have hbl : b < s.heap.size := (Array.getElem?_eq_some_iff.mp hcb).1
    have hX : va_X b xs.length (fun j => xs.getD j 0) s s.heap := ⟨scr, hcb, hof, hkn, hsz, hval⟩
    have K : W p l e room_1 s m #[Value.ref b] below meth c s₁.heap [] 0 0 (lw_Z below #[Value.ref b] s) (entryFrame m ([Value.ref b] : List Value).toArray 5) := by
      rw [hh0]
      exact whole_start l hflags hbd ⟨B.exec, B.bytes, B.returns, hml, hown, hts, hX, hbl, B.notSynchronized, hgv⟩
    obtain ⟨t, a1, o, b1, b2, b3⟩ := K s₁ rfl X₀
    exact ⟨t, o, a1, b1, b2, b3⟩
theorem lw_pre_spec {args : Array Value} {s : State} (h : (Jvm.Cond.and given_1 narrow_1).before args s = true) (hr : rest_1_c.before args s = true) : ∃ (b : Addr) (xs : List Int32), lw_P b xs args s := by
  have hs := flat_of_before _ h
  have hq := flat_of_before _ hr
  have hc : (Cond.count 1).before args s = true := hs _ (by decide +kernel)
  have harr : (Cond.arrayOf (.arg 0) .int).before args s = true := hs _ (by decide +kernel)
  have hle : (Cond.le (.length (.arg 0)) (.int 260)).before args s = true := hs _ (by decide +kernel)
  have hlen : (Cond.isInt (.length (.arg 0))).before args s = true := hq _ (by decide +kernel)
  have hall : (Cond.all (.arg 0) (.isInt (.elem (.arg 0) (.index 0)))).before args s = true := hq _ (by decide +kernel)
  obtain ⟨b, xs, hb, hx⟩ := State.ints_of_pre rfl harr hlen hall
  have hsm : xs.length < 2 ^ 31 := hx.choose_spec.2.2.2
  have hev : (Term.length (.arg 0)).eval args s none [] s = some (.int xs.length.toInt32) := hx.length_eval hb
  have hv := Cond.le_ints hev (show (Term.int 260).eval args s none [] s = some (.int 260) from rfl)
  have hd : xs.length.toInt32 ≤ 260 := by
    simpa [Cond.before, Cond.holds, hv] using hle
  have hN : xs.length ≤ 260 := (Int32.ofNat_le_ofNat hsm (by decide)).mp (show Int32.ofNat xs.length ≤ Int32.ofNat 260 from hd)
  exact ⟨b, xs, Cond.one_arg hc (show args[0]? = some (.ref b) from hb), hx, hN, h⟩
theorem lw_comes (l : Launch) (hflags : l.flags = flags0) : Comes l x (Jvm.Cond.code x code maxLocals ret :: tables_1) room_1 (fun tb e args s => Calls_1 tb e args s ∧ rest_1 tb e args s ∧ Pre_1 tb e args s)
    (fun _ _ args s o t => lw_Q args s o t) := by
  intro p e ha hc hk s m args below hf hfit hheap happ hpre
  obtain ⟨b, xs, hP⟩ := lw_pre_spec hpre.2.2 hpre.2.1
  obtain ⟨k, o, h1, h2, h3, hQ⟩ := lw_walk l hflags b xs p e ha hc hk s m args below hf ((Spec.applies_iff_loose hf).mp happ).1 hP trivial
  exact ⟨k, o, h1, h2, h3, hQ⟩
theorem lw_frame {s t : State} {o : Outcome} {args : Array Value} (h : Framed s o t [] 9 151) :
    Framed s o t (fieldLocs frame_1_writes args s ++ arrayLocs frame_1_arrays args s ++ staticLocs frame_1_statics s) 9 151 := h
theorem lw_limb (L : Cond) (hL : ∀ (args : Array Value) (s t : State), L.after args s (.returned (some (.int 1))) t = true) :
    ArmFor flags0 classFile x code maxLocals ret World_1 tables_1 room_1 Calls_1 rest_1 Pre_1
      (fun tb e a s o t => postC L tb e a s o t ∧ Framed s o t (fieldLocs frame_1_writes a s ++ arrayLocs frame_1_arrays a s ++ staticLocs frame_1_statics s) 9 151) := by
  intro l hflags _ _ p e ha hc hk s m args below hf hfit hheap happ hpre
  obtain ⟨k, o, h1, h2, h3, rfl, hF⟩ := lw_comes l hflags p e ha hc hk s m args below hf hfit hheap happ hpre
  exact ⟨k, _, h1, h2, h3, hL args s _, lw_frame hF⟩
theorem i_vc : Claimed_1_1 ∧ Claimed_1_2 := ⟨lw_limb limb_1_1 (fun args s t => by simp [limb_1_1, Cond.after, Cond.holds, Cond.value]), lw_limb limb_1_2 (fun args s t => Cond.after_iff.mpr (by
  first | (rw [show limb_1_2 = Cond.eq .result (.int 1) from rfl, Cond.eq_ints (x := 1) (y := 1) rfl rfl]; simp; done) | (simp [limb_1_2, Cond.value, Term.eval]; done)))⟩
end
