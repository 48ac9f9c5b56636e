-- ===== PART A: goes FIRST, ahead of the names: the tables' words, and 'selects' of the private methods out of them =====
/-- a private method of a class that the tables say can be made, by its rows of tables_1 -/
def lw_okq (q : MethodName × Nat) : Prop := (q.1.cls ≠ "java/lang/invoke/MethodHandle" ∧ q.1.cls ≠ "java/lang/invoke/VarHandle") ∧ Cond.instantiable q.1.cls q.2 ∈ tables_1 ∧ Cond.privateMethod q.1 ∈ tables_1 ∧ Cond.instanceMethod q.1 ∈ tables_1
theorem lw_p0 : lw_okq (⟨"MonitorDesk", "doStep", "(I)V"⟩, 17) := ⟨⟨by decide +kernel, by decide +kernel⟩, List.mem_of_getElem? (i := 5) (by decide +kernel), List.mem_of_getElem? (i := 82) (by decide +kernel), List.mem_of_getElem? (i := 83) (by decide +kernel)⟩
theorem lw_p1 : lw_okq (⟨"MonitorDesk", "perform", "(I)I"⟩, 17) := ⟨⟨by decide +kernel, by decide +kernel⟩, List.mem_of_getElem? (i := 5) (by decide +kernel), List.mem_of_getElem? (i := 86) (by decide +kernel), List.mem_of_getElem? (i := 87) (by decide +kernel)⟩
theorem lw_p2 : lw_okq (⟨"MonitorDesk", "endBlock", "(I)I"⟩, 17) := ⟨⟨by decide +kernel, by decide +kernel⟩, List.mem_of_getElem? (i := 5) (by decide +kernel), List.mem_of_getElem? (i := 93) (by decide +kernel), List.mem_of_getElem? (i := 94) (by decide +kernel)⟩
theorem lw_p3 : lw_okq (⟨"MonitorDesk", "isEnter", "(I)Z"⟩, 17) := ⟨⟨by decide +kernel, by decide +kernel⟩, List.mem_of_getElem? (i := 5) (by decide +kernel), List.mem_of_getElem? (i := 97) (by decide +kernel), List.mem_of_getElem? (i := 98) (by decide +kernel)⟩
theorem lw_p4 : lw_okq (⟨"MonitorDesk", "giveBack", "(I)I"⟩, 17) := ⟨⟨by decide +kernel, by decide +kernel⟩, List.mem_of_getElem? (i := 5) (by decide +kernel), List.mem_of_getElem? (i := 101) (by decide +kernel), List.mem_of_getElem? (i := 102) (by decide +kernel)⟩
theorem lw_p5 : lw_okq (⟨"MonitorDesk", "leastHandle", "(I)I"⟩, 17) := ⟨⟨by decide +kernel, by decide +kernel⟩, List.mem_of_getElem? (i := 5) (by decide +kernel), List.mem_of_getElem? (i := 105) (by decide +kernel), List.mem_of_getElem? (i := 106) (by decide +kernel)⟩
theorem lw_p6 : lw_okq (⟨"MonitorDesk", "enter", "(I)I"⟩, 17) := ⟨⟨by decide +kernel, by decide +kernel⟩, List.mem_of_getElem? (i := 5) (by decide +kernel), List.mem_of_getElem? (i := 109) (by decide +kernel), List.mem_of_getElem? (i := 110) (by decide +kernel)⟩
theorem lw_p7 : lw_okq (⟨"MonitorDesk", "raise", "(I)I"⟩, 17) := ⟨⟨by decide +kernel, by decide +kernel⟩, List.mem_of_getElem? (i := 5) (by decide +kernel), List.mem_of_getElem? (i := 113) (by decide +kernel), List.mem_of_getElem? (i := 114) (by decide +kernel)⟩
theorem lw_p8 : lw_okq (⟨"MonitorDesk", "notifyWaiting", "(I)I"⟩, 17) := ⟨⟨by decide +kernel, by decide +kernel⟩, List.mem_of_getElem? (i := 5) (by decide +kernel), List.mem_of_getElem? (i := 117) (by decide +kernel), List.mem_of_getElem? (i := 118) (by decide +kernel)⟩
theorem lw_p9 : lw_okq (⟨"MonitorDesk", "holdsLock", "(I)I"⟩, 17) := ⟨⟨by decide +kernel, by decide +kernel⟩, List.mem_of_getElem? (i := 5) (by decide +kernel), List.mem_of_getElem? (i := 121) (by decide +kernel), List.mem_of_getElem? (i := 122) (by decide +kernel)⟩
theorem lw_p10 : lw_okq (⟨"MonitorDesk", "awaitNotice", "(I)I"⟩, 17) := ⟨⟨by decide +kernel, by decide +kernel⟩, List.mem_of_getElem? (i := 5) (by decide +kernel), List.mem_of_getElem? (i := 128) (by decide +kernel), List.mem_of_getElem? (i := 129) (by decide +kernel)⟩
theorem lw_p11 : lw_okq (⟨"MonitorDesk", "takeFlag", "()Z"⟩, 17) := ⟨⟨by decide +kernel, by decide +kernel⟩, List.mem_of_getElem? (i := 5) (by decide +kernel), List.mem_of_getElem? (i := 136) (by decide +kernel), List.mem_of_getElem? (i := 137) (by decide +kernel)⟩
theorem lw_p12 : lw_okq (⟨"MonitorDesk", "sleep", "(I)I"⟩, 17) := ⟨⟨by decide +kernel, by decide +kernel⟩, List.mem_of_getElem? (i := 5) (by decide +kernel), List.mem_of_getElem? (i := 140) (by decide +kernel), List.mem_of_getElem? (i := 141) (by decide +kernel)⟩
theorem lw_p13 : lw_okq (⟨"MonitorDesk", "start", "(I)I"⟩, 17) := ⟨⟨by decide +kernel, by decide +kernel⟩, List.mem_of_getElem? (i := 5) (by decide +kernel), List.mem_of_getElem? (i := 144) (by decide +kernel), List.mem_of_getElem? (i := 145) (by decide +kernel)⟩
theorem lw_p14 : lw_okq (⟨"MonitorDesk", "leaveBlocks", "(I)V"⟩, 17) := ⟨⟨by decide +kernel, by decide +kernel⟩, List.mem_of_getElem? (i := 5) (by decide +kernel), List.mem_of_getElem? (i := 148) (by decide +kernel), List.mem_of_getElem? (i := 149) (by decide +kernel)⟩
theorem lw_p15 : lw_okq (⟨"MonitorDesk", "countEnded", "()I"⟩, 17) := ⟨⟨by decide +kernel, by decide +kernel⟩, List.mem_of_getElem? (i := 5) (by decide +kernel), List.mem_of_getElem? (i := 159) (by decide +kernel), List.mem_of_getElem? (i := 160) (by decide +kernel)⟩
def lw_privs_1 : List (MethodName × Nat) := [(⟨"MonitorDesk", "doStep", "(I)V"⟩, 17), (⟨"MonitorDesk", "perform", "(I)I"⟩, 17), (⟨"MonitorDesk", "endBlock", "(I)I"⟩, 17), (⟨"MonitorDesk", "isEnter", "(I)Z"⟩, 17), (⟨"MonitorDesk", "giveBack", "(I)I"⟩, 17), (⟨"MonitorDesk", "leastHandle", "(I)I"⟩, 17), (⟨"MonitorDesk", "enter", "(I)I"⟩, 17), (⟨"MonitorDesk", "raise", "(I)I"⟩, 17), (⟨"MonitorDesk", "notifyWaiting", "(I)I"⟩, 17), (⟨"MonitorDesk", "holdsLock", "(I)I"⟩, 17), (⟨"MonitorDesk", "awaitNotice", "(I)I"⟩, 17), (⟨"MonitorDesk", "takeFlag", "()Z"⟩, 17), (⟨"MonitorDesk", "sleep", "(I)I"⟩, 17), (⟨"MonitorDesk", "start", "(I)I"⟩, 17), (⟨"MonitorDesk", "leaveBlocks", "(I)V"⟩, 17), (⟨"MonitorDesk", "countEnded", "()I"⟩, 17)]
theorem lw_r1 : ∀ q ∈ lw_privs_1, lw_okq q := List.forall_mem_cons.mpr ⟨lw_p0, List.forall_mem_cons.mpr ⟨lw_p1, List.forall_mem_cons.mpr ⟨lw_p2, List.forall_mem_cons.mpr ⟨lw_p3, List.forall_mem_cons.mpr ⟨lw_p4, List.forall_mem_cons.mpr ⟨lw_p5, List.forall_mem_cons.mpr ⟨lw_p6, List.forall_mem_cons.mpr ⟨lw_p7, List.forall_mem_cons.mpr ⟨lw_p8, List.forall_mem_cons.mpr ⟨lw_p9, List.forall_mem_cons.mpr ⟨lw_p10, List.forall_mem_cons.mpr ⟨lw_p11, List.forall_mem_cons.mpr ⟨lw_p12, List.forall_mem_cons.mpr ⟨lw_p13, List.forall_mem_cons.mpr ⟨lw_p14, List.forall_mem_cons.mpr ⟨lw_p15, fun _ h => absurd h List.not_mem_nil⟩⟩⟩⟩⟩⟩⟩⟩⟩⟩⟩⟩⟩⟩⟩⟩
theorem lw_p16 : lw_okq (⟨"MonitorDesk", "handleState", "(I)I"⟩, 17) := ⟨⟨by decide +kernel, by decide +kernel⟩, List.mem_of_getElem? (i := 5) (by decide +kernel), List.mem_of_getElem? (i := 163) (by decide +kernel), List.mem_of_getElem? (i := 164) (by decide +kernel)⟩
def lw_privs_2 : List (MethodName × Nat) := [(⟨"MonitorDesk", "handleState", "(I)I"⟩, 17)]
theorem lw_r2 : ∀ q ∈ lw_privs_2, lw_okq q := List.forall_mem_cons.mpr ⟨lw_p16, fun _ h => absurd h List.not_mem_nil⟩
def lw_privs : List (MethodName × Nat) := lw_privs_1 ++ (lw_privs_2)
def lw_tbl : List Cond := k2_sels lw_privs ++ tables_1
theorem lw_privs_ok : ∀ q ∈ lw_privs, lw_okq q := by
  show ∀ q ∈ lw_privs_1 ++ (lw_privs_2), lw_okq q
  exact List.forall_mem_append.mpr ⟨lw_r1, lw_r2⟩
/-! ===== BEGIN words of one list among another's, by their places ===== -/
theorem goodIn_r {big : List Cond} (ws : List Cond) (ps : List Nat) (hp : ws = ps.filterMap (fun i => big[i]?)) (h : ws.all goodWord = true) : GoodIn big ws := by
  intro w hw
  have h1 := List.all_eq_true.mp h w hw
  rw [hp] at hw
  obtain ⟨i, -, hi⟩ := List.mem_filterMap.mp hw
  have hm : w ∈ big := by first | exact List.mem_of_getElem? hi | exact List.getElem?_mem hi
  exact ⟨hm, good_of_word h1⟩
theorem goodIn_app {big a b : List Cond} (ha : GoodIn big a) (hb : GoodIn big b) : GoodIn big (a ++ b) := fun w h => (List.mem_append.mp h).elim (ha w) (hb w)
theorem goodIn_ca {big a b : List Cond} {c : Cond} (ha : GoodIn big (c :: a)) (hb : GoodIn big b) : GoodIn big (c :: (a ++ b)) := fun w h => (List.mem_cons.mp h).elim (fun e => ha w (List.mem_cons.mpr (Or.inl e))) (fun h => (List.mem_append.mp h).elim (fun h => ha w (List.mem_cons.mpr (Or.inr h))) (hb w))
theorem goodIn_sub {big ws : List Cond} (hm : ∀ w ∈ ws, w ∈ big) (h : ws.all goodWord = true) : GoodIn big ws := fun w hw => ⟨hm w hw, good_of_word (List.all_eq_true.mp h w hw)⟩
/-! ===== END ===== -/

/-! ===== BEGIN printed: names, fields, word lists, decode rows ===== -/
def RX0 : String := "MonitorDesk"
def TX0 : u_T := fun k => match k with
  | 0 => ("MonitorDesk", "locks", "[I", true)
  | 1 => ("MonitorDesk", "locksMade", "I", false)
  | 2 => ("MonitorDesk", "ended", "[Z", true)
  | 3 => ("MonitorDesk", "total", "I", false)
  | 4 => ("MonitorDesk", "flag", "Z", false)
  | 5 => ("MonitorDesk", "operations", "[I", true)
  | 6 => ("MonitorDesk", "arguments", "[I", true)
  | 7 => ("MonitorDesk", "around", "[I", true)
  | 8 => ("MonitorDesk", "ends", "[I", true)
  | 9 => ("MonitorDesk", "stepCount", "I", false)
  | 10 => ("MonitorDesk", "openCount", "I", false)
  | 11 => ("MonitorDesk", "latestOpen", "I", false)
  | 12 => ("MonitorDesk", "results", "[I", true)
  | 13 => ("MonitorDesk", "latestFailure", "I", false)
  | 14 => ("MonitorDesk", "held", "[I", true)
  | 15 => ("MonitorDesk", "raised", "I", false)
  | _ => ("MonitorDesk", "resumeAt", "I", false)
def tyX0 : Nat → FieldType := fun k => match k with
  | 0 => .array .int
  | 1 => .int
  | 2 => .array .boolean
  | 3 => .int
  | 4 => .boolean
  | 5 => .array .int
  | 6 => .array .int
  | 7 => .array .int
  | 8 => .array .int
  | 9 => .int
  | 10 => .int
  | 11 => .int
  | 12 => .array .int
  | 13 => .int
  | 14 => .array .int
  | 15 => .int
  | _ => .int
abbrev wsX00 : List Cond := u_ws RX0 TX0 17
theorem nmX0 : ∀ a, a < 17 → ∀ b, b < 17 → a ≠ b → (TX0 a).2.1 ≠ (TX0 b).2.1 := by decide +kernel
theorem tyX0_ok : ∀ k, k < 17 → parseFieldDescriptor (TX0 k).2.2.1 = some (tyX0 k) := by decide +kernel
abbrev cX0_init : ByteArray := prog_1_method_1_code
def yX0_init : MethodName := ⟨RX0, "<init>", "()V"⟩
abbrev cX0_hold : ByteArray := prog_1_method_2_code
def yX0_hold : MethodName := ⟨RX0, "hold", "(II)I"⟩
abbrev cX0_step : ByteArray := prog_1_method_3_code
def yX0_step : MethodName := ⟨RX0, "step", "(II)I"⟩
abbrev cX0_clear : ByteArray := prog_1_method_4_code
def yX0_clear : MethodName := ⟨RX0, "clear", "()I"⟩
abbrev cX0_run : ByteArray := prog_1_method_5_code
def yX0_run : MethodName := ⟨RX0, "run", "()I"⟩
abbrev cX0_result : ByteArray := prog_1_method_6_code
def yX0_result : MethodName := ⟨RX0, "result", "(I)I"⟩
abbrev cX0_failure : ByteArray := prog_1_method_7_code
def yX0_failure : MethodName := ⟨RX0, "failure", "()I"⟩
abbrev cX0_state : ByteArray := prog_1_method_8_code
def yX0_state : MethodName := ⟨RX0, "state", "(I)I"⟩
abbrev cX0_handleState : ByteArray := prog_1_method_9_code
def yX0_handleState : MethodName := ⟨RX0, "handleState", "(I)I"⟩
abbrev cX0_countEnded : ByteArray := prog_1_method_10_code
def yX0_countEnded : MethodName := ⟨RX0, "countEnded", "()I"⟩
abbrev cX0_opensBlock : ByteArray := prog_1_method_11_code
def yX0_opensBlock : MethodName := ⟨RX0, "opensBlock", "(I)Z"⟩
abbrev cX0_asNumber : ByteArray := prog_1_method_12_code
def yX0_asNumber : MethodName := ⟨RX0, "asNumber", "(Z)I"⟩
abbrev cX0_leastHandle : ByteArray := prog_1_method_13_code
def yX0_leastHandle : MethodName := ⟨RX0, "leastHandle", "(I)I"⟩
abbrev cX0_doStep : ByteArray := prog_1_method_14_code
def yX0_doStep : MethodName := ⟨RX0, "doStep", "(I)V"⟩
abbrev cX0_perform : ByteArray := prog_1_method_15_code
def yX0_perform : MethodName := ⟨RX0, "perform", "(I)I"⟩
abbrev cX0_raise : ByteArray := prog_1_method_16_code
def yX0_raise : MethodName := ⟨RX0, "raise", "(I)I"⟩
abbrev cX0_leaveBlocks : ByteArray := prog_1_method_17_code
def yX0_leaveBlocks : MethodName := ⟨RX0, "leaveBlocks", "(I)V"⟩
abbrev cX0_endBlock : ByteArray := prog_1_method_18_code
def yX0_endBlock : MethodName := ⟨RX0, "endBlock", "(I)I"⟩
abbrev cX0_isEnter : ByteArray := prog_1_method_19_code
def yX0_isEnter : MethodName := ⟨RX0, "isEnter", "(I)Z"⟩
abbrev cX0_giveBack : ByteArray := prog_1_method_20_code
def yX0_giveBack : MethodName := ⟨RX0, "giveBack", "(I)I"⟩
abbrev cX0_enter : ByteArray := prog_1_method_21_code
def yX0_enter : MethodName := ⟨RX0, "enter", "(I)I"⟩
abbrev cX0_notifyWaiting : ByteArray := prog_1_method_22_code
def yX0_notifyWaiting : MethodName := ⟨RX0, "notifyWaiting", "(I)I"⟩
abbrev cX0_holdsLock : ByteArray := prog_1_method_23_code
def yX0_holdsLock : MethodName := ⟨RX0, "holdsLock", "(I)I"⟩
abbrev cX0_awaitNotice : ByteArray := prog_1_method_24_code
def yX0_awaitNotice : MethodName := ⟨RX0, "awaitNotice", "(I)I"⟩
abbrev cX0_sleep : ByteArray := prog_1_method_25_code
def yX0_sleep : MethodName := ⟨RX0, "sleep", "(I)I"⟩
abbrev cX0_takeFlag : ByteArray := prog_1_method_26_code
def yX0_takeFlag : MethodName := ⟨RX0, "takeFlag", "()Z"⟩
abbrev cX0_start : ByteArray := prog_1_method_27_code
def yX0_start : MethodName := ⟨RX0, "start", "(I)I"⟩
def RX1 : String := "MonitorDeskModel"
def TX1 : u_T := fun k => match k with
  | _ => ("", "", "", false)
def tyX1 : Nat → FieldType := fun k => match k with
  | _ => .int
abbrev wsX10 : List Cond := u_ws RX1 TX1 0
theorem nmX1 : ∀ a, a < 0 → ∀ b, b < 0 → a ≠ b → (TX1 a).2.1 ≠ (TX1 b).2.1 := by decide +kernel
theorem tyX1_ok : ∀ k, k < 0 → parseFieldDescriptor (TX1 k).2.2.1 = some (tyX1 k) := by decide +kernel
def RJ9 : String := "java/lang/Math"
def TJ9 : u_T := fun k => match k with
  | _ => ("", "", "", false)
def tyJ9 : Nat → FieldType := fun k => match k with
  | _ => .int
abbrev wsJ90 : List Cond := u_ws RJ9 TJ9 0
theorem nmJ9 : ∀ a, a < 0 → ∀ b, b < 0 → a ≠ b → (TJ9 a).2.1 ≠ (TJ9 b).2.1 := by decide +kernel
theorem tyJ9_ok : ∀ k, k < 0 → parseFieldDescriptor (TJ9 k).2.2.1 = some (tyJ9 k) := by decide +kernel
abbrev cJ9_floorMod_7cf53 : ByteArray := prog_4_method_50_code
def yJ9_floorMod_7cf53 : MethodName := ⟨RJ9, "floorMod", "(II)I"⟩
abbrev cJ9_abs_0f7a4 : ByteArray := prog_4_method_59_code
def yJ9_abs_0f7a4 : MethodName := ⟨RJ9, "abs", "(I)I"⟩
def RJ7 : String := "java/util/Arrays"
def TJ7 : u_T := fun k => match k with
  | _ => ("", "", "", false)
def tyJ7 : Nat → FieldType := fun k => match k with
  | _ => .int
abbrev wsJ70 : List Cond := u_ws RJ7 TJ7 0
theorem nmJ7 : ∀ a, a < 0 → ∀ b, b < 0 → a ≠ b → (TJ7 a).2.1 ≠ (TJ7 b).2.1 := by decide +kernel
theorem tyJ7_ok : ∀ k, k < 0 → parseFieldDescriptor (TJ7 k).2.2.1 = some (tyJ7 k) := by decide +kernel
abbrev cJ7_fill_53178 : ByteArray := prog_5_method_103_code
def yJ7_fill_53178 : MethodName := ⟨RJ7, "fill", "([II)V"⟩
def RL : String := "MonitorDeskLaw"
abbrev cL_type : ByteArray := method_2_code
def yL_type : MethodName := ⟨RL, "type", "(LMonitorDesk;[III)V"⟩
abbrev cL_free : ByteArray := method_3_code
def yL_free : MethodName := ⟨RL, "free", "(LMonitorDesk;I)Z"⟩
abbrev cL_law : ByteArray := code
def yL_law : MethodName := ⟨RL, "law", "([I)Z"⟩
def wsJ7_fill_53178 : List Cond := .code yJ7_fill_53178 cJ7_fill_53178 4 none :: ([])
def wsX0_init_r1 : List Cond := [Cond.methodLink RX0 1 objectInit, Cond.instanceMethod objectInit, Cond.code objectInit ⟨#[0xb1]⟩ 1 none, Cond.arrayClass .int, Cond.fieldLink RX0 9 "MonitorDesk" "locks" "[I", Cond.fieldLink RX0 13 "MonitorDesk" "locksMade" "I", Cond.arrayClass .boolean, Cond.fieldLink RX0 17 "MonitorDesk" "ended" "[Z", Cond.fieldLink RX0 21 "MonitorDesk" "total" "I", Cond.fieldLink RX0 24 "MonitorDesk" "flag" "Z", Cond.fieldLink RX0 28 "MonitorDesk" "operations" "[I", Cond.fieldLink RX0 31 "MonitorDesk" "arguments" "[I", Cond.fieldLink RX0 34 "MonitorDesk" "around" "[I", Cond.fieldLink RX0 37 "MonitorDesk" "ends" "[I", Cond.fieldLink RX0 40 "MonitorDesk" "stepCount" "I", Cond.fieldLink RX0 43 "MonitorDesk" "openCount" "I", Cond.fieldLink RX0 46 "MonitorDesk" "latestOpen" "I", Cond.fieldLink RX0 49 "MonitorDesk" "results" "[I", Cond.fieldLink RX0 52 "MonitorDesk" "latestFailure" "I", Cond.fieldLink RX0 55 "MonitorDesk" "held" "[I", Cond.fieldLink RX0 58 "MonitorDesk" "raised" "I", Cond.fieldLink RX0 61 "MonitorDesk" "resumeAt" "I", Cond.methodLink RX0 64 yJ7_fill_53178, Cond.static yJ7_fill_53178]
def wsX0_init_r2 : List Cond := [Cond.initialized RJ7, Cond.code yJ7_fill_53178 cJ7_fill_53178 4 none]
def wsX0_init : List Cond := .code yX0_init cX0_init 1 none :: ((wsX0_init_r1 ++ wsX0_init_r2) ++ wsX00)
def wsX0_hold : List Cond := .code yX0_hold cX0_hold 3 (some .int) :: ([.fieldLink RX0 13 "MonitorDesk" "locksMade" "I", .fieldLink RX0 9 "MonitorDesk" "locks" "[I"] ++ wsX00)
def wsX0_opensBlock : List Cond := .code yX0_opensBlock cX0_opensBlock 1 (some .boolean) :: ([])
def wsX0_step : List Cond := .code yX0_step cX0_step 3 (some .int) :: ([.fieldLink RX0 40 "MonitorDesk" "stepCount" "I", .fieldLink RX0 46 "MonitorDesk" "latestOpen" "I", .fieldLink RX0 43 "MonitorDesk" "openCount" "I", .fieldLink RX0 28 "MonitorDesk" "operations" "[I", .fieldLink RX0 31 "MonitorDesk" "arguments" "[I", .fieldLink RX0 34 "MonitorDesk" "around" "[I", .fieldLink RX0 37 "MonitorDesk" "ends" "[I", .methodLink RX0 70 yX0_opensBlock, .static yX0_opensBlock, .initialized RX0, .code yX0_opensBlock cX0_opensBlock 1 (some .boolean)] ++ wsX00)
def wsX0_clear : List Cond := .code yX0_clear cX0_clear 2 (some .int) :: ([.fieldLink RX0 40 "MonitorDesk" "stepCount" "I", .fieldLink RX0 43 "MonitorDesk" "openCount" "I", .fieldLink RX0 46 "MonitorDesk" "latestOpen" "I"] ++ wsX00)
def wsJ9_floorMod_7cf53 : List Cond := .code yJ9_floorMod_7cf53 cJ9_floorMod_7cf53 3 (some .int) :: ([])
def wsX0_isEnter : List Cond := .code yX0_isEnter cX0_isEnter 2 (some .boolean) :: ([.fieldLink RX0 28 "MonitorDesk" "operations" "[I"] ++ wsX00)
def wsX0_leastHandle : List Cond := .code yX0_leastHandle cX0_leastHandle 3 (some .int) :: ([.fieldLink RX0 9 "MonitorDesk" "locks" "[I"] ++ wsX00)
def wsX0_giveBack : List Cond := .code yX0_giveBack cX0_giveBack 3 (some .int) :: ([.fieldLink RX0 31 "MonitorDesk" "arguments" "[I", .fieldLink RX0 55 "MonitorDesk" "held" "[I", .methodLink RX0 99 yJ9_floorMod_7cf53, .static yJ9_floorMod_7cf53, .initialized RJ9, .code yJ9_floorMod_7cf53 cJ9_floorMod_7cf53 3 (some .int), .methodLink RX0 90 yX0_leastHandle, .instanceMethod yX0_leastHandle, .selects RX0 yX0_leastHandle yX0_leastHandle, .initialized RX0, .code yX0_leastHandle cX0_leastHandle 3 (some .int), .fieldLink RX0 9 "MonitorDesk" "locks" "[I"] ++ wsX00)
def wsX0_endBlock : List Cond := .code yX0_endBlock cX0_endBlock 2 (some .int) :: ([.methodLink RX0 133 yX0_isEnter, .instanceMethod yX0_isEnter, .selects RX0 yX0_isEnter yX0_isEnter, .initialized RX0, .code yX0_isEnter cX0_isEnter 2 (some .boolean), .fieldLink RX0 28 "MonitorDesk" "operations" "[I", .methodLink RX0 136 yX0_giveBack, .instanceMethod yX0_giveBack, .selects RX0 yX0_giveBack yX0_giveBack, .code yX0_giveBack cX0_giveBack 3 (some .int), .fieldLink RX0 31 "MonitorDesk" "arguments" "[I", .fieldLink RX0 55 "MonitorDesk" "held" "[I", .methodLink RX0 99 yJ9_floorMod_7cf53, .static yJ9_floorMod_7cf53, .initialized RJ9, .code yJ9_floorMod_7cf53 cJ9_floorMod_7cf53 3 (some .int), .methodLink RX0 90 yX0_leastHandle, .instanceMethod yX0_leastHandle, .selects RX0 yX0_leastHandle yX0_leastHandle, .code yX0_leastHandle cX0_leastHandle 3 (some .int), .fieldLink RX0 9 "MonitorDesk" "locks" "[I"] ++ wsX00)
def wsX0_raise : List Cond := .code yX0_raise cX0_raise 2 (some .int) :: ([.fieldLink RX0 58 "MonitorDesk" "raised" "I"] ++ wsX00)
def wsX0_enter : List Cond := .code yX0_enter cX0_enter 3 (some .int) :: ([.fieldLink RX0 9 "MonitorDesk" "locks" "[I", .fieldLink RX0 55 "MonitorDesk" "held" "[I", .methodLink RX0 127 yX0_raise, .instanceMethod yX0_raise, .selects RX0 yX0_raise yX0_raise, .initialized RX0, .code yX0_raise cX0_raise 2 (some .int), .fieldLink RX0 58 "MonitorDesk" "raised" "I", .methodLink RX0 90 yX0_leastHandle, .instanceMethod yX0_leastHandle, .selects RX0 yX0_leastHandle yX0_leastHandle, .code yX0_leastHandle cX0_leastHandle 3 (some .int)] ++ wsX00)
def wsX0_notifyWaiting : List Cond := .code yX0_notifyWaiting cX0_notifyWaiting 2 (some .int) :: ([.fieldLink RX0 9 "MonitorDesk" "locks" "[I", .fieldLink RX0 55 "MonitorDesk" "held" "[I", .methodLink RX0 127 yX0_raise, .instanceMethod yX0_raise, .selects RX0 yX0_raise yX0_raise, .initialized RX0, .code yX0_raise cX0_raise 2 (some .int), .fieldLink RX0 58 "MonitorDesk" "raised" "I", .methodLink RX0 90 yX0_leastHandle, .instanceMethod yX0_leastHandle, .selects RX0 yX0_leastHandle yX0_leastHandle, .code yX0_leastHandle cX0_leastHandle 3 (some .int)] ++ wsX00)
def wsX0_asNumber : List Cond := .code yX0_asNumber cX0_asNumber 1 (some .int) :: ([])
def wsX0_holdsLock : List Cond := .code yX0_holdsLock cX0_holdsLock 2 (some .int) :: ([.fieldLink RX0 9 "MonitorDesk" "locks" "[I", .fieldLink RX0 55 "MonitorDesk" "held" "[I", .methodLink RX0 127 yX0_raise, .instanceMethod yX0_raise, .selects RX0 yX0_raise yX0_raise, .initialized RX0, .code yX0_raise cX0_raise 2 (some .int), .fieldLink RX0 58 "MonitorDesk" "raised" "I", .methodLink RX0 90 yX0_leastHandle, .instanceMethod yX0_leastHandle, .selects RX0 yX0_leastHandle yX0_leastHandle, .code yX0_leastHandle cX0_leastHandle 3 (some .int), .methodLink RX0 78 yX0_asNumber, .static yX0_asNumber, .code yX0_asNumber cX0_asNumber 1 (some .int)] ++ wsX00)
def wsX0_takeFlag : List Cond := .code yX0_takeFlag cX0_takeFlag 2 (some .boolean) :: ([.fieldLink RX0 24 "MonitorDesk" "flag" "Z"] ++ wsX00)
def wsX0_awaitNotice : List Cond := .code yX0_awaitNotice cX0_awaitNotice 3 (some .int) :: ([.constant RX0 141 (-2147483648), .methodLink RX0 142 Lib.Math.abs.name, .static Lib.Math.abs.name, .initialized "java/lang/Math", .code Lib.Math.abs.name Lib.Math.abs.code 1 (some .int), .fieldLink RX0 9 "MonitorDesk" "locks" "[I", .fieldLink RX0 55 "MonitorDesk" "held" "[I", .methodLink RX0 127 yX0_raise, .instanceMethod yX0_raise, .selects RX0 yX0_raise yX0_raise, .initialized RX0, .code yX0_raise cX0_raise 2 (some .int), .fieldLink RX0 58 "MonitorDesk" "raised" "I", .methodLink RX0 90 yX0_leastHandle, .instanceMethod yX0_leastHandle, .selects RX0 yX0_leastHandle yX0_leastHandle, .code yX0_leastHandle cX0_leastHandle 3 (some .int), .methodLink RX0 120 yX0_takeFlag, .instanceMethod yX0_takeFlag, .selects RX0 yX0_takeFlag yX0_takeFlag, .code yX0_takeFlag cX0_takeFlag 2 (some .boolean), .fieldLink RX0 24 "MonitorDesk" "flag" "Z"] ++ wsX00)
def wsX0_sleep : List Cond := .code yX0_sleep cX0_sleep 2 (some .int) :: ([.methodLink RX0 127 yX0_raise, .instanceMethod yX0_raise, .selects RX0 yX0_raise yX0_raise, .initialized RX0, .code yX0_raise cX0_raise 2 (some .int), .fieldLink RX0 58 "MonitorDesk" "raised" "I", .methodLink RX0 120 yX0_takeFlag, .instanceMethod yX0_takeFlag, .selects RX0 yX0_takeFlag yX0_takeFlag, .code yX0_takeFlag cX0_takeFlag 2 (some .boolean), .fieldLink RX0 24 "MonitorDesk" "flag" "Z"] ++ wsX00)
def wsX0_start : List Cond := .code yX0_start cX0_start 2 (some .int) :: ([.fieldLink RX0 17 "MonitorDesk" "ended" "[Z", .fieldLink RX0 21 "MonitorDesk" "total" "I", .methodLink RX0 127 yX0_raise, .instanceMethod yX0_raise, .selects RX0 yX0_raise yX0_raise, .initialized RX0, .code yX0_raise cX0_raise 2 (some .int), .fieldLink RX0 58 "MonitorDesk" "raised" "I"] ++ wsX00)
def wsX0_perform_r1 : List Cond := [Cond.fieldLink RX0 31 "MonitorDesk" "arguments" "[I", Cond.fieldLink RX0 28 "MonitorDesk" "operations" "[I", Cond.fieldLink RX0 34 "MonitorDesk" "around" "[I", Cond.fieldLink RX0 24 "MonitorDesk" "flag" "Z", Cond.fieldLink RX0 17 "MonitorDesk" "ended" "[Z", Cond.fieldLink RX0 21 "MonitorDesk" "total" "I", Cond.methodLink RX0 99 yJ9_floorMod_7cf53, Cond.static yJ9_floorMod_7cf53, Cond.initialized RJ9, Cond.code yJ9_floorMod_7cf53 cJ9_floorMod_7cf53 3 (some .int), Cond.methodLink RX0 105 yX0_endBlock, Cond.instanceMethod yX0_endBlock, Cond.selects RX0 yX0_endBlock yX0_endBlock, Cond.initialized RX0, Cond.code yX0_endBlock cX0_endBlock 2 (some .int), Cond.methodLink RX0 133 yX0_isEnter, Cond.instanceMethod yX0_isEnter, Cond.selects RX0 yX0_isEnter yX0_isEnter, Cond.code yX0_isEnter cX0_isEnter 2 (some .boolean), Cond.methodLink RX0 136 yX0_giveBack, Cond.instanceMethod yX0_giveBack, Cond.selects RX0 yX0_giveBack yX0_giveBack, Cond.code yX0_giveBack cX0_giveBack 3 (some .int), Cond.fieldLink RX0 55 "MonitorDesk" "held" "[I"]
def wsX0_perform_r2 : List Cond := [Cond.methodLink RX0 90 yX0_leastHandle, Cond.instanceMethod yX0_leastHandle, Cond.selects RX0 yX0_leastHandle yX0_leastHandle, Cond.code yX0_leastHandle cX0_leastHandle 3 (some .int), Cond.fieldLink RX0 9 "MonitorDesk" "locks" "[I", Cond.methodLink RX0 108 yX0_enter, Cond.instanceMethod yX0_enter, Cond.selects RX0 yX0_enter yX0_enter, Cond.code yX0_enter cX0_enter 3 (some .int), Cond.methodLink RX0 127 yX0_raise, Cond.instanceMethod yX0_raise, Cond.selects RX0 yX0_raise yX0_raise, Cond.code yX0_raise cX0_raise 2 (some .int), Cond.fieldLink RX0 58 "MonitorDesk" "raised" "I", Cond.methodLink RX0 111 yX0_notifyWaiting, Cond.instanceMethod yX0_notifyWaiting, Cond.selects RX0 yX0_notifyWaiting yX0_notifyWaiting, Cond.code yX0_notifyWaiting cX0_notifyWaiting 2 (some .int), Cond.methodLink RX0 114 yX0_holdsLock, Cond.instanceMethod yX0_holdsLock, Cond.selects RX0 yX0_holdsLock yX0_holdsLock, Cond.code yX0_holdsLock cX0_holdsLock 2 (some .int), Cond.methodLink RX0 78 yX0_asNumber, Cond.static yX0_asNumber]
def wsX0_perform_r3 : List Cond := [Cond.code yX0_asNumber cX0_asNumber 1 (some .int), Cond.methodLink RX0 117 yX0_awaitNotice, Cond.instanceMethod yX0_awaitNotice, Cond.selects RX0 yX0_awaitNotice yX0_awaitNotice, Cond.code yX0_awaitNotice cX0_awaitNotice 3 (some .int), Cond.constant RX0 141 (-2147483648), Cond.methodLink RX0 142 Lib.Math.abs.name, Cond.static Lib.Math.abs.name, Cond.initialized "java/lang/Math", Cond.code Lib.Math.abs.name Lib.Math.abs.code 1 (some .int), Cond.methodLink RX0 120 yX0_takeFlag, Cond.instanceMethod yX0_takeFlag, Cond.selects RX0 yX0_takeFlag yX0_takeFlag, Cond.code yX0_takeFlag cX0_takeFlag 2 (some .boolean), Cond.methodLink RX0 124 yX0_sleep, Cond.instanceMethod yX0_sleep, Cond.selects RX0 yX0_sleep yX0_sleep, Cond.code yX0_sleep cX0_sleep 2 (some .int), Cond.methodLink RX0 130 yX0_start, Cond.instanceMethod yX0_start, Cond.selects RX0 yX0_start yX0_start, Cond.code yX0_start cX0_start 2 (some .int)]
def wsX0_perform : List Cond := .code yX0_perform cX0_perform 5 (some .int) :: ((wsX0_perform_r1 ++ (wsX0_perform_r2 ++ wsX0_perform_r3)) ++ wsX00)
def wsX0_leaveBlocks_r1 : List Cond := [Cond.fieldLink RX0 34 "MonitorDesk" "around" "[I", Cond.fieldLink RX0 58 "MonitorDesk" "raised" "I", Cond.fieldLink RX0 52 "MonitorDesk" "latestFailure" "I", Cond.fieldLink RX0 40 "MonitorDesk" "stepCount" "I", Cond.fieldLink RX0 61 "MonitorDesk" "resumeAt" "I", Cond.fieldLink RX0 49 "MonitorDesk" "results" "[I", Cond.fieldLink RX0 37 "MonitorDesk" "ends" "[I", Cond.methodLink RX0 133 yX0_isEnter, Cond.instanceMethod yX0_isEnter, Cond.selects RX0 yX0_isEnter yX0_isEnter, Cond.initialized RX0, Cond.code yX0_isEnter cX0_isEnter 2 (some .boolean), Cond.fieldLink RX0 28 "MonitorDesk" "operations" "[I", Cond.methodLink RX0 136 yX0_giveBack, Cond.instanceMethod yX0_giveBack, Cond.selects RX0 yX0_giveBack yX0_giveBack, Cond.code yX0_giveBack cX0_giveBack 3 (some .int), Cond.fieldLink RX0 31 "MonitorDesk" "arguments" "[I", Cond.fieldLink RX0 55 "MonitorDesk" "held" "[I", Cond.methodLink RX0 99 yJ9_floorMod_7cf53, Cond.static yJ9_floorMod_7cf53, Cond.initialized RJ9, Cond.code yJ9_floorMod_7cf53 cJ9_floorMod_7cf53 3 (some .int), Cond.methodLink RX0 90 yX0_leastHandle]
def wsX0_leaveBlocks_r2 : List Cond := [Cond.instanceMethod yX0_leastHandle, Cond.selects RX0 yX0_leastHandle yX0_leastHandle, Cond.code yX0_leastHandle cX0_leastHandle 3 (some .int), Cond.fieldLink RX0 9 "MonitorDesk" "locks" "[I"]
def wsX0_leaveBlocks : List Cond := .code yX0_leaveBlocks cX0_leaveBlocks 4 none :: ((wsX0_leaveBlocks_r1 ++ wsX0_leaveBlocks_r2) ++ wsX00)
def wsX0_doStep_r1 : List Cond := [Cond.fieldLink RX0 58 "MonitorDesk" "raised" "I", Cond.fieldLink RX0 49 "MonitorDesk" "results" "[I", Cond.methodLink RX0 93 yX0_perform, Cond.instanceMethod yX0_perform, Cond.selects RX0 yX0_perform yX0_perform, Cond.initialized RX0, Cond.code yX0_perform cX0_perform 5 (some .int), Cond.fieldLink RX0 31 "MonitorDesk" "arguments" "[I", Cond.fieldLink RX0 28 "MonitorDesk" "operations" "[I", Cond.fieldLink RX0 34 "MonitorDesk" "around" "[I", Cond.fieldLink RX0 24 "MonitorDesk" "flag" "Z", Cond.fieldLink RX0 17 "MonitorDesk" "ended" "[Z", Cond.fieldLink RX0 21 "MonitorDesk" "total" "I", Cond.methodLink RX0 99 yJ9_floorMod_7cf53, Cond.static yJ9_floorMod_7cf53, Cond.initialized RJ9, Cond.code yJ9_floorMod_7cf53 cJ9_floorMod_7cf53 3 (some .int), Cond.methodLink RX0 105 yX0_endBlock, Cond.instanceMethod yX0_endBlock, Cond.selects RX0 yX0_endBlock yX0_endBlock, Cond.code yX0_endBlock cX0_endBlock 2 (some .int), Cond.methodLink RX0 133 yX0_isEnter, Cond.instanceMethod yX0_isEnter, Cond.selects RX0 yX0_isEnter yX0_isEnter]
def wsX0_doStep_r2 : List Cond := [Cond.code yX0_isEnter cX0_isEnter 2 (some .boolean), Cond.methodLink RX0 136 yX0_giveBack, Cond.instanceMethod yX0_giveBack, Cond.selects RX0 yX0_giveBack yX0_giveBack, Cond.code yX0_giveBack cX0_giveBack 3 (some .int), Cond.fieldLink RX0 55 "MonitorDesk" "held" "[I", Cond.methodLink RX0 90 yX0_leastHandle, Cond.instanceMethod yX0_leastHandle, Cond.selects RX0 yX0_leastHandle yX0_leastHandle, Cond.code yX0_leastHandle cX0_leastHandle 3 (some .int), Cond.fieldLink RX0 9 "MonitorDesk" "locks" "[I", Cond.methodLink RX0 108 yX0_enter, Cond.instanceMethod yX0_enter, Cond.selects RX0 yX0_enter yX0_enter, Cond.code yX0_enter cX0_enter 3 (some .int), Cond.methodLink RX0 127 yX0_raise, Cond.instanceMethod yX0_raise, Cond.selects RX0 yX0_raise yX0_raise, Cond.code yX0_raise cX0_raise 2 (some .int), Cond.methodLink RX0 111 yX0_notifyWaiting, Cond.instanceMethod yX0_notifyWaiting, Cond.selects RX0 yX0_notifyWaiting yX0_notifyWaiting, Cond.code yX0_notifyWaiting cX0_notifyWaiting 2 (some .int), Cond.methodLink RX0 114 yX0_holdsLock]
def wsX0_doStep_r3 : List Cond := [Cond.instanceMethod yX0_holdsLock, Cond.selects RX0 yX0_holdsLock yX0_holdsLock, Cond.code yX0_holdsLock cX0_holdsLock 2 (some .int), Cond.methodLink RX0 78 yX0_asNumber, Cond.static yX0_asNumber, Cond.code yX0_asNumber cX0_asNumber 1 (some .int), Cond.methodLink RX0 117 yX0_awaitNotice, Cond.instanceMethod yX0_awaitNotice, Cond.selects RX0 yX0_awaitNotice yX0_awaitNotice, Cond.code yX0_awaitNotice cX0_awaitNotice 3 (some .int), Cond.constant RX0 141 (-2147483648), Cond.methodLink RX0 142 Lib.Math.abs.name, Cond.static Lib.Math.abs.name, Cond.initialized "java/lang/Math", Cond.code Lib.Math.abs.name Lib.Math.abs.code 1 (some .int), Cond.methodLink RX0 120 yX0_takeFlag, Cond.instanceMethod yX0_takeFlag, Cond.selects RX0 yX0_takeFlag yX0_takeFlag, Cond.code yX0_takeFlag cX0_takeFlag 2 (some .boolean), Cond.methodLink RX0 124 yX0_sleep, Cond.instanceMethod yX0_sleep, Cond.selects RX0 yX0_sleep yX0_sleep, Cond.code yX0_sleep cX0_sleep 2 (some .int), Cond.methodLink RX0 130 yX0_start]
def wsX0_doStep_r4 : List Cond := [Cond.instanceMethod yX0_start, Cond.selects RX0 yX0_start yX0_start, Cond.code yX0_start cX0_start 2 (some .int), Cond.methodLink RX0 96 yX0_leaveBlocks, Cond.instanceMethod yX0_leaveBlocks, Cond.selects RX0 yX0_leaveBlocks yX0_leaveBlocks, Cond.code yX0_leaveBlocks cX0_leaveBlocks 4 none, Cond.fieldLink RX0 52 "MonitorDesk" "latestFailure" "I", Cond.fieldLink RX0 40 "MonitorDesk" "stepCount" "I", Cond.fieldLink RX0 61 "MonitorDesk" "resumeAt" "I", Cond.fieldLink RX0 37 "MonitorDesk" "ends" "[I"]
def wsX0_doStep : List Cond := .code yX0_doStep cX0_doStep 3 none :: ((wsX0_doStep_r1 ++ (wsX0_doStep_r2 ++ (wsX0_doStep_r3 ++ wsX0_doStep_r4))) ++ wsX00)
def wsX0_run_r1 : List Cond := [Cond.fieldLink RX0 43 "MonitorDesk" "openCount" "I", Cond.fieldLink RX0 49 "MonitorDesk" "results" "[I", Cond.fieldLink RX0 55 "MonitorDesk" "held" "[I", Cond.fieldLink RX0 52 "MonitorDesk" "latestFailure" "I", Cond.fieldLink RX0 61 "MonitorDesk" "resumeAt" "I", Cond.fieldLink RX0 40 "MonitorDesk" "stepCount" "I", Cond.methodLink RX0 64 yJ7_fill_53178, Cond.static yJ7_fill_53178, Cond.initialized RJ7, Cond.code yJ7_fill_53178 cJ7_fill_53178 4 none, Cond.methodLink RX0 74 yX0_doStep, Cond.instanceMethod yX0_doStep, Cond.selects RX0 yX0_doStep yX0_doStep, Cond.initialized RX0, Cond.code yX0_doStep cX0_doStep 3 none, Cond.fieldLink RX0 58 "MonitorDesk" "raised" "I", Cond.methodLink RX0 93 yX0_perform, Cond.instanceMethod yX0_perform, Cond.selects RX0 yX0_perform yX0_perform, Cond.code yX0_perform cX0_perform 5 (some .int), Cond.fieldLink RX0 31 "MonitorDesk" "arguments" "[I", Cond.fieldLink RX0 28 "MonitorDesk" "operations" "[I", Cond.fieldLink RX0 34 "MonitorDesk" "around" "[I", Cond.fieldLink RX0 24 "MonitorDesk" "flag" "Z"]
def wsX0_run_r2 : List Cond := [Cond.fieldLink RX0 17 "MonitorDesk" "ended" "[Z", Cond.fieldLink RX0 21 "MonitorDesk" "total" "I", Cond.methodLink RX0 99 yJ9_floorMod_7cf53, Cond.static yJ9_floorMod_7cf53, Cond.initialized RJ9, Cond.code yJ9_floorMod_7cf53 cJ9_floorMod_7cf53 3 (some .int), Cond.methodLink RX0 105 yX0_endBlock, Cond.instanceMethod yX0_endBlock, Cond.selects RX0 yX0_endBlock yX0_endBlock, Cond.code yX0_endBlock cX0_endBlock 2 (some .int), Cond.methodLink RX0 133 yX0_isEnter, Cond.instanceMethod yX0_isEnter, Cond.selects RX0 yX0_isEnter yX0_isEnter, Cond.code yX0_isEnter cX0_isEnter 2 (some .boolean), Cond.methodLink RX0 136 yX0_giveBack, Cond.instanceMethod yX0_giveBack, Cond.selects RX0 yX0_giveBack yX0_giveBack, Cond.code yX0_giveBack cX0_giveBack 3 (some .int), Cond.methodLink RX0 90 yX0_leastHandle, Cond.instanceMethod yX0_leastHandle, Cond.selects RX0 yX0_leastHandle yX0_leastHandle, Cond.code yX0_leastHandle cX0_leastHandle 3 (some .int), Cond.fieldLink RX0 9 "MonitorDesk" "locks" "[I", Cond.methodLink RX0 108 yX0_enter]
def wsX0_run_r3 : List Cond := [Cond.instanceMethod yX0_enter, Cond.selects RX0 yX0_enter yX0_enter, Cond.code yX0_enter cX0_enter 3 (some .int), Cond.methodLink RX0 127 yX0_raise, Cond.instanceMethod yX0_raise, Cond.selects RX0 yX0_raise yX0_raise, Cond.code yX0_raise cX0_raise 2 (some .int), Cond.methodLink RX0 111 yX0_notifyWaiting, Cond.instanceMethod yX0_notifyWaiting, Cond.selects RX0 yX0_notifyWaiting yX0_notifyWaiting, Cond.code yX0_notifyWaiting cX0_notifyWaiting 2 (some .int), Cond.methodLink RX0 114 yX0_holdsLock, Cond.instanceMethod yX0_holdsLock, Cond.selects RX0 yX0_holdsLock yX0_holdsLock, Cond.code yX0_holdsLock cX0_holdsLock 2 (some .int), Cond.methodLink RX0 78 yX0_asNumber, Cond.static yX0_asNumber, Cond.code yX0_asNumber cX0_asNumber 1 (some .int), Cond.methodLink RX0 117 yX0_awaitNotice, Cond.instanceMethod yX0_awaitNotice, Cond.selects RX0 yX0_awaitNotice yX0_awaitNotice, Cond.code yX0_awaitNotice cX0_awaitNotice 3 (some .int), Cond.constant RX0 141 (-2147483648), Cond.methodLink RX0 142 Lib.Math.abs.name]
def wsX0_run_r4 : List Cond := [Cond.static Lib.Math.abs.name, Cond.initialized "java/lang/Math", Cond.code Lib.Math.abs.name Lib.Math.abs.code 1 (some .int), Cond.methodLink RX0 120 yX0_takeFlag, Cond.instanceMethod yX0_takeFlag, Cond.selects RX0 yX0_takeFlag yX0_takeFlag, Cond.code yX0_takeFlag cX0_takeFlag 2 (some .boolean), Cond.methodLink RX0 124 yX0_sleep, Cond.instanceMethod yX0_sleep, Cond.selects RX0 yX0_sleep yX0_sleep, Cond.code yX0_sleep cX0_sleep 2 (some .int), Cond.methodLink RX0 130 yX0_start, Cond.instanceMethod yX0_start, Cond.selects RX0 yX0_start yX0_start, Cond.code yX0_start cX0_start 2 (some .int), Cond.methodLink RX0 96 yX0_leaveBlocks, Cond.instanceMethod yX0_leaveBlocks, Cond.selects RX0 yX0_leaveBlocks yX0_leaveBlocks, Cond.code yX0_leaveBlocks cX0_leaveBlocks 4 none, Cond.fieldLink RX0 37 "MonitorDesk" "ends" "[I"]
def wsX0_run : List Cond := .code yX0_run cX0_run 3 (some .int) :: ((wsX0_run_r1 ++ (wsX0_run_r2 ++ (wsX0_run_r3 ++ wsX0_run_r4))) ++ wsX00)
def wsX0_result : List Cond := .code yX0_result cX0_result 2 (some .int) :: ([.fieldLink RX0 49 "MonitorDesk" "results" "[I"] ++ wsX00)
def wsX0_failure : List Cond := .code yX0_failure cX0_failure 1 (some .int) :: ([.fieldLink RX0 52 "MonitorDesk" "latestFailure" "I"] ++ wsX00)
def wsX0_countEnded : List Cond := .code yX0_countEnded cX0_countEnded 3 (some .int) :: ([.fieldLink RX0 17 "MonitorDesk" "ended" "[Z", .methodLink RX0 78 yX0_asNumber, .static yX0_asNumber, .initialized RX0, .code yX0_asNumber cX0_asNumber 1 (some .int)] ++ wsX00)
def wsX0_handleState : List Cond := .code yX0_handleState cX0_handleState 3 (some .int) :: ([.fieldLink RX0 9 "MonitorDesk" "locks" "[I", .methodLink RX0 90 yX0_leastHandle, .instanceMethod yX0_leastHandle, .selects RX0 yX0_leastHandle yX0_leastHandle, .initialized RX0, .code yX0_leastHandle cX0_leastHandle 3 (some .int)] ++ wsX00)
def wsX0_state : List Cond := .code yX0_state cX0_state 2 (some .int) :: ([.fieldLink RX0 40 "MonitorDesk" "stepCount" "I", .fieldLink RX0 43 "MonitorDesk" "openCount" "I", .fieldLink RX0 21 "MonitorDesk" "total" "I", .fieldLink RX0 24 "MonitorDesk" "flag" "Z", .methodLink RX0 78 yX0_asNumber, .static yX0_asNumber, .initialized RX0, .code yX0_asNumber cX0_asNumber 1 (some .int), .methodLink RX0 82 yX0_countEnded, .instanceMethod yX0_countEnded, .selects RX0 yX0_countEnded yX0_countEnded, .code yX0_countEnded cX0_countEnded 3 (some .int), .fieldLink RX0 17 "MonitorDesk" "ended" "[Z", .methodLink RX0 86 yX0_handleState, .instanceMethod yX0_handleState, .selects RX0 yX0_handleState yX0_handleState, .code yX0_handleState cX0_handleState 3 (some .int), .fieldLink RX0 9 "MonitorDesk" "locks" "[I", .methodLink RX0 90 yX0_leastHandle, .instanceMethod yX0_leastHandle, .selects RX0 yX0_leastHandle yX0_leastHandle, .code yX0_leastHandle cX0_leastHandle 3 (some .int)] ++ wsX00)
def wsJ9_abs_0f7a4 : List Cond := .code yJ9_abs_0f7a4 cJ9_abs_0f7a4 1 (some .int) :: ([])
def wsL_type_r1 : List Cond := [Cond.methodLink RL 7 yX0_state, Cond.instanceMethod yX0_state, Cond.selects RX0 yX0_state yX0_state, Cond.initialized RX0, Cond.code yX0_state cX0_state 2 (some .int), Cond.fieldLink RX0 40 "MonitorDesk" "stepCount" "I", Cond.fieldLink RX0 43 "MonitorDesk" "openCount" "I", Cond.fieldLink RX0 21 "MonitorDesk" "total" "I", Cond.fieldLink RX0 24 "MonitorDesk" "flag" "Z", Cond.methodLink RX0 78 yX0_asNumber, Cond.static yX0_asNumber, Cond.code yX0_asNumber cX0_asNumber 1 (some .int), Cond.methodLink RX0 82 yX0_countEnded, Cond.instanceMethod yX0_countEnded, Cond.selects RX0 yX0_countEnded yX0_countEnded, Cond.code yX0_countEnded cX0_countEnded 3 (some .int), Cond.fieldLink RX0 17 "MonitorDesk" "ended" "[Z", Cond.methodLink RX0 86 yX0_handleState, Cond.instanceMethod yX0_handleState, Cond.selects RX0 yX0_handleState yX0_handleState, Cond.code yX0_handleState cX0_handleState 3 (some .int), Cond.fieldLink RX0 9 "MonitorDesk" "locks" "[I", Cond.methodLink RX0 90 yX0_leastHandle, Cond.instanceMethod yX0_leastHandle]
def wsL_type_r2 : List Cond := [Cond.selects RX0 yX0_leastHandle yX0_leastHandle, Cond.code yX0_leastHandle cX0_leastHandle 3 (some .int), Cond.methodLink RL 13 yX0_step, Cond.instanceMethod yX0_step, Cond.selects RX0 yX0_step yX0_step, Cond.code yX0_step cX0_step 3 (some .int), Cond.fieldLink RX0 46 "MonitorDesk" "latestOpen" "I", Cond.fieldLink RX0 28 "MonitorDesk" "operations" "[I", Cond.fieldLink RX0 31 "MonitorDesk" "arguments" "[I", Cond.fieldLink RX0 34 "MonitorDesk" "around" "[I", Cond.fieldLink RX0 37 "MonitorDesk" "ends" "[I", Cond.methodLink RX0 70 yX0_opensBlock, Cond.static yX0_opensBlock, Cond.code yX0_opensBlock cX0_opensBlock 1 (some .boolean)]
def wsL_type : List Cond := .code yL_type cL_type 8 none :: ((wsL_type_r1 ++ wsL_type_r2) ++ wsX00)
def wsL_free_r1 : List Cond := [Cond.methodLink RL 17 yX0_clear, Cond.instanceMethod yX0_clear, Cond.selects RX0 yX0_clear yX0_clear, Cond.initialized RX0, Cond.code yX0_clear cX0_clear 2 (some .int), Cond.fieldLink RX0 40 "MonitorDesk" "stepCount" "I", Cond.fieldLink RX0 43 "MonitorDesk" "openCount" "I", Cond.fieldLink RX0 46 "MonitorDesk" "latestOpen" "I", Cond.methodLink RL 13 yX0_step, Cond.instanceMethod yX0_step, Cond.selects RX0 yX0_step yX0_step, Cond.code yX0_step cX0_step 3 (some .int), Cond.fieldLink RX0 28 "MonitorDesk" "operations" "[I", Cond.fieldLink RX0 31 "MonitorDesk" "arguments" "[I", Cond.fieldLink RX0 34 "MonitorDesk" "around" "[I", Cond.fieldLink RX0 37 "MonitorDesk" "ends" "[I", Cond.methodLink RX0 70 yX0_opensBlock, Cond.static yX0_opensBlock, Cond.code yX0_opensBlock cX0_opensBlock 1 (some .boolean), Cond.methodLink RL 21 yX0_run, Cond.instanceMethod yX0_run, Cond.selects RX0 yX0_run yX0_run, Cond.code yX0_run cX0_run 3 (some .int), Cond.fieldLink RX0 49 "MonitorDesk" "results" "[I"]
def wsL_free_r2 : List Cond := [Cond.fieldLink RX0 55 "MonitorDesk" "held" "[I", Cond.fieldLink RX0 52 "MonitorDesk" "latestFailure" "I", Cond.fieldLink RX0 61 "MonitorDesk" "resumeAt" "I", Cond.methodLink RX0 64 yJ7_fill_53178, Cond.static yJ7_fill_53178, Cond.initialized RJ7, Cond.code yJ7_fill_53178 cJ7_fill_53178 4 none, Cond.methodLink RX0 74 yX0_doStep, Cond.instanceMethod yX0_doStep, Cond.selects RX0 yX0_doStep yX0_doStep, Cond.code yX0_doStep cX0_doStep 3 none, Cond.fieldLink RX0 58 "MonitorDesk" "raised" "I", Cond.methodLink RX0 93 yX0_perform, Cond.instanceMethod yX0_perform, Cond.selects RX0 yX0_perform yX0_perform, Cond.code yX0_perform cX0_perform 5 (some .int), Cond.fieldLink RX0 24 "MonitorDesk" "flag" "Z", Cond.fieldLink RX0 17 "MonitorDesk" "ended" "[Z", Cond.fieldLink RX0 21 "MonitorDesk" "total" "I", Cond.methodLink RX0 99 yJ9_floorMod_7cf53, Cond.static yJ9_floorMod_7cf53, Cond.initialized RJ9, Cond.code yJ9_floorMod_7cf53 cJ9_floorMod_7cf53 3 (some .int), Cond.methodLink RX0 105 yX0_endBlock]
def wsL_free_r3 : List Cond := [Cond.instanceMethod yX0_endBlock, Cond.selects RX0 yX0_endBlock yX0_endBlock, Cond.code yX0_endBlock cX0_endBlock 2 (some .int), Cond.methodLink RX0 133 yX0_isEnter, Cond.instanceMethod yX0_isEnter, Cond.selects RX0 yX0_isEnter yX0_isEnter, Cond.code yX0_isEnter cX0_isEnter 2 (some .boolean), Cond.methodLink RX0 136 yX0_giveBack, Cond.instanceMethod yX0_giveBack, Cond.selects RX0 yX0_giveBack yX0_giveBack, Cond.code yX0_giveBack cX0_giveBack 3 (some .int), Cond.methodLink RX0 90 yX0_leastHandle, Cond.instanceMethod yX0_leastHandle, Cond.selects RX0 yX0_leastHandle yX0_leastHandle, Cond.code yX0_leastHandle cX0_leastHandle 3 (some .int), Cond.fieldLink RX0 9 "MonitorDesk" "locks" "[I", Cond.methodLink RX0 108 yX0_enter, Cond.instanceMethod yX0_enter, Cond.selects RX0 yX0_enter yX0_enter, Cond.code yX0_enter cX0_enter 3 (some .int), Cond.methodLink RX0 127 yX0_raise, Cond.instanceMethod yX0_raise, Cond.selects RX0 yX0_raise yX0_raise, Cond.code yX0_raise cX0_raise 2 (some .int)]
def wsL_free_r4 : List Cond := [Cond.methodLink RX0 111 yX0_notifyWaiting, Cond.instanceMethod yX0_notifyWaiting, Cond.selects RX0 yX0_notifyWaiting yX0_notifyWaiting, Cond.code yX0_notifyWaiting cX0_notifyWaiting 2 (some .int), Cond.methodLink RX0 114 yX0_holdsLock, Cond.instanceMethod yX0_holdsLock, Cond.selects RX0 yX0_holdsLock yX0_holdsLock, Cond.code yX0_holdsLock cX0_holdsLock 2 (some .int), Cond.methodLink RX0 78 yX0_asNumber, Cond.static yX0_asNumber, Cond.code yX0_asNumber cX0_asNumber 1 (some .int), Cond.methodLink RX0 117 yX0_awaitNotice, Cond.instanceMethod yX0_awaitNotice, Cond.selects RX0 yX0_awaitNotice yX0_awaitNotice, Cond.code yX0_awaitNotice cX0_awaitNotice 3 (some .int), Cond.constant RX0 141 (-2147483648), Cond.methodLink RX0 142 Lib.Math.abs.name, Cond.static Lib.Math.abs.name, Cond.initialized "java/lang/Math", Cond.code Lib.Math.abs.name Lib.Math.abs.code 1 (some .int), Cond.methodLink RX0 120 yX0_takeFlag, Cond.instanceMethod yX0_takeFlag, Cond.selects RX0 yX0_takeFlag yX0_takeFlag, Cond.code yX0_takeFlag cX0_takeFlag 2 (some .boolean)]
def wsL_free_r5 : List Cond := [Cond.methodLink RX0 124 yX0_sleep, Cond.instanceMethod yX0_sleep, Cond.selects RX0 yX0_sleep yX0_sleep, Cond.code yX0_sleep cX0_sleep 2 (some .int), Cond.methodLink RX0 130 yX0_start, Cond.instanceMethod yX0_start, Cond.selects RX0 yX0_start yX0_start, Cond.code yX0_start cX0_start 2 (some .int), Cond.methodLink RX0 96 yX0_leaveBlocks, Cond.instanceMethod yX0_leaveBlocks, Cond.selects RX0 yX0_leaveBlocks yX0_leaveBlocks, Cond.code yX0_leaveBlocks cX0_leaveBlocks 4 none, Cond.methodLink RL 7 yX0_state, Cond.instanceMethod yX0_state, Cond.selects RX0 yX0_state yX0_state, Cond.code yX0_state cX0_state 2 (some .int), Cond.methodLink RX0 82 yX0_countEnded, Cond.instanceMethod yX0_countEnded, Cond.selects RX0 yX0_countEnded yX0_countEnded, Cond.code yX0_countEnded cX0_countEnded 3 (some .int), Cond.methodLink RX0 86 yX0_handleState, Cond.instanceMethod yX0_handleState, Cond.selects RX0 yX0_handleState yX0_handleState, Cond.code yX0_handleState cX0_handleState 3 (some .int)]
def wsL_free_r6 : List Cond := [Cond.methodLink RL 24 yX0_result, Cond.instanceMethod yX0_result, Cond.selects RX0 yX0_result yX0_result, Cond.code yX0_result cX0_result 2 (some .int), Cond.methodLink RL 27 yX0_failure, Cond.instanceMethod yX0_failure, Cond.selects RX0 yX0_failure yX0_failure, Cond.code yX0_failure cX0_failure 1 (some .int)]
def wsL_free : List Cond := .code yL_free cL_free 3 (some .boolean) :: ((wsL_free_r1 ++ (wsL_free_r2 ++ (wsL_free_r3 ++ (wsL_free_r4 ++ (wsL_free_r5 ++ wsL_free_r6))))) ++ wsX00)
def wsL_law_r1 : List Cond := [Cond.classLink RL 8 RX0, Cond.instantiable RX0 17, Cond.initialized RX0, Cond.methodLink RL 30 yX0_init, Cond.instanceMethod yX0_init, Cond.code yX0_init cX0_init 1 none, Cond.methodLink RX0 1 objectInit, Cond.instanceMethod objectInit, Cond.code objectInit ⟨#[0xb1]⟩ 1 none, Cond.arrayClass .int, Cond.fieldLink RX0 9 "MonitorDesk" "locks" "[I", Cond.fieldLink RX0 13 "MonitorDesk" "locksMade" "I", Cond.arrayClass .boolean, Cond.fieldLink RX0 17 "MonitorDesk" "ended" "[Z", Cond.fieldLink RX0 21 "MonitorDesk" "total" "I", Cond.fieldLink RX0 24 "MonitorDesk" "flag" "Z", Cond.fieldLink RX0 28 "MonitorDesk" "operations" "[I", Cond.fieldLink RX0 31 "MonitorDesk" "arguments" "[I", Cond.fieldLink RX0 34 "MonitorDesk" "around" "[I", Cond.fieldLink RX0 37 "MonitorDesk" "ends" "[I", Cond.fieldLink RX0 40 "MonitorDesk" "stepCount" "I", Cond.fieldLink RX0 43 "MonitorDesk" "openCount" "I", Cond.fieldLink RX0 46 "MonitorDesk" "latestOpen" "I", Cond.fieldLink RX0 49 "MonitorDesk" "results" "[I"]
def wsL_law_r2 : List Cond := [Cond.fieldLink RX0 52 "MonitorDesk" "latestFailure" "I", Cond.fieldLink RX0 55 "MonitorDesk" "held" "[I", Cond.fieldLink RX0 58 "MonitorDesk" "raised" "I", Cond.fieldLink RX0 61 "MonitorDesk" "resumeAt" "I", Cond.methodLink RX0 64 yJ7_fill_53178, Cond.static yJ7_fill_53178, Cond.initialized RJ7, Cond.code yJ7_fill_53178 cJ7_fill_53178 4 none, Cond.methodLink RL 31 yX0_hold, Cond.instanceMethod yX0_hold, Cond.selects RX0 yX0_hold yX0_hold, Cond.code yX0_hold cX0_hold 3 (some .int), Cond.methodLink RL 17 yX0_clear, Cond.instanceMethod yX0_clear, Cond.selects RX0 yX0_clear yX0_clear, Cond.code yX0_clear cX0_clear 2 (some .int), Cond.methodLink RL 34 yL_type, Cond.static yL_type, Cond.initialized RL, Cond.code yL_type cL_type 8 none, Cond.methodLink RL 7 yX0_state, Cond.instanceMethod yX0_state, Cond.selects RX0 yX0_state yX0_state, Cond.code yX0_state cX0_state 2 (some .int)]
def wsL_law_r3 : List Cond := [Cond.methodLink RX0 78 yX0_asNumber, Cond.static yX0_asNumber, Cond.code yX0_asNumber cX0_asNumber 1 (some .int), Cond.methodLink RX0 82 yX0_countEnded, Cond.instanceMethod yX0_countEnded, Cond.selects RX0 yX0_countEnded yX0_countEnded, Cond.code yX0_countEnded cX0_countEnded 3 (some .int), Cond.methodLink RX0 86 yX0_handleState, Cond.instanceMethod yX0_handleState, Cond.selects RX0 yX0_handleState yX0_handleState, Cond.code yX0_handleState cX0_handleState 3 (some .int), Cond.methodLink RX0 90 yX0_leastHandle, Cond.instanceMethod yX0_leastHandle, Cond.selects RX0 yX0_leastHandle yX0_leastHandle, Cond.code yX0_leastHandle cX0_leastHandle 3 (some .int), Cond.methodLink RL 13 yX0_step, Cond.instanceMethod yX0_step, Cond.selects RX0 yX0_step yX0_step, Cond.code yX0_step cX0_step 3 (some .int), Cond.methodLink RX0 70 yX0_opensBlock, Cond.static yX0_opensBlock, Cond.code yX0_opensBlock cX0_opensBlock 1 (some .boolean), Cond.methodLink RL 21 yX0_run, Cond.instanceMethod yX0_run]
def wsL_law_r4 : List Cond := [Cond.selects RX0 yX0_run yX0_run, Cond.code yX0_run cX0_run 3 (some .int), Cond.methodLink RX0 74 yX0_doStep, Cond.instanceMethod yX0_doStep, Cond.selects RX0 yX0_doStep yX0_doStep, Cond.code yX0_doStep cX0_doStep 3 none, Cond.methodLink RX0 93 yX0_perform, Cond.instanceMethod yX0_perform, Cond.selects RX0 yX0_perform yX0_perform, Cond.code yX0_perform cX0_perform 5 (some .int), Cond.methodLink RX0 99 yJ9_floorMod_7cf53, Cond.static yJ9_floorMod_7cf53, Cond.initialized RJ9, Cond.code yJ9_floorMod_7cf53 cJ9_floorMod_7cf53 3 (some .int), Cond.methodLink RX0 105 yX0_endBlock, Cond.instanceMethod yX0_endBlock, Cond.selects RX0 yX0_endBlock yX0_endBlock, Cond.code yX0_endBlock cX0_endBlock 2 (some .int), Cond.methodLink RX0 133 yX0_isEnter, Cond.instanceMethod yX0_isEnter, Cond.selects RX0 yX0_isEnter yX0_isEnter, Cond.code yX0_isEnter cX0_isEnter 2 (some .boolean), Cond.methodLink RX0 136 yX0_giveBack, Cond.instanceMethod yX0_giveBack]
def wsL_law_r5 : List Cond := [Cond.selects RX0 yX0_giveBack yX0_giveBack, Cond.code yX0_giveBack cX0_giveBack 3 (some .int), Cond.methodLink RX0 108 yX0_enter, Cond.instanceMethod yX0_enter, Cond.selects RX0 yX0_enter yX0_enter, Cond.code yX0_enter cX0_enter 3 (some .int), Cond.methodLink RX0 127 yX0_raise, Cond.instanceMethod yX0_raise, Cond.selects RX0 yX0_raise yX0_raise, Cond.code yX0_raise cX0_raise 2 (some .int), Cond.methodLink RX0 111 yX0_notifyWaiting, Cond.instanceMethod yX0_notifyWaiting, Cond.selects RX0 yX0_notifyWaiting yX0_notifyWaiting, Cond.code yX0_notifyWaiting cX0_notifyWaiting 2 (some .int), Cond.methodLink RX0 114 yX0_holdsLock, Cond.instanceMethod yX0_holdsLock, Cond.selects RX0 yX0_holdsLock yX0_holdsLock, Cond.code yX0_holdsLock cX0_holdsLock 2 (some .int), Cond.methodLink RX0 117 yX0_awaitNotice, Cond.instanceMethod yX0_awaitNotice, Cond.selects RX0 yX0_awaitNotice yX0_awaitNotice, Cond.code yX0_awaitNotice cX0_awaitNotice 3 (some .int), Cond.constant RX0 141 (-2147483648), Cond.methodLink RX0 142 Lib.Math.abs.name]
def wsL_law_r6 : List Cond := [Cond.static Lib.Math.abs.name, Cond.initialized "java/lang/Math", Cond.code Lib.Math.abs.name Lib.Math.abs.code 1 (some .int), Cond.methodLink RX0 120 yX0_takeFlag, Cond.instanceMethod yX0_takeFlag, Cond.selects RX0 yX0_takeFlag yX0_takeFlag, Cond.code yX0_takeFlag cX0_takeFlag 2 (some .boolean), Cond.methodLink RX0 124 yX0_sleep, Cond.instanceMethod yX0_sleep, Cond.selects RX0 yX0_sleep yX0_sleep, Cond.code yX0_sleep cX0_sleep 2 (some .int), Cond.methodLink RX0 130 yX0_start, Cond.instanceMethod yX0_start, Cond.selects RX0 yX0_start yX0_start, Cond.code yX0_start cX0_start 2 (some .int), Cond.methodLink RX0 96 yX0_leaveBlocks, Cond.instanceMethod yX0_leaveBlocks, Cond.selects RX0 yX0_leaveBlocks yX0_leaveBlocks, Cond.code yX0_leaveBlocks cX0_leaveBlocks 4 none, Cond.methodLink RL 40 yL_free, Cond.static yL_free, Cond.code yL_free cL_free 3 (some .boolean), Cond.methodLink RL 24 yX0_result, Cond.instanceMethod yX0_result]
def wsL_law_r7 : List Cond := [Cond.selects RX0 yX0_result yX0_result, Cond.code yX0_result cX0_result 2 (some .int), Cond.methodLink RL 27 yX0_failure, Cond.instanceMethod yX0_failure, Cond.selects RX0 yX0_failure yX0_failure, Cond.code yX0_failure cX0_failure 1 (some .int)]
def wsL_law : List Cond := (wsL_law_r1 ++ (wsL_law_r2 ++ (wsL_law_r3 ++ (wsL_law_r4 ++ (wsL_law_r5 ++ (wsL_law_r6 ++ wsL_law_r7)))))) ++ wsX00 ++ ([] : List Cond)
set_option maxRecDepth 20000 in
theorem wsL_law_in : ∀ w ∈ wsL_law, w ∈ lw_tbl := fun w h => (goodIn_p wsL_law [25, 28, 31, 89, 93, 170, 174, 143, 178, 182, 124, 186, 189, 97, 101, 105, 108, 112, 116, 120, 128, 132, 136, 140, 147, 151, 155, 159, 163, 167, 192, 196, 200] (by decide +kernel) (by decide +kernel) w h).1
theorem inlX0 : ∀ w ∈ wsX00, w ∈ wsL_law := fun _ h => List.mem_append_left _ (List.mem_append_right _ h)
theorem inX0 : ∀ w ∈ wsX00, w ∈ lw_tbl := fun w h => wsL_law_in w (inlX0 w h)
theorem inX1 : ∀ w ∈ wsX10, w ∈ lw_tbl := by decide +kernel
theorem inJ9 : ∀ w ∈ wsJ90, w ∈ lw_tbl := by decide +kernel
theorem inJ7 : ∀ w ∈ wsJ70, w ∈ lw_tbl := by decide +kernel
set_option maxRecDepth 20000 in
theorem ggX0_init_J7_fill_53178 : GoodIn wsX0_init wsJ7_fill_53178 := goodIn_r _ [26] (by decide +kernel) (by decide +kernel)
set_option maxRecDepth 20000 in
theorem gX0_init_J7_fill_53178 : GoodIn wsX0_init (va_wsS RX0 64 yJ7_fill_53178 wsJ7_fill_53178) := goodIn_app (goodIn_of _ (by decide +kernel)) ggX0_init_J7_fill_53178
theorem dX0_init_0 : decode cX0_init 0 = .ok (.aload_n 0, 1) := by decide +kernel
theorem dX0_init_1 : decode cX0_init 1 = .ok (.invokespecial 1, 3) := by decide +kernel
theorem dX0_init_4 : decode cX0_init 4 = .ok (.aload_n 0, 1) := by decide +kernel
theorem dX0_init_5 : decode cX0_init 5 = .ok (.iconst 5, 1) := by decide +kernel
theorem dX0_init_6 : decode cX0_init 6 = .ok (.newarray .int, 2) := by decide +kernel
theorem dX0_init_8 : decode cX0_init 8 = .ok (.putfield 9, 3) := by decide +kernel
theorem dX0_init_11 : decode cX0_init 11 = .ok (.aload_n 0, 1) := by decide +kernel
theorem dX0_init_12 : decode cX0_init 12 = .ok (.iconst 0, 1) := by decide +kernel
theorem dX0_init_13 : decode cX0_init 13 = .ok (.putfield 13, 3) := by decide +kernel
theorem dX0_init_16 : decode cX0_init 16 = .ok (.aload_n 0, 1) := by decide +kernel
theorem dX0_init_17 : decode cX0_init 17 = .ok (.iconst 4, 1) := by decide +kernel
theorem dX0_init_18 : decode cX0_init 18 = .ok (.newarray .boolean, 2) := by decide +kernel
theorem dX0_init_20 : decode cX0_init 20 = .ok (.putfield 17, 3) := by decide +kernel
theorem dX0_init_23 : decode cX0_init 23 = .ok (.aload_n 0, 1) := by decide +kernel
theorem dX0_init_24 : decode cX0_init 24 = .ok (.iconst 0, 1) := by decide +kernel
theorem dX0_init_25 : decode cX0_init 25 = .ok (.putfield 21, 3) := by decide +kernel
theorem dX0_init_28 : decode cX0_init 28 = .ok (.aload_n 0, 1) := by decide +kernel
theorem dX0_init_29 : decode cX0_init 29 = .ok (.iconst 0, 1) := by decide +kernel
theorem dX0_init_30 : decode cX0_init 30 = .ok (.putfield 24, 3) := by decide +kernel
theorem dX0_init_33 : decode cX0_init 33 = .ok (.aload_n 0, 1) := by decide +kernel
theorem dX0_init_34 : decode cX0_init 34 = .ok (.bipush 24, 2) := by decide +kernel
theorem dX0_init_36 : decode cX0_init 36 = .ok (.newarray .int, 2) := by decide +kernel
theorem dX0_init_38 : decode cX0_init 38 = .ok (.putfield 28, 3) := by decide +kernel
theorem dX0_init_41 : decode cX0_init 41 = .ok (.aload_n 0, 1) := by decide +kernel
theorem dX0_init_42 : decode cX0_init 42 = .ok (.bipush 24, 2) := by decide +kernel
theorem dX0_init_44 : decode cX0_init 44 = .ok (.newarray .int, 2) := by decide +kernel
theorem dX0_init_46 : decode cX0_init 46 = .ok (.putfield 31, 3) := by decide +kernel
theorem dX0_init_49 : decode cX0_init 49 = .ok (.aload_n 0, 1) := by decide +kernel
theorem dX0_init_50 : decode cX0_init 50 = .ok (.bipush 24, 2) := by decide +kernel
theorem dX0_init_52 : decode cX0_init 52 = .ok (.newarray .int, 2) := by decide +kernel
theorem dX0_init_54 : decode cX0_init 54 = .ok (.putfield 34, 3) := by decide +kernel
theorem dX0_init_57 : decode cX0_init 57 = .ok (.aload_n 0, 1) := by decide +kernel
theorem dX0_init_58 : decode cX0_init 58 = .ok (.bipush 24, 2) := by decide +kernel
theorem dX0_init_60 : decode cX0_init 60 = .ok (.newarray .int, 2) := by decide +kernel
theorem dX0_init_62 : decode cX0_init 62 = .ok (.putfield 37, 3) := by decide +kernel
theorem dX0_init_65 : decode cX0_init 65 = .ok (.aload_n 0, 1) := by decide +kernel
theorem dX0_init_66 : decode cX0_init 66 = .ok (.iconst 0, 1) := by decide +kernel
theorem dX0_init_67 : decode cX0_init 67 = .ok (.putfield 40, 3) := by decide +kernel
theorem dX0_init_70 : decode cX0_init 70 = .ok (.aload_n 0, 1) := by decide +kernel
theorem dX0_init_71 : decode cX0_init 71 = .ok (.iconst 0, 1) := by decide +kernel
theorem dX0_init_72 : decode cX0_init 72 = .ok (.putfield 43, 3) := by decide +kernel
theorem dX0_init_75 : decode cX0_init 75 = .ok (.aload_n 0, 1) := by decide +kernel
theorem dX0_init_76 : decode cX0_init 76 = .ok (.iconst (-1), 1) := by decide +kernel
theorem dX0_init_77 : decode cX0_init 77 = .ok (.putfield 46, 3) := by decide +kernel
theorem dX0_init_80 : decode cX0_init 80 = .ok (.aload_n 0, 1) := by decide +kernel
theorem dX0_init_81 : decode cX0_init 81 = .ok (.bipush 24, 2) := by decide +kernel
theorem dX0_init_83 : decode cX0_init 83 = .ok (.newarray .int, 2) := by decide +kernel
theorem dX0_init_85 : decode cX0_init 85 = .ok (.putfield 49, 3) := by decide +kernel
theorem dX0_init_88 : decode cX0_init 88 = .ok (.aload_n 0, 1) := by decide +kernel
theorem dX0_init_89 : decode cX0_init 89 = .ok (.iconst 0, 1) := by decide +kernel
theorem dX0_init_90 : decode cX0_init 90 = .ok (.putfield 52, 3) := by decide +kernel
theorem dX0_init_93 : decode cX0_init 93 = .ok (.aload_n 0, 1) := by decide +kernel
theorem dX0_init_94 : decode cX0_init 94 = .ok (.iconst 5, 1) := by decide +kernel
theorem dX0_init_95 : decode cX0_init 95 = .ok (.newarray .int, 2) := by decide +kernel
theorem dX0_init_97 : decode cX0_init 97 = .ok (.putfield 55, 3) := by decide +kernel
theorem dX0_init_100 : decode cX0_init 100 = .ok (.aload_n 0, 1) := by decide +kernel
theorem dX0_init_101 : decode cX0_init 101 = .ok (.iconst 0, 1) := by decide +kernel
theorem dX0_init_102 : decode cX0_init 102 = .ok (.putfield 58, 3) := by decide +kernel
theorem dX0_init_105 : decode cX0_init 105 = .ok (.aload_n 0, 1) := by decide +kernel
theorem dX0_init_106 : decode cX0_init 106 = .ok (.iconst 0, 1) := by decide +kernel
theorem dX0_init_107 : decode cX0_init 107 = .ok (.putfield 61, 3) := by decide +kernel
theorem dX0_init_110 : decode cX0_init 110 = .ok (.aload_n 0, 1) := by decide +kernel
theorem dX0_init_111 : decode cX0_init 111 = .ok (.getfield 49, 3) := by decide +kernel
theorem dX0_init_114 : decode cX0_init 114 = .ok (.bipush (-9), 2) := by decide +kernel
theorem dX0_init_116 : decode cX0_init 116 = .ok (.invokestatic 64, 3) := by decide +kernel
theorem dX0_init_119 : decode cX0_init 119 = .ok (.return_, 1) := by decide +kernel
theorem dX0_hold_0 : decode cX0_hold 0 = .ok (.iload_n 1, 1) := by decide +kernel
theorem dX0_hold_1 : decode cX0_hold 1 = .ok (.ifCond .lt 19, 3) := by decide +kernel
theorem dX0_hold_4 : decode cX0_hold 4 = .ok (.iload_n 1, 1) := by decide +kernel
theorem dX0_hold_5 : decode cX0_hold 5 = .ok (.iconst 5, 1) := by decide +kernel
theorem dX0_hold_6 : decode cX0_hold 6 = .ok (.if_icmp .ge 14, 3) := by decide +kernel
theorem dX0_hold_9 : decode cX0_hold 9 = .ok (.iload_n 2, 1) := by decide +kernel
theorem dX0_hold_10 : decode cX0_hold 10 = .ok (.bipush (-2), 2) := by decide +kernel
theorem dX0_hold_12 : decode cX0_hold 12 = .ok (.if_icmp .lt 8, 3) := by decide +kernel
theorem dX0_hold_15 : decode cX0_hold 15 = .ok (.iload_n 2, 1) := by decide +kernel
theorem dX0_hold_16 : decode cX0_hold 16 = .ok (.iconst 5, 1) := by decide +kernel
theorem dX0_hold_17 : decode cX0_hold 17 = .ok (.if_icmp .lt 5, 3) := by decide +kernel
theorem dX0_hold_20 : decode cX0_hold 20 = .ok (.iconst (-1), 1) := by decide +kernel
theorem dX0_hold_21 : decode cX0_hold 21 = .ok (.ireturn, 1) := by decide +kernel
theorem dX0_hold_22 : decode cX0_hold 22 = .ok (.iload_n 2, 1) := by decide +kernel
theorem dX0_hold_23 : decode cX0_hold 23 = .ok (.bipush (-2), 2) := by decide +kernel
theorem dX0_hold_25 : decode cX0_hold 25 = .ok (.if_icmp .ne 26, 3) := by decide +kernel
theorem dX0_hold_28 : decode cX0_hold 28 = .ok (.aload_n 0, 1) := by decide +kernel
theorem dX0_hold_29 : decode cX0_hold 29 = .ok (.dup, 1) := by decide +kernel
theorem dX0_hold_30 : decode cX0_hold 30 = .ok (.getfield 13, 3) := by decide +kernel
theorem dX0_hold_33 : decode cX0_hold 33 = .ok (.iconst 1, 1) := by decide +kernel
theorem dX0_hold_34 : decode cX0_hold 34 = .ok (.iadd, 1) := by decide +kernel
theorem dX0_hold_35 : decode cX0_hold 35 = .ok (.putfield 13, 3) := by decide +kernel
theorem dX0_hold_38 : decode cX0_hold 38 = .ok (.aload_n 0, 1) := by decide +kernel
theorem dX0_hold_39 : decode cX0_hold 39 = .ok (.getfield 9, 3) := by decide +kernel
theorem dX0_hold_42 : decode cX0_hold 42 = .ok (.iload_n 1, 1) := by decide +kernel
theorem dX0_hold_43 : decode cX0_hold 43 = .ok (.aload_n 0, 1) := by decide +kernel
theorem dX0_hold_44 : decode cX0_hold 44 = .ok (.getfield 13, 3) := by decide +kernel
theorem dX0_hold_47 : decode cX0_hold 47 = .ok (.iastore, 1) := by decide +kernel
theorem dX0_hold_48 : decode cX0_hold 48 = .ok (.goto 30, 3) := by decide +kernel
theorem dX0_hold_51 : decode cX0_hold 51 = .ok (.iload_n 2, 1) := by decide +kernel
theorem dX0_hold_52 : decode cX0_hold 52 = .ok (.iconst (-1), 1) := by decide +kernel
theorem dX0_hold_53 : decode cX0_hold 53 = .ok (.if_icmp .ne 13, 3) := by decide +kernel
theorem dX0_hold_56 : decode cX0_hold 56 = .ok (.aload_n 0, 1) := by decide +kernel
theorem dX0_hold_57 : decode cX0_hold 57 = .ok (.getfield 9, 3) := by decide +kernel
theorem dX0_hold_60 : decode cX0_hold 60 = .ok (.iload_n 1, 1) := by decide +kernel
theorem dX0_hold_61 : decode cX0_hold 61 = .ok (.iconst 0, 1) := by decide +kernel
theorem dX0_hold_62 : decode cX0_hold 62 = .ok (.iastore, 1) := by decide +kernel
theorem dX0_hold_63 : decode cX0_hold 63 = .ok (.goto 15, 3) := by decide +kernel
theorem dX0_hold_66 : decode cX0_hold 66 = .ok (.aload_n 0, 1) := by decide +kernel
theorem dX0_hold_67 : decode cX0_hold 67 = .ok (.getfield 9, 3) := by decide +kernel
theorem dX0_hold_70 : decode cX0_hold 70 = .ok (.iload_n 1, 1) := by decide +kernel
theorem dX0_hold_71 : decode cX0_hold 71 = .ok (.aload_n 0, 1) := by decide +kernel
theorem dX0_hold_72 : decode cX0_hold 72 = .ok (.getfield 9, 3) := by decide +kernel
theorem dX0_hold_75 : decode cX0_hold 75 = .ok (.iload_n 2, 1) := by decide +kernel
theorem dX0_hold_76 : decode cX0_hold 76 = .ok (.iaload, 1) := by decide +kernel
theorem dX0_hold_77 : decode cX0_hold 77 = .ok (.iastore, 1) := by decide +kernel
theorem dX0_hold_78 : decode cX0_hold 78 = .ok (.iconst 0, 1) := by decide +kernel
theorem dX0_hold_79 : decode cX0_hold 79 = .ok (.ireturn, 1) := by decide +kernel
set_option maxRecDepth 20000 in
theorem ggX0_step_X0_opensBlock : GoodIn wsX0_step wsX0_opensBlock := goodIn_r _ [11] (by decide +kernel) (by decide +kernel)
set_option maxRecDepth 20000 in
theorem gX0_step_X0_opensBlock : GoodIn wsX0_step (va_wsS RX0 70 yX0_opensBlock wsX0_opensBlock) := goodIn_app (goodIn_of _ (by decide +kernel)) ggX0_step_X0_opensBlock
theorem dX0_step_0 : decode cX0_step 0 = .ok (.iload_n 1, 1) := by decide +kernel
theorem dX0_step_1 : decode cX0_step 1 = .ok (.ifCond .lt 18, 3) := by decide +kernel
theorem dX0_step_4 : decode cX0_step 4 = .ok (.iload_n 1, 1) := by decide +kernel
theorem dX0_step_5 : decode cX0_step 5 = .ok (.bipush 15, 2) := by decide +kernel
theorem dX0_step_7 : decode cX0_step 7 = .ok (.if_icmp .gt 12, 3) := by decide +kernel
theorem dX0_step_10 : decode cX0_step 10 = .ok (.aload_n 0, 1) := by decide +kernel
theorem dX0_step_11 : decode cX0_step 11 = .ok (.getfield 40, 3) := by decide +kernel
theorem dX0_step_14 : decode cX0_step 14 = .ok (.bipush 24, 2) := by decide +kernel
theorem dX0_step_16 : decode cX0_step 16 = .ok (.if_icmp .lt 5, 3) := by decide +kernel
theorem dX0_step_19 : decode cX0_step 19 = .ok (.iconst (-1), 1) := by decide +kernel
theorem dX0_step_20 : decode cX0_step 20 = .ok (.ireturn, 1) := by decide +kernel
theorem dX0_step_21 : decode cX0_step 21 = .ok (.iload_n 1, 1) := by decide +kernel
theorem dX0_step_22 : decode cX0_step 22 = .ok (.ifCond .ne 13, 3) := by decide +kernel
theorem dX0_step_25 : decode cX0_step 25 = .ok (.aload_n 0, 1) := by decide +kernel
theorem dX0_step_26 : decode cX0_step 26 = .ok (.getfield 46, 3) := by decide +kernel
theorem dX0_step_29 : decode cX0_step 29 = .ok (.iconst (-1), 1) := by decide +kernel
theorem dX0_step_30 : decode cX0_step 30 = .ok (.if_icmp .ne 5, 3) := by decide +kernel
theorem dX0_step_33 : decode cX0_step 33 = .ok (.iconst (-1), 1) := by decide +kernel
theorem dX0_step_34 : decode cX0_step 34 = .ok (.ireturn, 1) := by decide +kernel
theorem dX0_step_35 : decode cX0_step 35 = .ok (.iload_n 1, 1) := by decide +kernel
theorem dX0_step_36 : decode cX0_step 36 = .ok (.invokestatic 70, 3) := by decide +kernel
theorem dX0_step_39 : decode cX0_step 39 = .ok (.ifCond .eq 14, 3) := by decide +kernel
theorem dX0_step_42 : decode cX0_step 42 = .ok (.aload_n 0, 1) := by decide +kernel
theorem dX0_step_43 : decode cX0_step 43 = .ok (.getfield 43, 3) := by decide +kernel
theorem dX0_step_46 : decode cX0_step 46 = .ok (.bipush 8, 2) := by decide +kernel
theorem dX0_step_48 : decode cX0_step 48 = .ok (.if_icmp .lt 5, 3) := by decide +kernel
theorem dX0_step_51 : decode cX0_step 51 = .ok (.iconst (-1), 1) := by decide +kernel
theorem dX0_step_52 : decode cX0_step 52 = .ok (.ireturn, 1) := by decide +kernel
theorem dX0_step_53 : decode cX0_step 53 = .ok (.aload_n 0, 1) := by decide +kernel
theorem dX0_step_54 : decode cX0_step 54 = .ok (.getfield 28, 3) := by decide +kernel
theorem dX0_step_57 : decode cX0_step 57 = .ok (.aload_n 0, 1) := by decide +kernel
theorem dX0_step_58 : decode cX0_step 58 = .ok (.getfield 40, 3) := by decide +kernel
theorem dX0_step_61 : decode cX0_step 61 = .ok (.iload_n 1, 1) := by decide +kernel
theorem dX0_step_62 : decode cX0_step 62 = .ok (.iastore, 1) := by decide +kernel
theorem dX0_step_63 : decode cX0_step 63 = .ok (.aload_n 0, 1) := by decide +kernel
theorem dX0_step_64 : decode cX0_step 64 = .ok (.getfield 31, 3) := by decide +kernel
theorem dX0_step_67 : decode cX0_step 67 = .ok (.aload_n 0, 1) := by decide +kernel
theorem dX0_step_68 : decode cX0_step 68 = .ok (.getfield 40, 3) := by decide +kernel
theorem dX0_step_71 : decode cX0_step 71 = .ok (.iload_n 2, 1) := by decide +kernel
theorem dX0_step_72 : decode cX0_step 72 = .ok (.iastore, 1) := by decide +kernel
theorem dX0_step_73 : decode cX0_step 73 = .ok (.aload_n 0, 1) := by decide +kernel
theorem dX0_step_74 : decode cX0_step 74 = .ok (.getfield 34, 3) := by decide +kernel
theorem dX0_step_77 : decode cX0_step 77 = .ok (.aload_n 0, 1) := by decide +kernel
theorem dX0_step_78 : decode cX0_step 78 = .ok (.getfield 40, 3) := by decide +kernel
theorem dX0_step_81 : decode cX0_step 81 = .ok (.aload_n 0, 1) := by decide +kernel
theorem dX0_step_82 : decode cX0_step 82 = .ok (.getfield 46, 3) := by decide +kernel
theorem dX0_step_85 : decode cX0_step 85 = .ok (.iastore, 1) := by decide +kernel
theorem dX0_step_86 : decode cX0_step 86 = .ok (.iload_n 1, 1) := by decide +kernel
theorem dX0_step_87 : decode cX0_step 87 = .ok (.invokestatic 70, 3) := by decide +kernel
theorem dX0_step_90 : decode cX0_step 90 = .ok (.ifCond .eq 24, 3) := by decide +kernel
theorem dX0_step_93 : decode cX0_step 93 = .ok (.aload_n 0, 1) := by decide +kernel
theorem dX0_step_94 : decode cX0_step 94 = .ok (.aload_n 0, 1) := by decide +kernel
theorem dX0_step_95 : decode cX0_step 95 = .ok (.getfield 40, 3) := by decide +kernel
theorem dX0_step_98 : decode cX0_step 98 = .ok (.putfield 46, 3) := by decide +kernel
theorem dX0_step_101 : decode cX0_step 101 = .ok (.aload_n 0, 1) := by decide +kernel
theorem dX0_step_102 : decode cX0_step 102 = .ok (.dup, 1) := by decide +kernel
theorem dX0_step_103 : decode cX0_step 103 = .ok (.getfield 43, 3) := by decide +kernel
theorem dX0_step_106 : decode cX0_step 106 = .ok (.iconst 1, 1) := by decide +kernel
theorem dX0_step_107 : decode cX0_step 107 = .ok (.iadd, 1) := by decide +kernel
theorem dX0_step_108 : decode cX0_step 108 = .ok (.putfield 43, 3) := by decide +kernel
theorem dX0_step_111 : decode cX0_step 111 = .ok (.goto 43, 3) := by decide +kernel
theorem dX0_step_114 : decode cX0_step 114 = .ok (.iload_n 1, 1) := by decide +kernel
theorem dX0_step_115 : decode cX0_step 115 = .ok (.ifCond .ne 39, 3) := by decide +kernel
theorem dX0_step_118 : decode cX0_step 118 = .ok (.aload_n 0, 1) := by decide +kernel
theorem dX0_step_119 : decode cX0_step 119 = .ok (.getfield 37, 3) := by decide +kernel
theorem dX0_step_122 : decode cX0_step 122 = .ok (.aload_n 0, 1) := by decide +kernel
theorem dX0_step_123 : decode cX0_step 123 = .ok (.getfield 46, 3) := by decide +kernel
theorem dX0_step_126 : decode cX0_step 126 = .ok (.aload_n 0, 1) := by decide +kernel
theorem dX0_step_127 : decode cX0_step 127 = .ok (.getfield 40, 3) := by decide +kernel
theorem dX0_step_130 : decode cX0_step 130 = .ok (.iastore, 1) := by decide +kernel
theorem dX0_step_131 : decode cX0_step 131 = .ok (.aload_n 0, 1) := by decide +kernel
theorem dX0_step_132 : decode cX0_step 132 = .ok (.aload_n 0, 1) := by decide +kernel
theorem dX0_step_133 : decode cX0_step 133 = .ok (.getfield 34, 3) := by decide +kernel
theorem dX0_step_136 : decode cX0_step 136 = .ok (.aload_n 0, 1) := by decide +kernel
theorem dX0_step_137 : decode cX0_step 137 = .ok (.getfield 46, 3) := by decide +kernel
theorem dX0_step_140 : decode cX0_step 140 = .ok (.iaload, 1) := by decide +kernel
theorem dX0_step_141 : decode cX0_step 141 = .ok (.putfield 46, 3) := by decide +kernel
theorem dX0_step_144 : decode cX0_step 144 = .ok (.aload_n 0, 1) := by decide +kernel
theorem dX0_step_145 : decode cX0_step 145 = .ok (.dup, 1) := by decide +kernel
theorem dX0_step_146 : decode cX0_step 146 = .ok (.getfield 43, 3) := by decide +kernel
theorem dX0_step_149 : decode cX0_step 149 = .ok (.iconst 1, 1) := by decide +kernel
theorem dX0_step_150 : decode cX0_step 150 = .ok (.isub, 1) := by decide +kernel
theorem dX0_step_151 : decode cX0_step 151 = .ok (.putfield 43, 3) := by decide +kernel
theorem dX0_step_154 : decode cX0_step 154 = .ok (.aload_n 0, 1) := by decide +kernel
theorem dX0_step_155 : decode cX0_step 155 = .ok (.dup, 1) := by decide +kernel
theorem dX0_step_156 : decode cX0_step 156 = .ok (.getfield 40, 3) := by decide +kernel
theorem dX0_step_159 : decode cX0_step 159 = .ok (.iconst 1, 1) := by decide +kernel
theorem dX0_step_160 : decode cX0_step 160 = .ok (.iadd, 1) := by decide +kernel
theorem dX0_step_161 : decode cX0_step 161 = .ok (.putfield 40, 3) := by decide +kernel
theorem dX0_step_164 : decode cX0_step 164 = .ok (.aload_n 0, 1) := by decide +kernel
theorem dX0_step_165 : decode cX0_step 165 = .ok (.getfield 40, 3) := by decide +kernel
theorem dX0_step_168 : decode cX0_step 168 = .ok (.ireturn, 1) := by decide +kernel
theorem dX0_clear_0 : decode cX0_clear 0 = .ok (.aload_n 0, 1) := by decide +kernel
theorem dX0_clear_1 : decode cX0_clear 1 = .ok (.getfield 40, 3) := by decide +kernel
theorem dX0_clear_4 : decode cX0_clear 4 = .ok (.istore_n 1, 1) := by decide +kernel
theorem dX0_clear_5 : decode cX0_clear 5 = .ok (.aload_n 0, 1) := by decide +kernel
theorem dX0_clear_6 : decode cX0_clear 6 = .ok (.iconst 0, 1) := by decide +kernel
theorem dX0_clear_7 : decode cX0_clear 7 = .ok (.putfield 40, 3) := by decide +kernel
theorem dX0_clear_10 : decode cX0_clear 10 = .ok (.aload_n 0, 1) := by decide +kernel
theorem dX0_clear_11 : decode cX0_clear 11 = .ok (.iconst 0, 1) := by decide +kernel
theorem dX0_clear_12 : decode cX0_clear 12 = .ok (.putfield 43, 3) := by decide +kernel
theorem dX0_clear_15 : decode cX0_clear 15 = .ok (.aload_n 0, 1) := by decide +kernel
theorem dX0_clear_16 : decode cX0_clear 16 = .ok (.iconst (-1), 1) := by decide +kernel
theorem dX0_clear_17 : decode cX0_clear 17 = .ok (.putfield 46, 3) := by decide +kernel
theorem dX0_clear_20 : decode cX0_clear 20 = .ok (.iload_n 1, 1) := by decide +kernel
theorem dX0_clear_21 : decode cX0_clear 21 = .ok (.ireturn, 1) := by decide +kernel
set_option maxRecDepth 20000 in
theorem ggX0_run_J7_fill_53178 : GoodIn wsX0_run wsJ7_fill_53178 := goodIn_r _ [10] (by decide +kernel) (by decide +kernel)
set_option maxRecDepth 20000 in
theorem gX0_run_J7_fill_53178 : GoodIn wsX0_run (va_wsS RX0 64 yJ7_fill_53178 wsJ7_fill_53178) := goodIn_app (goodIn_of _ (by decide +kernel)) ggX0_run_J7_fill_53178
set_option maxRecDepth 20000 in
theorem ggX0_run_X0_doStep : GoodIn wsX0_run wsX0_doStep := goodIn_r _ [15, 16, 2, 17, 18, 19, 14, 20, 21, 22, 23, 24, 25, 26, 27, 28, 29, 30, 31, 32, 33, 34, 35, 36, 37, 38, 39, 40, 41, 42, 3, 43, 44, 45, 46, 47, 48, 49, 50, 51, 52, 53, 54, 55, 56, 57, 58, 59, 60, 61, 62, 63, 64, 65, 66, 67, 68, 69, 70, 71, 72, 73, 74, 75, 76, 77, 78, 79, 80, 81, 82, 83, 84, 85, 86, 87, 88, 89, 90, 91, 4, 6, 5, 92, 93, 94, 95, 96, 97, 98, 99, 100, 101, 102, 103, 104, 105, 106, 107, 108, 109] (by decide +kernel) (by decide +kernel)
set_option maxRecDepth 20000 in
theorem gX0_run_X0_doStep : GoodIn wsX0_run (wsV RX0 74 RX0 yX0_doStep wsX0_doStep) := goodIn_app (goodIn_of _ (by decide +kernel)) ggX0_run_X0_doStep
theorem dX0_run_0 : decode cX0_run 0 = .ok (.aload_n 0, 1) := by decide +kernel
theorem dX0_run_1 : decode cX0_run 1 = .ok (.getfield 43, 3) := by decide +kernel
theorem dX0_run_4 : decode cX0_run 4 = .ok (.ifCond .eq 5, 3) := by decide +kernel
theorem dX0_run_7 : decode cX0_run 7 = .ok (.iconst (-1), 1) := by decide +kernel
theorem dX0_run_8 : decode cX0_run 8 = .ok (.ireturn, 1) := by decide +kernel
theorem dX0_run_9 : decode cX0_run 9 = .ok (.aload_n 0, 1) := by decide +kernel
theorem dX0_run_10 : decode cX0_run 10 = .ok (.getfield 49, 3) := by decide +kernel
theorem dX0_run_13 : decode cX0_run 13 = .ok (.bipush (-9), 2) := by decide +kernel
theorem dX0_run_15 : decode cX0_run 15 = .ok (.invokestatic 64, 3) := by decide +kernel
theorem dX0_run_18 : decode cX0_run 18 = .ok (.aload_n 0, 1) := by decide +kernel
theorem dX0_run_19 : decode cX0_run 19 = .ok (.getfield 55, 3) := by decide +kernel
theorem dX0_run_22 : decode cX0_run 22 = .ok (.iconst 0, 1) := by decide +kernel
theorem dX0_run_23 : decode cX0_run 23 = .ok (.invokestatic 64, 3) := by decide +kernel
theorem dX0_run_26 : decode cX0_run 26 = .ok (.aload_n 0, 1) := by decide +kernel
theorem dX0_run_27 : decode cX0_run 27 = .ok (.iconst 0, 1) := by decide +kernel
theorem dX0_run_28 : decode cX0_run 28 = .ok (.putfield 52, 3) := by decide +kernel
theorem dX0_run_31 : decode cX0_run 31 = .ok (.aload_n 0, 1) := by decide +kernel
theorem dX0_run_32 : decode cX0_run 32 = .ok (.iconst 0, 1) := by decide +kernel
theorem dX0_run_33 : decode cX0_run 33 = .ok (.putfield 61, 3) := by decide +kernel
theorem dX0_run_36 : decode cX0_run 36 = .ok (.iconst 0, 1) := by decide +kernel
theorem dX0_run_37 : decode cX0_run 37 = .ok (.istore_n 1, 1) := by decide +kernel
theorem dX0_run_38 : decode cX0_run 38 = .ok (.iconst 0, 1) := by decide +kernel
theorem dX0_run_39 : decode cX0_run 39 = .ok (.istore_n 2, 1) := by decide +kernel
theorem dX0_run_40 : decode cX0_run 40 = .ok (.iload_n 2, 1) := by decide +kernel
theorem dX0_run_41 : decode cX0_run 41 = .ok (.aload_n 0, 1) := by decide +kernel
theorem dX0_run_42 : decode cX0_run 42 = .ok (.getfield 40, 3) := by decide +kernel
theorem dX0_run_45 : decode cX0_run 45 = .ok (.if_icmp .ge 25, 3) := by decide +kernel
theorem dX0_run_48 : decode cX0_run 48 = .ok (.iload_n 2, 1) := by decide +kernel
theorem dX0_run_49 : decode cX0_run 49 = .ok (.aload_n 0, 1) := by decide +kernel
theorem dX0_run_50 : decode cX0_run 50 = .ok (.getfield 61, 3) := by decide +kernel
theorem dX0_run_53 : decode cX0_run 53 = .ok (.if_icmp .lt 11, 3) := by decide +kernel
theorem dX0_run_56 : decode cX0_run 56 = .ok (.aload_n 0, 1) := by decide +kernel
theorem dX0_run_57 : decode cX0_run 57 = .ok (.iload_n 2, 1) := by decide +kernel
theorem dX0_run_58 : decode cX0_run 58 = .ok (.invokevirtual 74, 3) := by decide +kernel
theorem dX0_run_61 : decode cX0_run 61 = .ok (.iinc 1 1, 3) := by decide +kernel
theorem dX0_run_64 : decode cX0_run 64 = .ok (.iinc 2 1, 3) := by decide +kernel
theorem dX0_run_67 : decode cX0_run 67 = .ok (.goto (-27), 3) := by decide +kernel
theorem dX0_run_70 : decode cX0_run 70 = .ok (.iload_n 1, 1) := by decide +kernel
theorem dX0_run_71 : decode cX0_run 71 = .ok (.ireturn, 1) := by decide +kernel
theorem dX0_result_0 : decode cX0_result 0 = .ok (.iload_n 1, 1) := by decide +kernel
theorem dX0_result_1 : decode cX0_result 1 = .ok (.ifCond .lt 9, 3) := by decide +kernel
theorem dX0_result_4 : decode cX0_result 4 = .ok (.iload_n 1, 1) := by decide +kernel
theorem dX0_result_5 : decode cX0_result 5 = .ok (.bipush 24, 2) := by decide +kernel
theorem dX0_result_7 : decode cX0_result 7 = .ok (.if_icmp .lt 5, 3) := by decide +kernel
theorem dX0_result_10 : decode cX0_result 10 = .ok (.iconst (-1), 1) := by decide +kernel
theorem dX0_result_11 : decode cX0_result 11 = .ok (.ireturn, 1) := by decide +kernel
theorem dX0_result_12 : decode cX0_result 12 = .ok (.aload_n 0, 1) := by decide +kernel
theorem dX0_result_13 : decode cX0_result 13 = .ok (.getfield 49, 3) := by decide +kernel
theorem dX0_result_16 : decode cX0_result 16 = .ok (.iload_n 1, 1) := by decide +kernel
theorem dX0_result_17 : decode cX0_result 17 = .ok (.iaload, 1) := by decide +kernel
theorem dX0_result_18 : decode cX0_result 18 = .ok (.ireturn, 1) := by decide +kernel
theorem dX0_failure_0 : decode cX0_failure 0 = .ok (.aload_n 0, 1) := by decide +kernel
theorem dX0_failure_1 : decode cX0_failure 1 = .ok (.getfield 52, 3) := by decide +kernel
theorem dX0_failure_4 : decode cX0_failure 4 = .ok (.ireturn, 1) := by decide +kernel
set_option maxRecDepth 20000 in
theorem ggX0_state_X0_asNumber : GoodIn wsX0_state wsX0_asNumber := goodIn_r _ [8] (by decide +kernel) (by decide +kernel)
set_option maxRecDepth 20000 in
theorem gX0_state_X0_asNumber : GoodIn wsX0_state (va_wsS RX0 78 yX0_asNumber wsX0_asNumber) := goodIn_app (goodIn_of _ (by decide +kernel)) ggX0_state_X0_asNumber
set_option maxRecDepth 20000 in
theorem ggX0_state_X0_countEnded : GoodIn wsX0_state wsX0_countEnded := goodIn_r _ [12, 13, 5, 6, 7, 8, 23, 24, 25, 26, 27, 28, 29, 30, 31, 32, 33, 34, 35, 36, 37, 38, 39] (by decide +kernel) (by decide +kernel)
set_option maxRecDepth 20000 in
theorem gX0_state_X0_countEnded : GoodIn wsX0_state (wsV RX0 82 RX0 yX0_countEnded wsX0_countEnded) := goodIn_app (goodIn_of _ (by decide +kernel)) ggX0_state_X0_countEnded
set_option maxRecDepth 20000 in
theorem ggX0_state_X0_handleState : GoodIn wsX0_state wsX0_handleState := goodIn_r _ [17, 18, 19, 20, 21, 7, 22, 23, 24, 25, 26, 27, 28, 29, 30, 31, 32, 33, 34, 35, 36, 37, 38, 39] (by decide +kernel) (by decide +kernel)
set_option maxRecDepth 20000 in
theorem gX0_state_X0_handleState : GoodIn wsX0_state (wsV RX0 86 RX0 yX0_handleState wsX0_handleState) := goodIn_app (goodIn_of _ (by decide +kernel)) ggX0_state_X0_handleState
theorem dX0_state_0 : decode cX0_state 0 = .ok (.iload_n 1, 1) := by decide +kernel
theorem dX0_state_1 : decode cX0_state 1 = .ok (.tableswitch 63 0 4 #[35, 40, 45, 50, 58], 35) := by decide +kernel
theorem dX0_state_36 : decode cX0_state 36 = .ok (.aload_n 0, 1) := by decide +kernel
theorem dX0_state_37 : decode cX0_state 37 = .ok (.getfield 40, 3) := by decide +kernel
theorem dX0_state_40 : decode cX0_state 40 = .ok (.ireturn, 1) := by decide +kernel
theorem dX0_state_41 : decode cX0_state 41 = .ok (.aload_n 0, 1) := by decide +kernel
theorem dX0_state_42 : decode cX0_state 42 = .ok (.getfield 43, 3) := by decide +kernel
theorem dX0_state_45 : decode cX0_state 45 = .ok (.ireturn, 1) := by decide +kernel
theorem dX0_state_46 : decode cX0_state 46 = .ok (.aload_n 0, 1) := by decide +kernel
theorem dX0_state_47 : decode cX0_state 47 = .ok (.getfield 21, 3) := by decide +kernel
theorem dX0_state_50 : decode cX0_state 50 = .ok (.ireturn, 1) := by decide +kernel
theorem dX0_state_51 : decode cX0_state 51 = .ok (.aload_n 0, 1) := by decide +kernel
theorem dX0_state_52 : decode cX0_state 52 = .ok (.getfield 24, 3) := by decide +kernel
theorem dX0_state_55 : decode cX0_state 55 = .ok (.invokestatic 78, 3) := by decide +kernel
theorem dX0_state_58 : decode cX0_state 58 = .ok (.ireturn, 1) := by decide +kernel
theorem dX0_state_59 : decode cX0_state 59 = .ok (.aload_n 0, 1) := by decide +kernel
theorem dX0_state_60 : decode cX0_state 60 = .ok (.invokevirtual 82, 3) := by decide +kernel
theorem dX0_state_63 : decode cX0_state 63 = .ok (.ireturn, 1) := by decide +kernel
theorem dX0_state_64 : decode cX0_state 64 = .ok (.aload_n 0, 1) := by decide +kernel
theorem dX0_state_65 : decode cX0_state 65 = .ok (.iload_n 1, 1) := by decide +kernel
theorem dX0_state_66 : decode cX0_state 66 = .ok (.invokevirtual 86, 3) := by decide +kernel
theorem dX0_state_69 : decode cX0_state 69 = .ok (.ireturn, 1) := by decide +kernel
set_option maxRecDepth 20000 in
theorem ggX0_handleState_X0_leastHandle : GoodIn wsX0_handleState wsX0_leastHandle := goodIn_r _ [6, 1, 7, 8, 9, 10, 11, 12, 13, 14, 15, 16, 17, 18, 19, 20, 21, 22, 23] (by decide +kernel) (by decide +kernel)
set_option maxRecDepth 20000 in
theorem gX0_handleState_X0_leastHandle : GoodIn wsX0_handleState (wsV RX0 90 RX0 yX0_leastHandle wsX0_leastHandle) := goodIn_app (goodIn_of _ (by decide +kernel)) ggX0_handleState_X0_leastHandle
theorem dX0_handleState_0 : decode cX0_handleState 0 = .ok (.iload_n 1, 1) := by decide +kernel
theorem dX0_handleState_1 : decode cX0_handleState 1 = .ok (.iconst 5, 1) := by decide +kernel
theorem dX0_handleState_2 : decode cX0_handleState 2 = .ok (.if_icmp .lt 9, 3) := by decide +kernel
theorem dX0_handleState_5 : decode cX0_handleState 5 = .ok (.iload_n 1, 1) := by decide +kernel
theorem dX0_handleState_6 : decode cX0_handleState 6 = .ok (.bipush 10, 2) := by decide +kernel
theorem dX0_handleState_8 : decode cX0_handleState 8 = .ok (.if_icmp .lt 5, 3) := by decide +kernel
theorem dX0_handleState_11 : decode cX0_handleState 11 = .ok (.iconst (-1), 1) := by decide +kernel
theorem dX0_handleState_12 : decode cX0_handleState 12 = .ok (.ireturn, 1) := by decide +kernel
theorem dX0_handleState_13 : decode cX0_handleState 13 = .ok (.iload_n 1, 1) := by decide +kernel
theorem dX0_handleState_14 : decode cX0_handleState 14 = .ok (.iconst 5, 1) := by decide +kernel
theorem dX0_handleState_15 : decode cX0_handleState 15 = .ok (.isub, 1) := by decide +kernel
theorem dX0_handleState_16 : decode cX0_handleState 16 = .ok (.istore_n 2, 1) := by decide +kernel
theorem dX0_handleState_17 : decode cX0_handleState 17 = .ok (.aload_n 0, 1) := by decide +kernel
theorem dX0_handleState_18 : decode cX0_handleState 18 = .ok (.getfield 9, 3) := by decide +kernel
theorem dX0_handleState_21 : decode cX0_handleState 21 = .ok (.iload_n 2, 1) := by decide +kernel
theorem dX0_handleState_22 : decode cX0_handleState 22 = .ok (.iaload, 1) := by decide +kernel
theorem dX0_handleState_23 : decode cX0_handleState 23 = .ok (.ifCond .ne 8, 3) := by decide +kernel
theorem dX0_handleState_26 : decode cX0_handleState 26 = .ok (.bipush (-2), 2) := by decide +kernel
theorem dX0_handleState_28 : decode cX0_handleState 28 = .ok (.goto 8, 3) := by decide +kernel
theorem dX0_handleState_31 : decode cX0_handleState 31 = .ok (.aload_n 0, 1) := by decide +kernel
theorem dX0_handleState_32 : decode cX0_handleState 32 = .ok (.iload_n 2, 1) := by decide +kernel
theorem dX0_handleState_33 : decode cX0_handleState 33 = .ok (.invokevirtual 90, 3) := by decide +kernel
theorem dX0_handleState_36 : decode cX0_handleState 36 = .ok (.ireturn, 1) := by decide +kernel
set_option maxRecDepth 20000 in
theorem ggX0_countEnded_X0_asNumber : GoodIn wsX0_countEnded wsX0_asNumber := goodIn_r _ [5] (by decide +kernel) (by decide +kernel)
set_option maxRecDepth 20000 in
theorem gX0_countEnded_X0_asNumber : GoodIn wsX0_countEnded (va_wsS RX0 78 yX0_asNumber wsX0_asNumber) := goodIn_app (goodIn_of _ (by decide +kernel)) ggX0_countEnded_X0_asNumber
theorem dX0_countEnded_0 : decode cX0_countEnded 0 = .ok (.iconst 0, 1) := by decide +kernel
theorem dX0_countEnded_1 : decode cX0_countEnded 1 = .ok (.istore_n 1, 1) := by decide +kernel
theorem dX0_countEnded_2 : decode cX0_countEnded 2 = .ok (.iconst 0, 1) := by decide +kernel
theorem dX0_countEnded_3 : decode cX0_countEnded 3 = .ok (.istore_n 2, 1) := by decide +kernel
theorem dX0_countEnded_4 : decode cX0_countEnded 4 = .ok (.iload_n 2, 1) := by decide +kernel
theorem dX0_countEnded_5 : decode cX0_countEnded 5 = .ok (.iconst 4, 1) := by decide +kernel
theorem dX0_countEnded_6 : decode cX0_countEnded 6 = .ok (.if_icmp .ge 21, 3) := by decide +kernel
theorem dX0_countEnded_9 : decode cX0_countEnded 9 = .ok (.iload_n 1, 1) := by decide +kernel
theorem dX0_countEnded_10 : decode cX0_countEnded 10 = .ok (.aload_n 0, 1) := by decide +kernel
theorem dX0_countEnded_11 : decode cX0_countEnded 11 = .ok (.getfield 17, 3) := by decide +kernel
theorem dX0_countEnded_14 : decode cX0_countEnded 14 = .ok (.iload_n 2, 1) := by decide +kernel
theorem dX0_countEnded_15 : decode cX0_countEnded 15 = .ok (.baload, 1) := by decide +kernel
theorem dX0_countEnded_16 : decode cX0_countEnded 16 = .ok (.invokestatic 78, 3) := by decide +kernel
theorem dX0_countEnded_19 : decode cX0_countEnded 19 = .ok (.iadd, 1) := by decide +kernel
theorem dX0_countEnded_20 : decode cX0_countEnded 20 = .ok (.istore_n 1, 1) := by decide +kernel
theorem dX0_countEnded_21 : decode cX0_countEnded 21 = .ok (.iinc 2 1, 3) := by decide +kernel
theorem dX0_countEnded_24 : decode cX0_countEnded 24 = .ok (.goto (-20), 3) := by decide +kernel
theorem dX0_countEnded_27 : decode cX0_countEnded 27 = .ok (.iload_n 1, 1) := by decide +kernel
theorem dX0_countEnded_28 : decode cX0_countEnded 28 = .ok (.ireturn, 1) := by decide +kernel
theorem dX0_opensBlock_0 : decode cX0_opensBlock 0 = .ok (.iload_n 0, 1) := by decide +kernel
theorem dX0_opensBlock_1 : decode cX0_opensBlock 1 = .ok (.iconst 1, 1) := by decide +kernel
theorem dX0_opensBlock_2 : decode cX0_opensBlock 2 = .ok (.if_icmp .eq 8, 3) := by decide +kernel
theorem dX0_opensBlock_5 : decode cX0_opensBlock 5 = .ok (.iload_n 0, 1) := by decide +kernel
theorem dX0_opensBlock_6 : decode cX0_opensBlock 6 = .ok (.iconst 2, 1) := by decide +kernel
theorem dX0_opensBlock_7 : decode cX0_opensBlock 7 = .ok (.if_icmp .ne 7, 3) := by decide +kernel
theorem dX0_opensBlock_10 : decode cX0_opensBlock 10 = .ok (.iconst 1, 1) := by decide +kernel
theorem dX0_opensBlock_11 : decode cX0_opensBlock 11 = .ok (.goto 4, 3) := by decide +kernel
theorem dX0_opensBlock_14 : decode cX0_opensBlock 14 = .ok (.iconst 0, 1) := by decide +kernel
theorem dX0_opensBlock_15 : decode cX0_opensBlock 15 = .ok (.ireturn, 1) := by decide +kernel
theorem dX0_asNumber_0 : decode cX0_asNumber 0 = .ok (.iload_n 0, 1) := by decide +kernel
theorem dX0_asNumber_1 : decode cX0_asNumber 1 = .ok (.ifCond .eq 7, 3) := by decide +kernel
theorem dX0_asNumber_4 : decode cX0_asNumber 4 = .ok (.iconst 1, 1) := by decide +kernel
theorem dX0_asNumber_5 : decode cX0_asNumber 5 = .ok (.goto 4, 3) := by decide +kernel
theorem dX0_asNumber_8 : decode cX0_asNumber 8 = .ok (.iconst 0, 1) := by decide +kernel
theorem dX0_asNumber_9 : decode cX0_asNumber 9 = .ok (.ireturn, 1) := by decide +kernel
theorem dX0_leastHandle_0 : decode cX0_leastHandle 0 = .ok (.iconst 0, 1) := by decide +kernel
theorem dX0_leastHandle_1 : decode cX0_leastHandle 1 = .ok (.istore_n 2, 1) := by decide +kernel
theorem dX0_leastHandle_2 : decode cX0_leastHandle 2 = .ok (.iload_n 2, 1) := by decide +kernel
theorem dX0_leastHandle_3 : decode cX0_leastHandle 3 = .ok (.iload_n 1, 1) := by decide +kernel
theorem dX0_leastHandle_4 : decode cX0_leastHandle 4 = .ok (.if_icmp .ge 26, 3) := by decide +kernel
theorem dX0_leastHandle_7 : decode cX0_leastHandle 7 = .ok (.aload_n 0, 1) := by decide +kernel
theorem dX0_leastHandle_8 : decode cX0_leastHandle 8 = .ok (.getfield 9, 3) := by decide +kernel
theorem dX0_leastHandle_11 : decode cX0_leastHandle 11 = .ok (.iload_n 2, 1) := by decide +kernel
theorem dX0_leastHandle_12 : decode cX0_leastHandle 12 = .ok (.iaload, 1) := by decide +kernel
theorem dX0_leastHandle_13 : decode cX0_leastHandle 13 = .ok (.aload_n 0, 1) := by decide +kernel
theorem dX0_leastHandle_14 : decode cX0_leastHandle 14 = .ok (.getfield 9, 3) := by decide +kernel
theorem dX0_leastHandle_17 : decode cX0_leastHandle 17 = .ok (.iload_n 1, 1) := by decide +kernel
theorem dX0_leastHandle_18 : decode cX0_leastHandle 18 = .ok (.iaload, 1) := by decide +kernel
theorem dX0_leastHandle_19 : decode cX0_leastHandle 19 = .ok (.if_icmp .ne 5, 3) := by decide +kernel
theorem dX0_leastHandle_22 : decode cX0_leastHandle 22 = .ok (.iload_n 2, 1) := by decide +kernel
theorem dX0_leastHandle_23 : decode cX0_leastHandle 23 = .ok (.ireturn, 1) := by decide +kernel
theorem dX0_leastHandle_24 : decode cX0_leastHandle 24 = .ok (.iinc 2 1, 3) := by decide +kernel
theorem dX0_leastHandle_27 : decode cX0_leastHandle 27 = .ok (.goto (-25), 3) := by decide +kernel
theorem dX0_leastHandle_30 : decode cX0_leastHandle 30 = .ok (.iload_n 1, 1) := by decide +kernel
theorem dX0_leastHandle_31 : decode cX0_leastHandle 31 = .ok (.ireturn, 1) := by decide +kernel
set_option maxRecDepth 20000 in
theorem ggX0_doStep_X0_perform : GoodIn wsX0_doStep wsX0_perform := goodIn_r _ [7, 8, 9, 10, 11, 12, 13, 14, 15, 16, 17, 18, 19, 20, 6, 21, 22, 23, 24, 25, 26, 27, 28, 29, 30, 31, 32, 33, 34, 35, 36, 37, 38, 39, 40, 41, 42, 43, 1, 44, 45, 46, 47, 48, 49, 50, 51, 52, 53, 54, 55, 56, 57, 58, 59, 60, 61, 62, 63, 64, 65, 66, 67, 68, 69, 70, 71, 72, 73, 74, 75, 84, 85, 86, 87, 88, 89, 90, 91, 92, 93, 94, 95, 96, 97, 98, 99, 100] (by decide +kernel) (by decide +kernel)
set_option maxRecDepth 20000 in
theorem gX0_doStep_X0_perform : GoodIn wsX0_doStep (wsV RX0 93 RX0 yX0_perform wsX0_perform) := goodIn_app (goodIn_of _ (by decide +kernel)) ggX0_doStep_X0_perform
set_option maxRecDepth 20000 in
theorem ggX0_doStep_X0_leaveBlocks : GoodIn wsX0_doStep wsX0_leaveBlocks := goodIn_r _ [79, 10, 1, 80, 81, 82, 2, 83, 22, 23, 24, 6, 25, 9, 26, 27, 28, 29, 8, 30, 14, 15, 16, 17, 31, 32, 33, 34, 35, 84, 85, 86, 87, 88, 89, 90, 91, 92, 93, 94, 95, 96, 97, 98, 99, 100] (by decide +kernel) (by decide +kernel)
set_option maxRecDepth 20000 in
theorem gX0_doStep_X0_leaveBlocks : GoodIn wsX0_doStep (wsV RX0 96 RX0 yX0_leaveBlocks wsX0_leaveBlocks) := goodIn_app (goodIn_of _ (by decide +kernel)) ggX0_doStep_X0_leaveBlocks
theorem dX0_doStep_0 : decode cX0_doStep 0 = .ok (.aload_n 0, 1) := by decide +kernel
theorem dX0_doStep_1 : decode cX0_doStep 1 = .ok (.iconst 0, 1) := by decide +kernel
theorem dX0_doStep_2 : decode cX0_doStep 2 = .ok (.putfield 58, 3) := by decide +kernel
theorem dX0_doStep_5 : decode cX0_doStep 5 = .ok (.aload_n 0, 1) := by decide +kernel
theorem dX0_doStep_6 : decode cX0_doStep 6 = .ok (.iload_n 1, 1) := by decide +kernel
theorem dX0_doStep_7 : decode cX0_doStep 7 = .ok (.invokevirtual 93, 3) := by decide +kernel
theorem dX0_doStep_10 : decode cX0_doStep 10 = .ok (.istore_n 2, 1) := by decide +kernel
theorem dX0_doStep_11 : decode cX0_doStep 11 = .ok (.aload_n 0, 1) := by decide +kernel
theorem dX0_doStep_12 : decode cX0_doStep 12 = .ok (.getfield 58, 3) := by decide +kernel
theorem dX0_doStep_15 : decode cX0_doStep 15 = .ok (.ifCond .ne 13, 3) := by decide +kernel
theorem dX0_doStep_18 : decode cX0_doStep 18 = .ok (.aload_n 0, 1) := by decide +kernel
theorem dX0_doStep_19 : decode cX0_doStep 19 = .ok (.getfield 49, 3) := by decide +kernel
theorem dX0_doStep_22 : decode cX0_doStep 22 = .ok (.iload_n 1, 1) := by decide +kernel
theorem dX0_doStep_23 : decode cX0_doStep 23 = .ok (.iload_n 2, 1) := by decide +kernel
theorem dX0_doStep_24 : decode cX0_doStep 24 = .ok (.iastore, 1) := by decide +kernel
theorem dX0_doStep_25 : decode cX0_doStep 25 = .ok (.goto 22, 3) := by decide +kernel
theorem dX0_doStep_28 : decode cX0_doStep 28 = .ok (.aload_n 0, 1) := by decide +kernel
theorem dX0_doStep_29 : decode cX0_doStep 29 = .ok (.getfield 49, 3) := by decide +kernel
theorem dX0_doStep_32 : decode cX0_doStep 32 = .ok (.iload_n 1, 1) := by decide +kernel
theorem dX0_doStep_33 : decode cX0_doStep 33 = .ok (.aload_n 0, 1) := by decide +kernel
theorem dX0_doStep_34 : decode cX0_doStep 34 = .ok (.getfield 58, 3) := by decide +kernel
theorem dX0_doStep_37 : decode cX0_doStep 37 = .ok (.sipush (-1000), 3) := by decide +kernel
theorem dX0_doStep_40 : decode cX0_doStep 40 = .ok (.iadd, 1) := by decide +kernel
theorem dX0_doStep_41 : decode cX0_doStep 41 = .ok (.iastore, 1) := by decide +kernel
theorem dX0_doStep_42 : decode cX0_doStep 42 = .ok (.aload_n 0, 1) := by decide +kernel
theorem dX0_doStep_43 : decode cX0_doStep 43 = .ok (.iload_n 1, 1) := by decide +kernel
theorem dX0_doStep_44 : decode cX0_doStep 44 = .ok (.invokevirtual 96, 3) := by decide +kernel
theorem dX0_doStep_47 : decode cX0_doStep 47 = .ok (.return_, 1) := by decide +kernel
set_option maxRecDepth 20000 in
theorem ggX0_perform_J9_floorMod_7cf53 : GoodIn wsX0_perform wsJ9_floorMod_7cf53 := goodIn_r _ [10] (by decide +kernel) (by decide +kernel)
set_option maxRecDepth 20000 in
theorem gX0_perform_J9_floorMod_7cf53 : GoodIn wsX0_perform (va_wsS RX0 99 yJ9_floorMod_7cf53 wsJ9_floorMod_7cf53) := goodIn_app (goodIn_of _ (by decide +kernel)) ggX0_perform_J9_floorMod_7cf53
set_option maxRecDepth 20000 in
theorem ggX0_perform_X0_endBlock : GoodIn wsX0_perform wsX0_endBlock := goodIn_r _ [15, 16, 17, 18, 14, 19, 2, 20, 21, 22, 23, 1, 24, 7, 8, 9, 10, 25, 26, 27, 28, 29, 71, 72, 73, 74, 75, 76, 77, 78, 79, 80, 81, 82, 83, 84, 85, 86, 87] (by decide +kernel) (by decide +kernel)
set_option maxRecDepth 20000 in
theorem gX0_perform_X0_endBlock : GoodIn wsX0_perform (wsV RX0 105 RX0 yX0_endBlock wsX0_endBlock) := goodIn_app (goodIn_of _ (by decide +kernel)) ggX0_perform_X0_endBlock
set_option maxRecDepth 20000 in
theorem ggX0_perform_X0_enter : GoodIn wsX0_perform wsX0_enter := goodIn_r _ [33, 29, 24, 34, 35, 36, 14, 37, 38, 25, 26, 27, 28, 71, 72, 73, 74, 75, 76, 77, 78, 79, 80, 81, 82, 83, 84, 85, 86, 87] (by decide +kernel) (by decide +kernel)
set_option maxRecDepth 20000 in
theorem gX0_perform_X0_enter : GoodIn wsX0_perform (wsV RX0 108 RX0 yX0_enter wsX0_enter) := goodIn_app (goodIn_of _ (by decide +kernel)) ggX0_perform_X0_enter
set_option maxRecDepth 20000 in
theorem ggX0_perform_X0_notifyWaiting : GoodIn wsX0_perform wsX0_notifyWaiting := goodIn_r _ [42, 29, 24, 34, 35, 36, 14, 37, 38, 25, 26, 27, 28, 71, 72, 73, 74, 75, 76, 77, 78, 79, 80, 81, 82, 83, 84, 85, 86, 87] (by decide +kernel) (by decide +kernel)
set_option maxRecDepth 20000 in
theorem gX0_perform_X0_notifyWaiting : GoodIn wsX0_perform (wsV RX0 111 RX0 yX0_notifyWaiting wsX0_notifyWaiting) := goodIn_app (goodIn_of _ (by decide +kernel)) ggX0_perform_X0_notifyWaiting
set_option maxRecDepth 20000 in
theorem ggX0_perform_X0_holdsLock : GoodIn wsX0_perform wsX0_holdsLock := goodIn_r _ [46, 29, 24, 34, 35, 36, 14, 37, 38, 25, 26, 27, 28, 47, 48, 49, 71, 72, 73, 74, 75, 76, 77, 78, 79, 80, 81, 82, 83, 84, 85, 86, 87] (by decide +kernel) (by decide +kernel)
set_option maxRecDepth 20000 in
theorem gX0_perform_X0_holdsLock : GoodIn wsX0_perform (wsV RX0 114 RX0 yX0_holdsLock wsX0_holdsLock) := goodIn_app (goodIn_of _ (by decide +kernel)) ggX0_perform_X0_holdsLock
set_option maxRecDepth 20000 in
theorem ggX0_perform_X0_awaitNotice : GoodIn wsX0_perform wsX0_awaitNotice := goodIn_r _ [53, 54, 55, 56, 57, 58, 29, 24, 34, 35, 36, 14, 37, 38, 25, 26, 27, 28, 59, 60, 61, 62, 4, 71, 72, 73, 74, 75, 76, 77, 78, 79, 80, 81, 82, 83, 84, 85, 86, 87] (by decide +kernel) (by decide +kernel)
set_option maxRecDepth 20000 in
theorem gX0_perform_X0_awaitNotice : GoodIn wsX0_perform (wsV RX0 117 RX0 yX0_awaitNotice wsX0_awaitNotice) := goodIn_app (goodIn_of _ (by decide +kernel)) ggX0_perform_X0_awaitNotice
set_option maxRecDepth 20000 in
theorem ggX0_perform_X0_takeFlag : GoodIn wsX0_perform wsX0_takeFlag := goodIn_r _ [62, 4, 71, 72, 73, 74, 75, 76, 77, 78, 79, 80, 81, 82, 83, 84, 85, 86, 87] (by decide +kernel) (by decide +kernel)
set_option maxRecDepth 20000 in
theorem gX0_perform_X0_takeFlag : GoodIn wsX0_perform (wsV RX0 120 RX0 yX0_takeFlag wsX0_takeFlag) := goodIn_app (goodIn_of _ (by decide +kernel)) ggX0_perform_X0_takeFlag
set_option maxRecDepth 20000 in
theorem ggX0_perform_X0_asNumber : GoodIn wsX0_perform wsX0_asNumber := goodIn_r _ [49] (by decide +kernel) (by decide +kernel)
set_option maxRecDepth 20000 in
theorem gX0_perform_X0_asNumber : GoodIn wsX0_perform (va_wsS RX0 78 yX0_asNumber wsX0_asNumber) := goodIn_app (goodIn_of _ (by decide +kernel)) ggX0_perform_X0_asNumber
set_option maxRecDepth 20000 in
theorem ggX0_perform_X0_sleep : GoodIn wsX0_perform wsX0_sleep := goodIn_r _ [66, 34, 35, 36, 14, 37, 38, 59, 60, 61, 62, 4, 71, 72, 73, 74, 75, 76, 77, 78, 79, 80, 81, 82, 83, 84, 85, 86, 87] (by decide +kernel) (by decide +kernel)
set_option maxRecDepth 20000 in
theorem gX0_perform_X0_sleep : GoodIn wsX0_perform (wsV RX0 124 RX0 yX0_sleep wsX0_sleep) := goodIn_app (goodIn_of _ (by decide +kernel)) ggX0_perform_X0_sleep
set_option maxRecDepth 20000 in
theorem ggX0_perform_X0_raise : GoodIn wsX0_perform wsX0_raise := goodIn_r _ [37, 38, 71, 72, 73, 74, 75, 76, 77, 78, 79, 80, 81, 82, 83, 84, 85, 86, 87] (by decide +kernel) (by decide +kernel)
set_option maxRecDepth 20000 in
theorem gX0_perform_X0_raise : GoodIn wsX0_perform (wsV RX0 127 RX0 yX0_raise wsX0_raise) := goodIn_app (goodIn_of _ (by decide +kernel)) ggX0_perform_X0_raise
set_option maxRecDepth 20000 in
theorem ggX0_perform_X0_start : GoodIn wsX0_perform wsX0_start := goodIn_r _ [70, 5, 6, 34, 35, 36, 14, 37, 38, 71, 72, 73, 74, 75, 76, 77, 78, 79, 80, 81, 82, 83, 84, 85, 86, 87] (by decide +kernel) (by decide +kernel)
set_option maxRecDepth 20000 in
theorem gX0_perform_X0_start : GoodIn wsX0_perform (wsV RX0 130 RX0 yX0_start wsX0_start) := goodIn_app (goodIn_of _ (by decide +kernel)) ggX0_perform_X0_start
theorem dX0_perform_0 : decode cX0_perform 0 = .ok (.aload_n 0, 1) := by decide +kernel
theorem dX0_perform_1 : decode cX0_perform 1 = .ok (.getfield 31, 3) := by decide +kernel
theorem dX0_perform_4 : decode cX0_perform 4 = .ok (.iload_n 1, 1) := by decide +kernel
theorem dX0_perform_5 : decode cX0_perform 5 = .ok (.iaload, 1) := by decide +kernel
theorem dX0_perform_6 : decode cX0_perform 6 = .ok (.istore_n 2, 1) := by decide +kernel
theorem dX0_perform_7 : decode cX0_perform 7 = .ok (.iload_n 2, 1) := by decide +kernel
theorem dX0_perform_8 : decode cX0_perform 8 = .ok (.iconst 5, 1) := by decide +kernel
theorem dX0_perform_9 : decode cX0_perform 9 = .ok (.invokestatic 99, 3) := by decide +kernel
theorem dX0_perform_12 : decode cX0_perform 12 = .ok (.istore_n 3, 1) := by decide +kernel
theorem dX0_perform_13 : decode cX0_perform 13 = .ok (.iload_n 2, 1) := by decide +kernel
theorem dX0_perform_14 : decode cX0_perform 14 = .ok (.iconst 4, 1) := by decide +kernel
theorem dX0_perform_15 : decode cX0_perform 15 = .ok (.invokestatic 99, 3) := by decide +kernel
theorem dX0_perform_18 : decode cX0_perform 18 = .ok (.istore 4, 2) := by decide +kernel
theorem dX0_perform_20 : decode cX0_perform 20 = .ok (.aload_n 0, 1) := by decide +kernel
theorem dX0_perform_21 : decode cX0_perform 21 = .ok (.getfield 28, 3) := by decide +kernel
theorem dX0_perform_24 : decode cX0_perform 24 = .ok (.iload_n 1, 1) := by decide +kernel
theorem dX0_perform_25 : decode cX0_perform 25 = .ok (.iaload, 1) := by decide +kernel
theorem dX0_perform_26 : decode cX0_perform 26 = .ok (.tableswitch 189 0 15 #[78, 89, 189, 95, 95, 101, 107, 113, 120, 128, 136, 142, 156, 163, 163, 174], 78) := by decide +kernel
theorem dX0_perform_104 : decode cX0_perform 104 = .ok (.aload_n 0, 1) := by decide +kernel
theorem dX0_perform_105 : decode cX0_perform 105 = .ok (.aload_n 0, 1) := by decide +kernel
theorem dX0_perform_106 : decode cX0_perform 106 = .ok (.getfield 34, 3) := by decide +kernel
theorem dX0_perform_109 : decode cX0_perform 109 = .ok (.iload_n 1, 1) := by decide +kernel
theorem dX0_perform_110 : decode cX0_perform 110 = .ok (.iaload, 1) := by decide +kernel
theorem dX0_perform_111 : decode cX0_perform 111 = .ok (.invokevirtual 105, 3) := by decide +kernel
theorem dX0_perform_114 : decode cX0_perform 114 = .ok (.ireturn, 1) := by decide +kernel
theorem dX0_perform_115 : decode cX0_perform 115 = .ok (.aload_n 0, 1) := by decide +kernel
theorem dX0_perform_116 : decode cX0_perform 116 = .ok (.iload_n 3, 1) := by decide +kernel
theorem dX0_perform_117 : decode cX0_perform 117 = .ok (.invokevirtual 108, 3) := by decide +kernel
theorem dX0_perform_120 : decode cX0_perform 120 = .ok (.ireturn, 1) := by decide +kernel
theorem dX0_perform_121 : decode cX0_perform 121 = .ok (.aload_n 0, 1) := by decide +kernel
theorem dX0_perform_122 : decode cX0_perform 122 = .ok (.iload_n 3, 1) := by decide +kernel
theorem dX0_perform_123 : decode cX0_perform 123 = .ok (.invokevirtual 111, 3) := by decide +kernel
theorem dX0_perform_126 : decode cX0_perform 126 = .ok (.ireturn, 1) := by decide +kernel
theorem dX0_perform_127 : decode cX0_perform 127 = .ok (.aload_n 0, 1) := by decide +kernel
theorem dX0_perform_128 : decode cX0_perform 128 = .ok (.iload_n 3, 1) := by decide +kernel
theorem dX0_perform_129 : decode cX0_perform 129 = .ok (.invokevirtual 114, 3) := by decide +kernel
theorem dX0_perform_132 : decode cX0_perform 132 = .ok (.ireturn, 1) := by decide +kernel
theorem dX0_perform_133 : decode cX0_perform 133 = .ok (.aload_n 0, 1) := by decide +kernel
theorem dX0_perform_134 : decode cX0_perform 134 = .ok (.iload_n 2, 1) := by decide +kernel
theorem dX0_perform_135 : decode cX0_perform 135 = .ok (.invokevirtual 117, 3) := by decide +kernel
theorem dX0_perform_138 : decode cX0_perform 138 = .ok (.ireturn, 1) := by decide +kernel
theorem dX0_perform_139 : decode cX0_perform 139 = .ok (.aload_n 0, 1) := by decide +kernel
theorem dX0_perform_140 : decode cX0_perform 140 = .ok (.iconst 1, 1) := by decide +kernel
theorem dX0_perform_141 : decode cX0_perform 141 = .ok (.putfield 24, 3) := by decide +kernel
theorem dX0_perform_144 : decode cX0_perform 144 = .ok (.iconst 0, 1) := by decide +kernel
theorem dX0_perform_145 : decode cX0_perform 145 = .ok (.ireturn, 1) := by decide +kernel
theorem dX0_perform_146 : decode cX0_perform 146 = .ok (.aload_n 0, 1) := by decide +kernel
theorem dX0_perform_147 : decode cX0_perform 147 = .ok (.invokevirtual 120, 3) := by decide +kernel
theorem dX0_perform_150 : decode cX0_perform 150 = .ok (.invokestatic 78, 3) := by decide +kernel
theorem dX0_perform_153 : decode cX0_perform 153 = .ok (.ireturn, 1) := by decide +kernel
theorem dX0_perform_154 : decode cX0_perform 154 = .ok (.aload_n 0, 1) := by decide +kernel
theorem dX0_perform_155 : decode cX0_perform 155 = .ok (.getfield 24, 3) := by decide +kernel
theorem dX0_perform_158 : decode cX0_perform 158 = .ok (.invokestatic 78, 3) := by decide +kernel
theorem dX0_perform_161 : decode cX0_perform 161 = .ok (.ireturn, 1) := by decide +kernel
theorem dX0_perform_162 : decode cX0_perform 162 = .ok (.aload_n 0, 1) := by decide +kernel
theorem dX0_perform_163 : decode cX0_perform 163 = .ok (.iload_n 2, 1) := by decide +kernel
theorem dX0_perform_164 : decode cX0_perform 164 = .ok (.invokevirtual 124, 3) := by decide +kernel
theorem dX0_perform_167 : decode cX0_perform 167 = .ok (.ireturn, 1) := by decide +kernel
theorem dX0_perform_168 : decode cX0_perform 168 = .ok (.aload_n 0, 1) := by decide +kernel
theorem dX0_perform_169 : decode cX0_perform 169 = .ok (.bipush 100, 2) := by decide +kernel
theorem dX0_perform_171 : decode cX0_perform 171 = .ok (.iload_n 2, 1) := by decide +kernel
theorem dX0_perform_172 : decode cX0_perform 172 = .ok (.bipush 100, 2) := by decide +kernel
theorem dX0_perform_174 : decode cX0_perform 174 = .ok (.invokestatic 99, 3) := by decide +kernel
theorem dX0_perform_177 : decode cX0_perform 177 = .ok (.iadd, 1) := by decide +kernel
theorem dX0_perform_178 : decode cX0_perform 178 = .ok (.invokevirtual 127, 3) := by decide +kernel
theorem dX0_perform_181 : decode cX0_perform 181 = .ok (.ireturn, 1) := by decide +kernel
theorem dX0_perform_182 : decode cX0_perform 182 = .ok (.aload_n 0, 1) := by decide +kernel
theorem dX0_perform_183 : decode cX0_perform 183 = .ok (.iload 4, 2) := by decide +kernel
theorem dX0_perform_185 : decode cX0_perform 185 = .ok (.invokevirtual 130, 3) := by decide +kernel
theorem dX0_perform_188 : decode cX0_perform 188 = .ok (.ireturn, 1) := by decide +kernel
theorem dX0_perform_189 : decode cX0_perform 189 = .ok (.aload_n 0, 1) := by decide +kernel
theorem dX0_perform_190 : decode cX0_perform 190 = .ok (.getfield 17, 3) := by decide +kernel
theorem dX0_perform_193 : decode cX0_perform 193 = .ok (.iload 4, 2) := by decide +kernel
theorem dX0_perform_195 : decode cX0_perform 195 = .ok (.baload, 1) := by decide +kernel
theorem dX0_perform_196 : decode cX0_perform 196 = .ok (.invokestatic 78, 3) := by decide +kernel
theorem dX0_perform_199 : decode cX0_perform 199 = .ok (.ireturn, 1) := by decide +kernel
theorem dX0_perform_200 : decode cX0_perform 200 = .ok (.aload_n 0, 1) := by decide +kernel
theorem dX0_perform_201 : decode cX0_perform 201 = .ok (.dup, 1) := by decide +kernel
theorem dX0_perform_202 : decode cX0_perform 202 = .ok (.getfield 21, 3) := by decide +kernel
theorem dX0_perform_205 : decode cX0_perform 205 = .ok (.iload_n 2, 1) := by decide +kernel
theorem dX0_perform_206 : decode cX0_perform 206 = .ok (.iadd, 1) := by decide +kernel
theorem dX0_perform_207 : decode cX0_perform 207 = .ok (.putfield 21, 3) := by decide +kernel
theorem dX0_perform_210 : decode cX0_perform 210 = .ok (.aload_n 0, 1) := by decide +kernel
theorem dX0_perform_211 : decode cX0_perform 211 = .ok (.getfield 21, 3) := by decide +kernel
theorem dX0_perform_214 : decode cX0_perform 214 = .ok (.ireturn, 1) := by decide +kernel
theorem dX0_perform_215 : decode cX0_perform 215 = .ok (.iconst 0, 1) := by decide +kernel
theorem dX0_perform_216 : decode cX0_perform 216 = .ok (.ireturn, 1) := by decide +kernel
theorem dX0_raise_0 : decode cX0_raise 0 = .ok (.aload_n 0, 1) := by decide +kernel
theorem dX0_raise_1 : decode cX0_raise 1 = .ok (.iload_n 1, 1) := by decide +kernel
theorem dX0_raise_2 : decode cX0_raise 2 = .ok (.putfield 58, 3) := by decide +kernel
theorem dX0_raise_5 : decode cX0_raise 5 = .ok (.iconst 0, 1) := by decide +kernel
theorem dX0_raise_6 : decode cX0_raise 6 = .ok (.ireturn, 1) := by decide +kernel
set_option maxRecDepth 20000 in
theorem ggX0_leaveBlocks_X0_isEnter : GoodIn wsX0_leaveBlocks wsX0_isEnter := goodIn_r _ [12, 13, 29, 30, 31, 32, 33, 34, 35, 36, 37, 38, 39, 40, 41, 42, 43, 44, 45] (by decide +kernel) (by decide +kernel)
set_option maxRecDepth 20000 in
theorem gX0_leaveBlocks_X0_isEnter : GoodIn wsX0_leaveBlocks (wsV RX0 133 RX0 yX0_isEnter wsX0_isEnter) := goodIn_app (goodIn_of _ (by decide +kernel)) ggX0_leaveBlocks_X0_isEnter
set_option maxRecDepth 20000 in
theorem ggX0_leaveBlocks_X0_giveBack : GoodIn wsX0_leaveBlocks wsX0_giveBack := goodIn_r _ [17, 18, 19, 20, 21, 22, 23, 24, 25, 26, 11, 27, 28, 29, 30, 31, 32, 33, 34, 35, 36, 37, 38, 39, 40, 41, 42, 43, 44, 45] (by decide +kernel) (by decide +kernel)
set_option maxRecDepth 20000 in
theorem gX0_leaveBlocks_X0_giveBack : GoodIn wsX0_leaveBlocks (wsV RX0 136 RX0 yX0_giveBack wsX0_giveBack) := goodIn_app (goodIn_of _ (by decide +kernel)) ggX0_leaveBlocks_X0_giveBack
theorem dX0_leaveBlocks_0 : decode cX0_leaveBlocks 0 = .ok (.aload_n 0, 1) := by decide +kernel
theorem dX0_leaveBlocks_1 : decode cX0_leaveBlocks 1 = .ok (.getfield 34, 3) := by decide +kernel
theorem dX0_leaveBlocks_4 : decode cX0_leaveBlocks 4 = .ok (.iload_n 1, 1) := by decide +kernel
theorem dX0_leaveBlocks_5 : decode cX0_leaveBlocks 5 = .ok (.iaload, 1) := by decide +kernel
theorem dX0_leaveBlocks_6 : decode cX0_leaveBlocks 6 = .ok (.istore_n 2, 1) := by decide +kernel
theorem dX0_leaveBlocks_7 : decode cX0_leaveBlocks 7 = .ok (.bipush 8, 2) := by decide +kernel
theorem dX0_leaveBlocks_9 : decode cX0_leaveBlocks 9 = .ok (.istore_n 3, 1) := by decide +kernel
theorem dX0_leaveBlocks_10 : decode cX0_leaveBlocks 10 = .ok (.iload_n 3, 1) := by decide +kernel
theorem dX0_leaveBlocks_11 : decode cX0_leaveBlocks 11 = .ok (.ifCond .le 30, 3) := by decide +kernel
theorem dX0_leaveBlocks_14 : decode cX0_leaveBlocks 14 = .ok (.aload_n 0, 1) := by decide +kernel
theorem dX0_leaveBlocks_15 : decode cX0_leaveBlocks 15 = .ok (.iload_n 2, 1) := by decide +kernel
theorem dX0_leaveBlocks_16 : decode cX0_leaveBlocks 16 = .ok (.invokevirtual 133, 3) := by decide +kernel
theorem dX0_leaveBlocks_19 : decode cX0_leaveBlocks 19 = .ok (.ifCond .eq 22, 3) := by decide +kernel
theorem dX0_leaveBlocks_22 : decode cX0_leaveBlocks 22 = .ok (.aload_n 0, 1) := by decide +kernel
theorem dX0_leaveBlocks_23 : decode cX0_leaveBlocks 23 = .ok (.iload_n 2, 1) := by decide +kernel
theorem dX0_leaveBlocks_24 : decode cX0_leaveBlocks 24 = .ok (.invokevirtual 136, 3) := by decide +kernel
theorem dX0_leaveBlocks_27 : decode cX0_leaveBlocks 27 = .ok (.pop, 1) := by decide +kernel
theorem dX0_leaveBlocks_28 : decode cX0_leaveBlocks 28 = .ok (.aload_n 0, 1) := by decide +kernel
theorem dX0_leaveBlocks_29 : decode cX0_leaveBlocks 29 = .ok (.getfield 34, 3) := by decide +kernel
theorem dX0_leaveBlocks_32 : decode cX0_leaveBlocks 32 = .ok (.iload_n 2, 1) := by decide +kernel
theorem dX0_leaveBlocks_33 : decode cX0_leaveBlocks 33 = .ok (.iaload, 1) := by decide +kernel
theorem dX0_leaveBlocks_34 : decode cX0_leaveBlocks 34 = .ok (.istore_n 2, 1) := by decide +kernel
theorem dX0_leaveBlocks_35 : decode cX0_leaveBlocks 35 = .ok (.iinc 3 (-1), 3) := by decide +kernel
theorem dX0_leaveBlocks_38 : decode cX0_leaveBlocks 38 = .ok (.goto (-28), 3) := by decide +kernel
theorem dX0_leaveBlocks_41 : decode cX0_leaveBlocks 41 = .ok (.iload_n 2, 1) := by decide +kernel
theorem dX0_leaveBlocks_42 : decode cX0_leaveBlocks 42 = .ok (.iconst (-1), 1) := by decide +kernel
theorem dX0_leaveBlocks_43 : decode cX0_leaveBlocks 43 = .ok (.if_icmp .ne 22, 3) := by decide +kernel
theorem dX0_leaveBlocks_46 : decode cX0_leaveBlocks 46 = .ok (.aload_n 0, 1) := by decide +kernel
theorem dX0_leaveBlocks_47 : decode cX0_leaveBlocks 47 = .ok (.aload_n 0, 1) := by decide +kernel
theorem dX0_leaveBlocks_48 : decode cX0_leaveBlocks 48 = .ok (.getfield 58, 3) := by decide +kernel
theorem dX0_leaveBlocks_51 : decode cX0_leaveBlocks 51 = .ok (.putfield 52, 3) := by decide +kernel
theorem dX0_leaveBlocks_54 : decode cX0_leaveBlocks 54 = .ok (.aload_n 0, 1) := by decide +kernel
theorem dX0_leaveBlocks_55 : decode cX0_leaveBlocks 55 = .ok (.aload_n 0, 1) := by decide +kernel
theorem dX0_leaveBlocks_56 : decode cX0_leaveBlocks 56 = .ok (.getfield 40, 3) := by decide +kernel
theorem dX0_leaveBlocks_59 : decode cX0_leaveBlocks 59 = .ok (.putfield 61, 3) := by decide +kernel
theorem dX0_leaveBlocks_62 : decode cX0_leaveBlocks 62 = .ok (.goto 25, 3) := by decide +kernel
theorem dX0_leaveBlocks_65 : decode cX0_leaveBlocks 65 = .ok (.aload_n 0, 1) := by decide +kernel
theorem dX0_leaveBlocks_66 : decode cX0_leaveBlocks 66 = .ok (.getfield 49, 3) := by decide +kernel
theorem dX0_leaveBlocks_69 : decode cX0_leaveBlocks 69 = .ok (.iload_n 2, 1) := by decide +kernel
theorem dX0_leaveBlocks_70 : decode cX0_leaveBlocks 70 = .ok (.aload_n 0, 1) := by decide +kernel
theorem dX0_leaveBlocks_71 : decode cX0_leaveBlocks 71 = .ok (.getfield 58, 3) := by decide +kernel
theorem dX0_leaveBlocks_74 : decode cX0_leaveBlocks 74 = .ok (.iastore, 1) := by decide +kernel
theorem dX0_leaveBlocks_75 : decode cX0_leaveBlocks 75 = .ok (.aload_n 0, 1) := by decide +kernel
theorem dX0_leaveBlocks_76 : decode cX0_leaveBlocks 76 = .ok (.aload_n 0, 1) := by decide +kernel
theorem dX0_leaveBlocks_77 : decode cX0_leaveBlocks 77 = .ok (.getfield 37, 3) := by decide +kernel
theorem dX0_leaveBlocks_80 : decode cX0_leaveBlocks 80 = .ok (.iload_n 2, 1) := by decide +kernel
theorem dX0_leaveBlocks_81 : decode cX0_leaveBlocks 81 = .ok (.iaload, 1) := by decide +kernel
theorem dX0_leaveBlocks_82 : decode cX0_leaveBlocks 82 = .ok (.iconst 1, 1) := by decide +kernel
theorem dX0_leaveBlocks_83 : decode cX0_leaveBlocks 83 = .ok (.iadd, 1) := by decide +kernel
theorem dX0_leaveBlocks_84 : decode cX0_leaveBlocks 84 = .ok (.putfield 61, 3) := by decide +kernel
theorem dX0_leaveBlocks_87 : decode cX0_leaveBlocks 87 = .ok (.return_, 1) := by decide +kernel
set_option maxRecDepth 20000 in
theorem ggX0_endBlock_X0_isEnter : GoodIn wsX0_endBlock wsX0_isEnter := goodIn_r _ [5, 6, 22, 23, 24, 25, 26, 27, 28, 29, 30, 31, 32, 33, 34, 35, 36, 37, 38] (by decide +kernel) (by decide +kernel)
set_option maxRecDepth 20000 in
theorem gX0_endBlock_X0_isEnter : GoodIn wsX0_endBlock (wsV RX0 133 RX0 yX0_isEnter wsX0_isEnter) := goodIn_app (goodIn_of _ (by decide +kernel)) ggX0_endBlock_X0_isEnter
set_option maxRecDepth 20000 in
theorem ggX0_endBlock_X0_giveBack : GoodIn wsX0_endBlock wsX0_giveBack := goodIn_r _ [10, 11, 12, 13, 14, 15, 16, 17, 18, 19, 4, 20, 21, 22, 23, 24, 25, 26, 27, 28, 29, 30, 31, 32, 33, 34, 35, 36, 37, 38] (by decide +kernel) (by decide +kernel)
set_option maxRecDepth 20000 in
theorem gX0_endBlock_X0_giveBack : GoodIn wsX0_endBlock (wsV RX0 136 RX0 yX0_giveBack wsX0_giveBack) := goodIn_app (goodIn_of _ (by decide +kernel)) ggX0_endBlock_X0_giveBack
theorem dX0_endBlock_0 : decode cX0_endBlock 0 = .ok (.aload_n 0, 1) := by decide +kernel
theorem dX0_endBlock_1 : decode cX0_endBlock 1 = .ok (.iload_n 1, 1) := by decide +kernel
theorem dX0_endBlock_2 : decode cX0_endBlock 2 = .ok (.invokevirtual 133, 3) := by decide +kernel
theorem dX0_endBlock_5 : decode cX0_endBlock 5 = .ok (.ifCond .eq 11, 3) := by decide +kernel
theorem dX0_endBlock_8 : decode cX0_endBlock 8 = .ok (.aload_n 0, 1) := by decide +kernel
theorem dX0_endBlock_9 : decode cX0_endBlock 9 = .ok (.iload_n 1, 1) := by decide +kernel
theorem dX0_endBlock_10 : decode cX0_endBlock 10 = .ok (.invokevirtual 136, 3) := by decide +kernel
theorem dX0_endBlock_13 : decode cX0_endBlock 13 = .ok (.goto 4, 3) := by decide +kernel
theorem dX0_endBlock_16 : decode cX0_endBlock 16 = .ok (.iconst 0, 1) := by decide +kernel
theorem dX0_endBlock_17 : decode cX0_endBlock 17 = .ok (.ireturn, 1) := by decide +kernel
theorem dX0_isEnter_0 : decode cX0_isEnter 0 = .ok (.iload_n 1, 1) := by decide +kernel
theorem dX0_isEnter_1 : decode cX0_isEnter 1 = .ok (.iconst (-1), 1) := by decide +kernel
theorem dX0_isEnter_2 : decode cX0_isEnter 2 = .ok (.if_icmp .eq 17, 3) := by decide +kernel
theorem dX0_isEnter_5 : decode cX0_isEnter 5 = .ok (.aload_n 0, 1) := by decide +kernel
theorem dX0_isEnter_6 : decode cX0_isEnter 6 = .ok (.getfield 28, 3) := by decide +kernel
theorem dX0_isEnter_9 : decode cX0_isEnter 9 = .ok (.iload_n 1, 1) := by decide +kernel
theorem dX0_isEnter_10 : decode cX0_isEnter 10 = .ok (.iaload, 1) := by decide +kernel
theorem dX0_isEnter_11 : decode cX0_isEnter 11 = .ok (.iconst 1, 1) := by decide +kernel
theorem dX0_isEnter_12 : decode cX0_isEnter 12 = .ok (.if_icmp .ne 7, 3) := by decide +kernel
theorem dX0_isEnter_15 : decode cX0_isEnter 15 = .ok (.iconst 1, 1) := by decide +kernel
theorem dX0_isEnter_16 : decode cX0_isEnter 16 = .ok (.goto 4, 3) := by decide +kernel
theorem dX0_isEnter_19 : decode cX0_isEnter 19 = .ok (.iconst 0, 1) := by decide +kernel
theorem dX0_isEnter_20 : decode cX0_isEnter 20 = .ok (.ireturn, 1) := by decide +kernel
set_option maxRecDepth 20000 in
theorem ggX0_giveBack_J9_floorMod_7cf53 : GoodIn wsX0_giveBack wsJ9_floorMod_7cf53 := goodIn_r _ [6] (by decide +kernel) (by decide +kernel)
set_option maxRecDepth 20000 in
theorem gX0_giveBack_J9_floorMod_7cf53 : GoodIn wsX0_giveBack (va_wsS RX0 99 yJ9_floorMod_7cf53 wsJ9_floorMod_7cf53) := goodIn_app (goodIn_of _ (by decide +kernel)) ggX0_giveBack_J9_floorMod_7cf53
set_option maxRecDepth 20000 in
theorem ggX0_giveBack_X0_leastHandle : GoodIn wsX0_giveBack wsX0_leastHandle := goodIn_r _ [11, 12, 13, 14, 15, 16, 17, 18, 19, 20, 21, 22, 23, 24, 25, 26, 27, 28, 29] (by decide +kernel) (by decide +kernel)
set_option maxRecDepth 20000 in
theorem gX0_giveBack_X0_leastHandle : GoodIn wsX0_giveBack (wsV RX0 90 RX0 yX0_leastHandle wsX0_leastHandle) := goodIn_app (goodIn_of _ (by decide +kernel)) ggX0_giveBack_X0_leastHandle
theorem dX0_giveBack_0 : decode cX0_giveBack 0 = .ok (.aload_n 0, 1) := by decide +kernel
theorem dX0_giveBack_1 : decode cX0_giveBack 1 = .ok (.aload_n 0, 1) := by decide +kernel
theorem dX0_giveBack_2 : decode cX0_giveBack 2 = .ok (.getfield 31, 3) := by decide +kernel
theorem dX0_giveBack_5 : decode cX0_giveBack 5 = .ok (.iload_n 1, 1) := by decide +kernel
theorem dX0_giveBack_6 : decode cX0_giveBack 6 = .ok (.iaload, 1) := by decide +kernel
theorem dX0_giveBack_7 : decode cX0_giveBack 7 = .ok (.iconst 5, 1) := by decide +kernel
theorem dX0_giveBack_8 : decode cX0_giveBack 8 = .ok (.invokestatic 99, 3) := by decide +kernel
theorem dX0_giveBack_11 : decode cX0_giveBack 11 = .ok (.invokevirtual 90, 3) := by decide +kernel
theorem dX0_giveBack_14 : decode cX0_giveBack 14 = .ok (.istore_n 2, 1) := by decide +kernel
theorem dX0_giveBack_15 : decode cX0_giveBack 15 = .ok (.aload_n 0, 1) := by decide +kernel
theorem dX0_giveBack_16 : decode cX0_giveBack 16 = .ok (.getfield 55, 3) := by decide +kernel
theorem dX0_giveBack_19 : decode cX0_giveBack 19 = .ok (.iload_n 2, 1) := by decide +kernel
theorem dX0_giveBack_20 : decode cX0_giveBack 20 = .ok (.dup2, 1) := by decide +kernel
theorem dX0_giveBack_21 : decode cX0_giveBack 21 = .ok (.iaload, 1) := by decide +kernel
theorem dX0_giveBack_22 : decode cX0_giveBack 22 = .ok (.iconst 1, 1) := by decide +kernel
theorem dX0_giveBack_23 : decode cX0_giveBack 23 = .ok (.isub, 1) := by decide +kernel
theorem dX0_giveBack_24 : decode cX0_giveBack 24 = .ok (.iastore, 1) := by decide +kernel
theorem dX0_giveBack_25 : decode cX0_giveBack 25 = .ok (.aload_n 0, 1) := by decide +kernel
theorem dX0_giveBack_26 : decode cX0_giveBack 26 = .ok (.getfield 55, 3) := by decide +kernel
theorem dX0_giveBack_29 : decode cX0_giveBack 29 = .ok (.iload_n 2, 1) := by decide +kernel
theorem dX0_giveBack_30 : decode cX0_giveBack 30 = .ok (.iaload, 1) := by decide +kernel
theorem dX0_giveBack_31 : decode cX0_giveBack 31 = .ok (.ireturn, 1) := by decide +kernel
set_option maxRecDepth 20000 in
theorem ggX0_enter_X0_raise : GoodIn wsX0_enter wsX0_raise := goodIn_r _ [7, 8, 13, 14, 15, 16, 17, 18, 19, 20, 21, 22, 23, 24, 25, 26, 27, 28, 29] (by decide +kernel) (by decide +kernel)
set_option maxRecDepth 20000 in
theorem gX0_enter_X0_raise : GoodIn wsX0_enter (wsV RX0 127 RX0 yX0_raise wsX0_raise) := goodIn_app (goodIn_of _ (by decide +kernel)) ggX0_enter_X0_raise
set_option maxRecDepth 20000 in
theorem ggX0_enter_X0_leastHandle : GoodIn wsX0_enter wsX0_leastHandle := goodIn_r _ [12, 1, 13, 14, 15, 16, 17, 18, 19, 20, 21, 22, 23, 24, 25, 26, 27, 28, 29] (by decide +kernel) (by decide +kernel)
set_option maxRecDepth 20000 in
theorem gX0_enter_X0_leastHandle : GoodIn wsX0_enter (wsV RX0 90 RX0 yX0_leastHandle wsX0_leastHandle) := goodIn_app (goodIn_of _ (by decide +kernel)) ggX0_enter_X0_leastHandle
theorem dX0_enter_0 : decode cX0_enter 0 = .ok (.aload_n 0, 1) := by decide +kernel
theorem dX0_enter_1 : decode cX0_enter 1 = .ok (.getfield 9, 3) := by decide +kernel
theorem dX0_enter_4 : decode cX0_enter 4 = .ok (.iload_n 1, 1) := by decide +kernel
theorem dX0_enter_5 : decode cX0_enter 5 = .ok (.iaload, 1) := by decide +kernel
theorem dX0_enter_6 : decode cX0_enter 6 = .ok (.ifCond .ne 9, 3) := by decide +kernel
theorem dX0_enter_9 : decode cX0_enter 9 = .ok (.aload_n 0, 1) := by decide +kernel
theorem dX0_enter_10 : decode cX0_enter 10 = .ok (.iconst 1, 1) := by decide +kernel
theorem dX0_enter_11 : decode cX0_enter 11 = .ok (.invokevirtual 127, 3) := by decide +kernel
theorem dX0_enter_14 : decode cX0_enter 14 = .ok (.ireturn, 1) := by decide +kernel
theorem dX0_enter_15 : decode cX0_enter 15 = .ok (.aload_n 0, 1) := by decide +kernel
theorem dX0_enter_16 : decode cX0_enter 16 = .ok (.iload_n 1, 1) := by decide +kernel
theorem dX0_enter_17 : decode cX0_enter 17 = .ok (.invokevirtual 90, 3) := by decide +kernel
theorem dX0_enter_20 : decode cX0_enter 20 = .ok (.istore_n 2, 1) := by decide +kernel
theorem dX0_enter_21 : decode cX0_enter 21 = .ok (.aload_n 0, 1) := by decide +kernel
theorem dX0_enter_22 : decode cX0_enter 22 = .ok (.getfield 55, 3) := by decide +kernel
theorem dX0_enter_25 : decode cX0_enter 25 = .ok (.iload_n 2, 1) := by decide +kernel
theorem dX0_enter_26 : decode cX0_enter 26 = .ok (.dup2, 1) := by decide +kernel
theorem dX0_enter_27 : decode cX0_enter 27 = .ok (.iaload, 1) := by decide +kernel
theorem dX0_enter_28 : decode cX0_enter 28 = .ok (.iconst 1, 1) := by decide +kernel
theorem dX0_enter_29 : decode cX0_enter 29 = .ok (.iadd, 1) := by decide +kernel
theorem dX0_enter_30 : decode cX0_enter 30 = .ok (.iastore, 1) := by decide +kernel
theorem dX0_enter_31 : decode cX0_enter 31 = .ok (.aload_n 0, 1) := by decide +kernel
theorem dX0_enter_32 : decode cX0_enter 32 = .ok (.getfield 55, 3) := by decide +kernel
theorem dX0_enter_35 : decode cX0_enter 35 = .ok (.iload_n 2, 1) := by decide +kernel
theorem dX0_enter_36 : decode cX0_enter 36 = .ok (.iaload, 1) := by decide +kernel
theorem dX0_enter_37 : decode cX0_enter 37 = .ok (.ireturn, 1) := by decide +kernel
set_option maxRecDepth 20000 in
theorem ggX0_notifyWaiting_X0_raise : GoodIn wsX0_notifyWaiting wsX0_raise := goodIn_r _ [7, 8, 13, 14, 15, 16, 17, 18, 19, 20, 21, 22, 23, 24, 25, 26, 27, 28, 29] (by decide +kernel) (by decide +kernel)
set_option maxRecDepth 20000 in
theorem gX0_notifyWaiting_X0_raise : GoodIn wsX0_notifyWaiting (wsV RX0 127 RX0 yX0_raise wsX0_raise) := goodIn_app (goodIn_of _ (by decide +kernel)) ggX0_notifyWaiting_X0_raise
set_option maxRecDepth 20000 in
theorem ggX0_notifyWaiting_X0_leastHandle : GoodIn wsX0_notifyWaiting wsX0_leastHandle := goodIn_r _ [12, 1, 13, 14, 15, 16, 17, 18, 19, 20, 21, 22, 23, 24, 25, 26, 27, 28, 29] (by decide +kernel) (by decide +kernel)
set_option maxRecDepth 20000 in
theorem gX0_notifyWaiting_X0_leastHandle : GoodIn wsX0_notifyWaiting (wsV RX0 90 RX0 yX0_leastHandle wsX0_leastHandle) := goodIn_app (goodIn_of _ (by decide +kernel)) ggX0_notifyWaiting_X0_leastHandle
theorem dX0_notifyWaiting_0 : decode cX0_notifyWaiting 0 = .ok (.aload_n 0, 1) := by decide +kernel
theorem dX0_notifyWaiting_1 : decode cX0_notifyWaiting 1 = .ok (.getfield 9, 3) := by decide +kernel
theorem dX0_notifyWaiting_4 : decode cX0_notifyWaiting 4 = .ok (.iload_n 1, 1) := by decide +kernel
theorem dX0_notifyWaiting_5 : decode cX0_notifyWaiting 5 = .ok (.iaload, 1) := by decide +kernel
theorem dX0_notifyWaiting_6 : decode cX0_notifyWaiting 6 = .ok (.ifCond .ne 9, 3) := by decide +kernel
theorem dX0_notifyWaiting_9 : decode cX0_notifyWaiting 9 = .ok (.aload_n 0, 1) := by decide +kernel
theorem dX0_notifyWaiting_10 : decode cX0_notifyWaiting 10 = .ok (.iconst 1, 1) := by decide +kernel
theorem dX0_notifyWaiting_11 : decode cX0_notifyWaiting 11 = .ok (.invokevirtual 127, 3) := by decide +kernel
theorem dX0_notifyWaiting_14 : decode cX0_notifyWaiting 14 = .ok (.ireturn, 1) := by decide +kernel
theorem dX0_notifyWaiting_15 : decode cX0_notifyWaiting 15 = .ok (.aload_n 0, 1) := by decide +kernel
theorem dX0_notifyWaiting_16 : decode cX0_notifyWaiting 16 = .ok (.getfield 55, 3) := by decide +kernel
theorem dX0_notifyWaiting_19 : decode cX0_notifyWaiting 19 = .ok (.aload_n 0, 1) := by decide +kernel
theorem dX0_notifyWaiting_20 : decode cX0_notifyWaiting 20 = .ok (.iload_n 1, 1) := by decide +kernel
theorem dX0_notifyWaiting_21 : decode cX0_notifyWaiting 21 = .ok (.invokevirtual 90, 3) := by decide +kernel
theorem dX0_notifyWaiting_24 : decode cX0_notifyWaiting 24 = .ok (.iaload, 1) := by decide +kernel
theorem dX0_notifyWaiting_25 : decode cX0_notifyWaiting 25 = .ok (.ifCond .ne 9, 3) := by decide +kernel
theorem dX0_notifyWaiting_28 : decode cX0_notifyWaiting 28 = .ok (.aload_n 0, 1) := by decide +kernel
theorem dX0_notifyWaiting_29 : decode cX0_notifyWaiting 29 = .ok (.iconst 2, 1) := by decide +kernel
theorem dX0_notifyWaiting_30 : decode cX0_notifyWaiting 30 = .ok (.invokevirtual 127, 3) := by decide +kernel
theorem dX0_notifyWaiting_33 : decode cX0_notifyWaiting 33 = .ok (.ireturn, 1) := by decide +kernel
theorem dX0_notifyWaiting_34 : decode cX0_notifyWaiting 34 = .ok (.iconst 0, 1) := by decide +kernel
theorem dX0_notifyWaiting_35 : decode cX0_notifyWaiting 35 = .ok (.ireturn, 1) := by decide +kernel
set_option maxRecDepth 20000 in
theorem ggX0_holdsLock_X0_raise : GoodIn wsX0_holdsLock wsX0_raise := goodIn_r _ [7, 8, 16, 17, 18, 19, 20, 21, 22, 23, 24, 25, 26, 27, 28, 29, 30, 31, 32] (by decide +kernel) (by decide +kernel)
set_option maxRecDepth 20000 in
theorem gX0_holdsLock_X0_raise : GoodIn wsX0_holdsLock (wsV RX0 127 RX0 yX0_raise wsX0_raise) := goodIn_app (goodIn_of _ (by decide +kernel)) ggX0_holdsLock_X0_raise
set_option maxRecDepth 20000 in
theorem ggX0_holdsLock_X0_leastHandle : GoodIn wsX0_holdsLock wsX0_leastHandle := goodIn_r _ [12, 1, 16, 17, 18, 19, 20, 21, 22, 23, 24, 25, 26, 27, 28, 29, 30, 31, 32] (by decide +kernel) (by decide +kernel)
set_option maxRecDepth 20000 in
theorem gX0_holdsLock_X0_leastHandle : GoodIn wsX0_holdsLock (wsV RX0 90 RX0 yX0_leastHandle wsX0_leastHandle) := goodIn_app (goodIn_of _ (by decide +kernel)) ggX0_holdsLock_X0_leastHandle
set_option maxRecDepth 20000 in
theorem ggX0_holdsLock_X0_asNumber : GoodIn wsX0_holdsLock wsX0_asNumber := goodIn_r _ [15] (by decide +kernel) (by decide +kernel)
set_option maxRecDepth 20000 in
theorem gX0_holdsLock_X0_asNumber : GoodIn wsX0_holdsLock (va_wsS RX0 78 yX0_asNumber wsX0_asNumber) := goodIn_app (goodIn_of _ (by decide +kernel)) ggX0_holdsLock_X0_asNumber
theorem dX0_holdsLock_0 : decode cX0_holdsLock 0 = .ok (.aload_n 0, 1) := by decide +kernel
theorem dX0_holdsLock_1 : decode cX0_holdsLock 1 = .ok (.getfield 9, 3) := by decide +kernel
theorem dX0_holdsLock_4 : decode cX0_holdsLock 4 = .ok (.iload_n 1, 1) := by decide +kernel
theorem dX0_holdsLock_5 : decode cX0_holdsLock 5 = .ok (.iaload, 1) := by decide +kernel
theorem dX0_holdsLock_6 : decode cX0_holdsLock 6 = .ok (.ifCond .ne 9, 3) := by decide +kernel
theorem dX0_holdsLock_9 : decode cX0_holdsLock 9 = .ok (.aload_n 0, 1) := by decide +kernel
theorem dX0_holdsLock_10 : decode cX0_holdsLock 10 = .ok (.iconst 1, 1) := by decide +kernel
theorem dX0_holdsLock_11 : decode cX0_holdsLock 11 = .ok (.invokevirtual 127, 3) := by decide +kernel
theorem dX0_holdsLock_14 : decode cX0_holdsLock 14 = .ok (.ireturn, 1) := by decide +kernel
theorem dX0_holdsLock_15 : decode cX0_holdsLock 15 = .ok (.aload_n 0, 1) := by decide +kernel
theorem dX0_holdsLock_16 : decode cX0_holdsLock 16 = .ok (.getfield 55, 3) := by decide +kernel
theorem dX0_holdsLock_19 : decode cX0_holdsLock 19 = .ok (.aload_n 0, 1) := by decide +kernel
theorem dX0_holdsLock_20 : decode cX0_holdsLock 20 = .ok (.iload_n 1, 1) := by decide +kernel
theorem dX0_holdsLock_21 : decode cX0_holdsLock 21 = .ok (.invokevirtual 90, 3) := by decide +kernel
theorem dX0_holdsLock_24 : decode cX0_holdsLock 24 = .ok (.iaload, 1) := by decide +kernel
theorem dX0_holdsLock_25 : decode cX0_holdsLock 25 = .ok (.ifCond .le 7, 3) := by decide +kernel
theorem dX0_holdsLock_28 : decode cX0_holdsLock 28 = .ok (.iconst 1, 1) := by decide +kernel
theorem dX0_holdsLock_29 : decode cX0_holdsLock 29 = .ok (.goto 4, 3) := by decide +kernel
theorem dX0_holdsLock_32 : decode cX0_holdsLock 32 = .ok (.iconst 0, 1) := by decide +kernel
theorem dX0_holdsLock_33 : decode cX0_holdsLock 33 = .ok (.invokestatic 78, 3) := by decide +kernel
theorem dX0_holdsLock_36 : decode cX0_holdsLock 36 = .ok (.ireturn, 1) := by decide +kernel
set_option maxRecDepth 20000 in
theorem ggX0_awaitNotice_X0_raise : GoodIn wsX0_awaitNotice wsX0_raise := goodIn_r _ [12, 13, 23, 24, 25, 26, 27, 28, 29, 30, 31, 32, 33, 34, 35, 36, 37, 38, 39] (by decide +kernel) (by decide +kernel)
set_option maxRecDepth 20000 in
theorem gX0_awaitNotice_X0_raise : GoodIn wsX0_awaitNotice (wsV RX0 127 RX0 yX0_raise wsX0_raise) := goodIn_app (goodIn_of _ (by decide +kernel)) ggX0_awaitNotice_X0_raise
set_option maxRecDepth 20000 in
theorem ggX0_awaitNotice_X0_leastHandle : GoodIn wsX0_awaitNotice wsX0_leastHandle := goodIn_r _ [17, 6, 23, 24, 25, 26, 27, 28, 29, 30, 31, 32, 33, 34, 35, 36, 37, 38, 39] (by decide +kernel) (by decide +kernel)
set_option maxRecDepth 20000 in
theorem gX0_awaitNotice_X0_leastHandle : GoodIn wsX0_awaitNotice (wsV RX0 90 RX0 yX0_leastHandle wsX0_leastHandle) := goodIn_app (goodIn_of _ (by decide +kernel)) ggX0_awaitNotice_X0_leastHandle
set_option maxRecDepth 20000 in
theorem ggX0_awaitNotice_X0_takeFlag : GoodIn wsX0_awaitNotice wsX0_takeFlag := goodIn_r _ [21, 22, 23, 24, 25, 26, 27, 28, 29, 30, 31, 32, 33, 34, 35, 36, 37, 38, 39] (by decide +kernel) (by decide +kernel)
set_option maxRecDepth 20000 in
theorem gX0_awaitNotice_X0_takeFlag : GoodIn wsX0_awaitNotice (wsV RX0 120 RX0 yX0_takeFlag wsX0_takeFlag) := goodIn_app (goodIn_of _ (by decide +kernel)) ggX0_awaitNotice_X0_takeFlag
theorem dX0_awaitNotice_0 : decode cX0_awaitNotice 0 = .ok (.iload_n 1, 1) := by decide +kernel
theorem dX0_awaitNotice_1 : decode cX0_awaitNotice 1 = .ok (.ldc 141, 2) := by decide +kernel
theorem dX0_awaitNotice_3 : decode cX0_awaitNotice 3 = .ok (.if_icmp .ne 7, 3) := by decide +kernel
theorem dX0_awaitNotice_6 : decode cX0_awaitNotice 6 = .ok (.iconst 0, 1) := by decide +kernel
theorem dX0_awaitNotice_7 : decode cX0_awaitNotice 7 = .ok (.goto 9, 3) := by decide +kernel
theorem dX0_awaitNotice_10 : decode cX0_awaitNotice 10 = .ok (.iload_n 1, 1) := by decide +kernel
theorem dX0_awaitNotice_11 : decode cX0_awaitNotice 11 = .ok (.invokestatic 142, 3) := by decide +kernel
theorem dX0_awaitNotice_14 : decode cX0_awaitNotice 14 = .ok (.iconst 5, 1) := by decide +kernel
theorem dX0_awaitNotice_15 : decode cX0_awaitNotice 15 = .ok (.irem, 1) := by decide +kernel
theorem dX0_awaitNotice_16 : decode cX0_awaitNotice 16 = .ok (.istore_n 2, 1) := by decide +kernel
theorem dX0_awaitNotice_17 : decode cX0_awaitNotice 17 = .ok (.aload_n 0, 1) := by decide +kernel
theorem dX0_awaitNotice_18 : decode cX0_awaitNotice 18 = .ok (.getfield 9, 3) := by decide +kernel
theorem dX0_awaitNotice_21 : decode cX0_awaitNotice 21 = .ok (.iload_n 2, 1) := by decide +kernel
theorem dX0_awaitNotice_22 : decode cX0_awaitNotice 22 = .ok (.iaload, 1) := by decide +kernel
theorem dX0_awaitNotice_23 : decode cX0_awaitNotice 23 = .ok (.ifCond .ne 9, 3) := by decide +kernel
theorem dX0_awaitNotice_26 : decode cX0_awaitNotice 26 = .ok (.aload_n 0, 1) := by decide +kernel
theorem dX0_awaitNotice_27 : decode cX0_awaitNotice 27 = .ok (.iconst 1, 1) := by decide +kernel
theorem dX0_awaitNotice_28 : decode cX0_awaitNotice 28 = .ok (.invokevirtual 127, 3) := by decide +kernel
theorem dX0_awaitNotice_31 : decode cX0_awaitNotice 31 = .ok (.ireturn, 1) := by decide +kernel
theorem dX0_awaitNotice_32 : decode cX0_awaitNotice 32 = .ok (.iload_n 1, 1) := by decide +kernel
theorem dX0_awaitNotice_33 : decode cX0_awaitNotice 33 = .ok (.ifCond .ge 9, 3) := by decide +kernel
theorem dX0_awaitNotice_36 : decode cX0_awaitNotice 36 = .ok (.aload_n 0, 1) := by decide +kernel
theorem dX0_awaitNotice_37 : decode cX0_awaitNotice 37 = .ok (.iconst 3, 1) := by decide +kernel
theorem dX0_awaitNotice_38 : decode cX0_awaitNotice 38 = .ok (.invokevirtual 127, 3) := by decide +kernel
theorem dX0_awaitNotice_41 : decode cX0_awaitNotice 41 = .ok (.ireturn, 1) := by decide +kernel
theorem dX0_awaitNotice_42 : decode cX0_awaitNotice 42 = .ok (.aload_n 0, 1) := by decide +kernel
theorem dX0_awaitNotice_43 : decode cX0_awaitNotice 43 = .ok (.getfield 55, 3) := by decide +kernel
theorem dX0_awaitNotice_46 : decode cX0_awaitNotice 46 = .ok (.aload_n 0, 1) := by decide +kernel
theorem dX0_awaitNotice_47 : decode cX0_awaitNotice 47 = .ok (.iload_n 2, 1) := by decide +kernel
theorem dX0_awaitNotice_48 : decode cX0_awaitNotice 48 = .ok (.invokevirtual 90, 3) := by decide +kernel
theorem dX0_awaitNotice_51 : decode cX0_awaitNotice 51 = .ok (.iaload, 1) := by decide +kernel
theorem dX0_awaitNotice_52 : decode cX0_awaitNotice 52 = .ok (.ifCond .ne 9, 3) := by decide +kernel
theorem dX0_awaitNotice_55 : decode cX0_awaitNotice 55 = .ok (.aload_n 0, 1) := by decide +kernel
theorem dX0_awaitNotice_56 : decode cX0_awaitNotice 56 = .ok (.iconst 2, 1) := by decide +kernel
theorem dX0_awaitNotice_57 : decode cX0_awaitNotice 57 = .ok (.invokevirtual 127, 3) := by decide +kernel
theorem dX0_awaitNotice_60 : decode cX0_awaitNotice 60 = .ok (.ireturn, 1) := by decide +kernel
theorem dX0_awaitNotice_61 : decode cX0_awaitNotice 61 = .ok (.aload_n 0, 1) := by decide +kernel
theorem dX0_awaitNotice_62 : decode cX0_awaitNotice 62 = .ok (.invokevirtual 120, 3) := by decide +kernel
theorem dX0_awaitNotice_65 : decode cX0_awaitNotice 65 = .ok (.ifCond .eq 11, 3) := by decide +kernel
theorem dX0_awaitNotice_68 : decode cX0_awaitNotice 68 = .ok (.aload_n 0, 1) := by decide +kernel
theorem dX0_awaitNotice_69 : decode cX0_awaitNotice 69 = .ok (.iconst 4, 1) := by decide +kernel
theorem dX0_awaitNotice_70 : decode cX0_awaitNotice 70 = .ok (.invokevirtual 127, 3) := by decide +kernel
theorem dX0_awaitNotice_73 : decode cX0_awaitNotice 73 = .ok (.goto 5, 3) := by decide +kernel
theorem dX0_awaitNotice_76 : decode cX0_awaitNotice 76 = .ok (.bipush (-2), 2) := by decide +kernel
theorem dX0_awaitNotice_78 : decode cX0_awaitNotice 78 = .ok (.ireturn, 1) := by decide +kernel
set_option maxRecDepth 20000 in
theorem ggX0_sleep_X0_raise : GoodIn wsX0_sleep wsX0_raise := goodIn_r _ [5, 6, 12, 13, 14, 15, 16, 17, 18, 19, 20, 21, 22, 23, 24, 25, 26, 27, 28] (by decide +kernel) (by decide +kernel)
set_option maxRecDepth 20000 in
theorem gX0_sleep_X0_raise : GoodIn wsX0_sleep (wsV RX0 127 RX0 yX0_raise wsX0_raise) := goodIn_app (goodIn_of _ (by decide +kernel)) ggX0_sleep_X0_raise
set_option maxRecDepth 20000 in
theorem ggX0_sleep_X0_takeFlag : GoodIn wsX0_sleep wsX0_takeFlag := goodIn_r _ [10, 11, 12, 13, 14, 15, 16, 17, 18, 19, 20, 21, 22, 23, 24, 25, 26, 27, 28] (by decide +kernel) (by decide +kernel)
set_option maxRecDepth 20000 in
theorem gX0_sleep_X0_takeFlag : GoodIn wsX0_sleep (wsV RX0 120 RX0 yX0_takeFlag wsX0_takeFlag) := goodIn_app (goodIn_of _ (by decide +kernel)) ggX0_sleep_X0_takeFlag
theorem dX0_sleep_0 : decode cX0_sleep 0 = .ok (.iload_n 1, 1) := by decide +kernel
theorem dX0_sleep_1 : decode cX0_sleep 1 = .ok (.ifCond .ge 9, 3) := by decide +kernel
theorem dX0_sleep_4 : decode cX0_sleep 4 = .ok (.aload_n 0, 1) := by decide +kernel
theorem dX0_sleep_5 : decode cX0_sleep 5 = .ok (.iconst 3, 1) := by decide +kernel
theorem dX0_sleep_6 : decode cX0_sleep 6 = .ok (.invokevirtual 127, 3) := by decide +kernel
theorem dX0_sleep_9 : decode cX0_sleep 9 = .ok (.ireturn, 1) := by decide +kernel
theorem dX0_sleep_10 : decode cX0_sleep 10 = .ok (.aload_n 0, 1) := by decide +kernel
theorem dX0_sleep_11 : decode cX0_sleep 11 = .ok (.invokevirtual 120, 3) := by decide +kernel
theorem dX0_sleep_14 : decode cX0_sleep 14 = .ok (.ifCond .eq 11, 3) := by decide +kernel
theorem dX0_sleep_17 : decode cX0_sleep 17 = .ok (.aload_n 0, 1) := by decide +kernel
theorem dX0_sleep_18 : decode cX0_sleep 18 = .ok (.iconst 4, 1) := by decide +kernel
theorem dX0_sleep_19 : decode cX0_sleep 19 = .ok (.invokevirtual 127, 3) := by decide +kernel
theorem dX0_sleep_22 : decode cX0_sleep 22 = .ok (.goto 4, 3) := by decide +kernel
theorem dX0_sleep_25 : decode cX0_sleep 25 = .ok (.iconst 0, 1) := by decide +kernel
theorem dX0_sleep_26 : decode cX0_sleep 26 = .ok (.ireturn, 1) := by decide +kernel
theorem dX0_takeFlag_0 : decode cX0_takeFlag 0 = .ok (.aload_n 0, 1) := by decide +kernel
theorem dX0_takeFlag_1 : decode cX0_takeFlag 1 = .ok (.getfield 24, 3) := by decide +kernel
theorem dX0_takeFlag_4 : decode cX0_takeFlag 4 = .ok (.istore_n 1, 1) := by decide +kernel
theorem dX0_takeFlag_5 : decode cX0_takeFlag 5 = .ok (.aload_n 0, 1) := by decide +kernel
theorem dX0_takeFlag_6 : decode cX0_takeFlag 6 = .ok (.iconst 0, 1) := by decide +kernel
theorem dX0_takeFlag_7 : decode cX0_takeFlag 7 = .ok (.putfield 24, 3) := by decide +kernel
theorem dX0_takeFlag_10 : decode cX0_takeFlag 10 = .ok (.iload_n 1, 1) := by decide +kernel
theorem dX0_takeFlag_11 : decode cX0_takeFlag 11 = .ok (.ireturn, 1) := by decide +kernel
set_option maxRecDepth 20000 in
theorem ggX0_start_X0_raise : GoodIn wsX0_start wsX0_raise := goodIn_r _ [7, 8, 9, 10, 11, 12, 13, 14, 15, 16, 17, 18, 19, 20, 21, 22, 23, 24, 25] (by decide +kernel) (by decide +kernel)
set_option maxRecDepth 20000 in
theorem gX0_start_X0_raise : GoodIn wsX0_start (wsV RX0 127 RX0 yX0_raise wsX0_raise) := goodIn_app (goodIn_of _ (by decide +kernel)) ggX0_start_X0_raise
theorem dX0_start_0 : decode cX0_start 0 = .ok (.aload_n 0, 1) := by decide +kernel
theorem dX0_start_1 : decode cX0_start 1 = .ok (.getfield 17, 3) := by decide +kernel
theorem dX0_start_4 : decode cX0_start 4 = .ok (.iload_n 1, 1) := by decide +kernel
theorem dX0_start_5 : decode cX0_start 5 = .ok (.baload, 1) := by decide +kernel
theorem dX0_start_6 : decode cX0_start 6 = .ok (.ifCond .eq 9, 3) := by decide +kernel
theorem dX0_start_9 : decode cX0_start 9 = .ok (.aload_n 0, 1) := by decide +kernel
theorem dX0_start_10 : decode cX0_start 10 = .ok (.iconst 5, 1) := by decide +kernel
theorem dX0_start_11 : decode cX0_start 11 = .ok (.invokevirtual 127, 3) := by decide +kernel
theorem dX0_start_14 : decode cX0_start 14 = .ok (.ireturn, 1) := by decide +kernel
theorem dX0_start_15 : decode cX0_start 15 = .ok (.aload_n 0, 1) := by decide +kernel
theorem dX0_start_16 : decode cX0_start 16 = .ok (.getfield 17, 3) := by decide +kernel
theorem dX0_start_19 : decode cX0_start 19 = .ok (.iload_n 1, 1) := by decide +kernel
theorem dX0_start_20 : decode cX0_start 20 = .ok (.iconst 1, 1) := by decide +kernel
theorem dX0_start_21 : decode cX0_start 21 = .ok (.bastore, 1) := by decide +kernel
theorem dX0_start_22 : decode cX0_start 22 = .ok (.aload_n 0, 1) := by decide +kernel
theorem dX0_start_23 : decode cX0_start 23 = .ok (.dup, 1) := by decide +kernel
theorem dX0_start_24 : decode cX0_start 24 = .ok (.getfield 21, 3) := by decide +kernel
theorem dX0_start_27 : decode cX0_start 27 = .ok (.iload_n 1, 1) := by decide +kernel
theorem dX0_start_28 : decode cX0_start 28 = .ok (.iconst 1, 1) := by decide +kernel
theorem dX0_start_29 : decode cX0_start 29 = .ok (.iadd, 1) := by decide +kernel
theorem dX0_start_30 : decode cX0_start 30 = .ok (.iadd, 1) := by decide +kernel
theorem dX0_start_31 : decode cX0_start 31 = .ok (.putfield 21, 3) := by decide +kernel
theorem dX0_start_34 : decode cX0_start 34 = .ok (.iconst 0, 1) := by decide +kernel
theorem dX0_start_35 : decode cX0_start 35 = .ok (.ireturn, 1) := by decide +kernel
theorem dJ9_floorMod_7cf53_0 : decode cJ9_floorMod_7cf53 0 = .ok (.iload_n 0, 1) := by decide +kernel
theorem dJ9_floorMod_7cf53_1 : decode cJ9_floorMod_7cf53 1 = .ok (.iload_n 1, 1) := by decide +kernel
theorem dJ9_floorMod_7cf53_2 : decode cJ9_floorMod_7cf53 2 = .ok (.irem, 1) := by decide +kernel
theorem dJ9_floorMod_7cf53_3 : decode cJ9_floorMod_7cf53 3 = .ok (.istore_n 2, 1) := by decide +kernel
theorem dJ9_floorMod_7cf53_4 : decode cJ9_floorMod_7cf53 4 = .ok (.iload_n 0, 1) := by decide +kernel
theorem dJ9_floorMod_7cf53_5 : decode cJ9_floorMod_7cf53 5 = .ok (.iload_n 1, 1) := by decide +kernel
theorem dJ9_floorMod_7cf53_6 : decode cJ9_floorMod_7cf53 6 = .ok (.ixor, 1) := by decide +kernel
theorem dJ9_floorMod_7cf53_7 : decode cJ9_floorMod_7cf53 7 = .ok (.ifCond .ge 11, 3) := by decide +kernel
theorem dJ9_floorMod_7cf53_10 : decode cJ9_floorMod_7cf53 10 = .ok (.iload_n 2, 1) := by decide +kernel
theorem dJ9_floorMod_7cf53_11 : decode cJ9_floorMod_7cf53 11 = .ok (.ifCond .eq 7, 3) := by decide +kernel
theorem dJ9_floorMod_7cf53_14 : decode cJ9_floorMod_7cf53 14 = .ok (.iload_n 2, 1) := by decide +kernel
theorem dJ9_floorMod_7cf53_15 : decode cJ9_floorMod_7cf53 15 = .ok (.iload_n 1, 1) := by decide +kernel
theorem dJ9_floorMod_7cf53_16 : decode cJ9_floorMod_7cf53 16 = .ok (.iadd, 1) := by decide +kernel
theorem dJ9_floorMod_7cf53_17 : decode cJ9_floorMod_7cf53 17 = .ok (.ireturn, 1) := by decide +kernel
theorem dJ9_floorMod_7cf53_18 : decode cJ9_floorMod_7cf53 18 = .ok (.iload_n 2, 1) := by decide +kernel
theorem dJ9_floorMod_7cf53_19 : decode cJ9_floorMod_7cf53 19 = .ok (.ireturn, 1) := by decide +kernel
theorem dJ9_abs_0f7a4_0 : decode cJ9_abs_0f7a4 0 = .ok (.iload_n 0, 1) := by decide +kernel
theorem dJ9_abs_0f7a4_1 : decode cJ9_abs_0f7a4 1 = .ok (.ifCond .ge 8, 3) := by decide +kernel
theorem dJ9_abs_0f7a4_4 : decode cJ9_abs_0f7a4 4 = .ok (.iload_n 0, 1) := by decide +kernel
theorem dJ9_abs_0f7a4_5 : decode cJ9_abs_0f7a4 5 = .ok (.ineg, 1) := by decide +kernel
theorem dJ9_abs_0f7a4_6 : decode cJ9_abs_0f7a4 6 = .ok (.goto 4, 3) := by decide +kernel
theorem dJ9_abs_0f7a4_9 : decode cJ9_abs_0f7a4 9 = .ok (.iload_n 0, 1) := by decide +kernel
theorem dJ9_abs_0f7a4_10 : decode cJ9_abs_0f7a4 10 = .ok (.ireturn, 1) := by decide +kernel
theorem dJ7_fill_53178_0 : decode cJ7_fill_53178 0 = .ok (.iconst 0, 1) := by decide +kernel
theorem dJ7_fill_53178_1 : decode cJ7_fill_53178 1 = .ok (.istore_n 2, 1) := by decide +kernel
theorem dJ7_fill_53178_2 : decode cJ7_fill_53178 2 = .ok (.aload_n 0, 1) := by decide +kernel
theorem dJ7_fill_53178_3 : decode cJ7_fill_53178 3 = .ok (.arraylength, 1) := by decide +kernel
theorem dJ7_fill_53178_4 : decode cJ7_fill_53178 4 = .ok (.istore_n 3, 1) := by decide +kernel
theorem dJ7_fill_53178_5 : decode cJ7_fill_53178 5 = .ok (.iload_n 2, 1) := by decide +kernel
theorem dJ7_fill_53178_6 : decode cJ7_fill_53178 6 = .ok (.iload_n 3, 1) := by decide +kernel
theorem dJ7_fill_53178_7 : decode cJ7_fill_53178 7 = .ok (.if_icmp .ge 13, 3) := by decide +kernel
theorem dJ7_fill_53178_10 : decode cJ7_fill_53178 10 = .ok (.aload_n 0, 1) := by decide +kernel
theorem dJ7_fill_53178_11 : decode cJ7_fill_53178 11 = .ok (.iload_n 2, 1) := by decide +kernel
theorem dJ7_fill_53178_12 : decode cJ7_fill_53178 12 = .ok (.iload_n 1, 1) := by decide +kernel
theorem dJ7_fill_53178_13 : decode cJ7_fill_53178 13 = .ok (.iastore, 1) := by decide +kernel
theorem dJ7_fill_53178_14 : decode cJ7_fill_53178 14 = .ok (.iinc 2 1, 3) := by decide +kernel
theorem dJ7_fill_53178_17 : decode cJ7_fill_53178 17 = .ok (.goto (-12), 3) := by decide +kernel
theorem dJ7_fill_53178_20 : decode cJ7_fill_53178 20 = .ok (.return_, 1) := by decide +kernel
set_option maxRecDepth 20000 in
theorem ggL_type_X0_state : GoodIn wsL_type wsX0_state := goodIn_r _ [5, 6, 7, 8, 9, 10, 11, 4, 12, 13, 14, 15, 16, 17, 18, 19, 20, 21, 22, 23, 24, 25, 26, 39, 40, 41, 42, 43, 44, 45, 46, 47, 48, 49, 50, 51, 52, 53, 54, 55] (by decide +kernel) (by decide +kernel)
set_option maxRecDepth 20000 in
theorem gL_type_X0_state : GoodIn wsL_type (wsV RL 7 RX0 yX0_state wsX0_state) := goodIn_app (goodIn_of _ (by decide +kernel)) ggL_type_X0_state
set_option maxRecDepth 20000 in
theorem ggL_type_X0_step : GoodIn wsL_type wsX0_step := goodIn_r _ [30, 6, 31, 7, 32, 33, 34, 35, 36, 37, 4, 38, 39, 40, 41, 42, 43, 44, 45, 46, 47, 48, 49, 50, 51, 52, 53, 54, 55] (by decide +kernel) (by decide +kernel)
set_option maxRecDepth 20000 in
theorem gL_type_X0_step : GoodIn wsL_type (wsV RL 13 RX0 yX0_step wsX0_step) := goodIn_app (goodIn_of _ (by decide +kernel)) ggL_type_X0_step
theorem dL_type_0 : decode cL_type 0 = .ok (.iconst 0, 1) := by decide +kernel
theorem dL_type_1 : decode cL_type 1 = .ok (.istore 4, 2) := by decide +kernel
theorem dL_type_3 : decode cL_type 3 = .ok (.iload_n 2, 1) := by decide +kernel
theorem dL_type_4 : decode cL_type 4 = .ok (.istore 5, 2) := by decide +kernel
theorem dL_type_6 : decode cL_type 6 = .ok (.iload 5, 2) := by decide +kernel
theorem dL_type_8 : decode cL_type 8 = .ok (.iconst 2, 1) := by decide +kernel
theorem dL_type_9 : decode cL_type 9 = .ok (.iadd, 1) := by decide +kernel
theorem dL_type_10 : decode cL_type 10 = .ok (.iload_n 3, 1) := by decide +kernel
theorem dL_type_11 : decode cL_type 11 = .ok (.if_icmp .gt 153, 3) := by decide +kernel
theorem dL_type_14 : decode cL_type 14 = .ok (.aload_n 1, 1) := by decide +kernel
theorem dL_type_15 : decode cL_type 15 = .ok (.iload 5, 2) := by decide +kernel
theorem dL_type_17 : decode cL_type 17 = .ok (.iaload, 1) := by decide +kernel
theorem dL_type_18 : decode cL_type 18 = .ok (.bipush 31, 2) := by decide +kernel
theorem dL_type_20 : decode cL_type 20 = .ok (.iand, 1) := by decide +kernel
theorem dL_type_21 : decode cL_type 21 = .ok (.istore 6, 2) := by decide +kernel
theorem dL_type_23 : decode cL_type 23 = .ok (.iload 6, 2) := by decide +kernel
theorem dL_type_25 : decode cL_type 25 = .ok (.bipush 16, 2) := by decide +kernel
theorem dL_type_27 : decode cL_type 27 = .ok (.if_icmp .ge 8, 3) := by decide +kernel
theorem dL_type_30 : decode cL_type 30 = .ok (.iload 6, 2) := by decide +kernel
theorem dL_type_32 : decode cL_type 32 = .ok (.goto 72, 3) := by decide +kernel
theorem dL_type_35 : decode cL_type 35 = .ok (.iload 6, 2) := by decide +kernel
theorem dL_type_37 : decode cL_type 37 = .ok (.bipush 20, 2) := by decide +kernel
theorem dL_type_39 : decode cL_type 39 = .ok (.if_icmp .ge 7, 3) := by decide +kernel
theorem dL_type_42 : decode cL_type 42 = .ok (.iconst 0, 1) := by decide +kernel
theorem dL_type_43 : decode cL_type 43 = .ok (.goto 61, 3) := by decide +kernel
theorem dL_type_46 : decode cL_type 46 = .ok (.iload 6, 2) := by decide +kernel
theorem dL_type_48 : decode cL_type 48 = .ok (.bipush 23, 2) := by decide +kernel
theorem dL_type_50 : decode cL_type 50 = .ok (.if_icmp .ge 7, 3) := by decide +kernel
theorem dL_type_53 : decode cL_type 53 = .ok (.iconst 1, 1) := by decide +kernel
theorem dL_type_54 : decode cL_type 54 = .ok (.goto 50, 3) := by decide +kernel
theorem dL_type_57 : decode cL_type 57 = .ok (.iload 6, 2) := by decide +kernel
theorem dL_type_59 : decode cL_type 59 = .ok (.bipush 26, 2) := by decide +kernel
theorem dL_type_61 : decode cL_type 61 = .ok (.if_icmp .ge 7, 3) := by decide +kernel
theorem dL_type_64 : decode cL_type 64 = .ok (.iconst 2, 1) := by decide +kernel
theorem dL_type_65 : decode cL_type 65 = .ok (.goto 39, 3) := by decide +kernel
theorem dL_type_68 : decode cL_type 68 = .ok (.iload 6, 2) := by decide +kernel
theorem dL_type_70 : decode cL_type 70 = .ok (.bipush 28, 2) := by decide +kernel
theorem dL_type_72 : decode cL_type 72 = .ok (.if_icmp .ge 7, 3) := by decide +kernel
theorem dL_type_75 : decode cL_type 75 = .ok (.iconst 3, 1) := by decide +kernel
theorem dL_type_76 : decode cL_type 76 = .ok (.goto 28, 3) := by decide +kernel
theorem dL_type_79 : decode cL_type 79 = .ok (.iload 6, 2) := by decide +kernel
theorem dL_type_81 : decode cL_type 81 = .ok (.bipush 29, 2) := by decide +kernel
theorem dL_type_83 : decode cL_type 83 = .ok (.if_icmp .ge 8, 3) := by decide +kernel
theorem dL_type_86 : decode cL_type 86 = .ok (.bipush 6, 2) := by decide +kernel
theorem dL_type_88 : decode cL_type 88 = .ok (.goto 16, 3) := by decide +kernel
theorem dL_type_91 : decode cL_type 91 = .ok (.iload 6, 2) := by decide +kernel
theorem dL_type_93 : decode cL_type 93 = .ok (.bipush 31, 2) := by decide +kernel
theorem dL_type_95 : decode cL_type 95 = .ok (.if_icmp .ge 7, 3) := by decide +kernel
theorem dL_type_98 : decode cL_type 98 = .ok (.iconst 5, 1) := by decide +kernel
theorem dL_type_99 : decode cL_type 99 = .ok (.goto 5, 3) := by decide +kernel
theorem dL_type_102 : decode cL_type 102 = .ok (.bipush 11, 2) := by decide +kernel
theorem dL_type_104 : decode cL_type 104 = .ok (.istore 7, 2) := by decide +kernel
theorem dL_type_106 : decode cL_type 106 = .ok (.aload_n 0, 1) := by decide +kernel
theorem dL_type_107 : decode cL_type 107 = .ok (.iconst 0, 1) := by decide +kernel
theorem dL_type_108 : decode cL_type 108 = .ok (.invokevirtual 7, 3) := by decide +kernel
theorem dL_type_111 : decode cL_type 111 = .ok (.aload_n 0, 1) := by decide +kernel
theorem dL_type_112 : decode cL_type 112 = .ok (.iconst 1, 1) := by decide +kernel
theorem dL_type_113 : decode cL_type 113 = .ok (.invokevirtual 7, 3) := by decide +kernel
theorem dL_type_116 : decode cL_type 116 = .ok (.iadd, 1) := by decide +kernel
theorem dL_type_117 : decode cL_type 117 = .ok (.bipush 22, 2) := by decide +kernel
theorem dL_type_119 : decode cL_type 119 = .ok (.if_icmp .ge 39, 3) := by decide +kernel
theorem dL_type_122 : decode cL_type 122 = .ok (.aload_n 0, 1) := by decide +kernel
theorem dL_type_123 : decode cL_type 123 = .ok (.iload 7, 2) := by decide +kernel
theorem dL_type_125 : decode cL_type 125 = .ok (.aload_n 1, 1) := by decide +kernel
theorem dL_type_126 : decode cL_type 126 = .ok (.iload 5, 2) := by decide +kernel
theorem dL_type_128 : decode cL_type 128 = .ok (.iaload, 1) := by decide +kernel
theorem dL_type_129 : decode cL_type 129 = .ok (.bipush 32, 2) := by decide +kernel
theorem dL_type_131 : decode cL_type 131 = .ok (.iand, 1) := by decide +kernel
theorem dL_type_132 : decode cL_type 132 = .ok (.ifCond .eq 12, 3) := by decide +kernel
theorem dL_type_135 : decode cL_type 135 = .ok (.aload_n 1, 1) := by decide +kernel
theorem dL_type_136 : decode cL_type 136 = .ok (.iload 5, 2) := by decide +kernel
theorem dL_type_138 : decode cL_type 138 = .ok (.iconst 1, 1) := by decide +kernel
theorem dL_type_139 : decode cL_type 139 = .ok (.iadd, 1) := by decide +kernel
theorem dL_type_140 : decode cL_type 140 = .ok (.iaload, 1) := by decide +kernel
theorem dL_type_141 : decode cL_type 141 = .ok (.goto 12, 3) := by decide +kernel
theorem dL_type_144 : decode cL_type 144 = .ok (.aload_n 1, 1) := by decide +kernel
theorem dL_type_145 : decode cL_type 145 = .ok (.iload 5, 2) := by decide +kernel
theorem dL_type_147 : decode cL_type 147 = .ok (.iconst 1, 1) := by decide +kernel
theorem dL_type_148 : decode cL_type 148 = .ok (.iadd, 1) := by decide +kernel
theorem dL_type_149 : decode cL_type 149 = .ok (.iaload, 1) := by decide +kernel
theorem dL_type_150 : decode cL_type 150 = .ok (.bipush 7, 2) := by decide +kernel
theorem dL_type_152 : decode cL_type 152 = .ok (.iand, 1) := by decide +kernel
theorem dL_type_153 : decode cL_type 153 = .ok (.invokevirtual 13, 3) := by decide +kernel
theorem dL_type_156 : decode cL_type 156 = .ok (.istore 4, 2) := by decide +kernel
theorem dL_type_158 : decode cL_type 158 = .ok (.iinc 5 2, 3) := by decide +kernel
theorem dL_type_161 : decode cL_type 161 = .ok (.goto (-155), 3) := by decide +kernel
theorem dL_type_164 : decode cL_type 164 = .ok (.aload_n 0, 1) := by decide +kernel
theorem dL_type_165 : decode cL_type 165 = .ok (.iconst 1, 1) := by decide +kernel
theorem dL_type_166 : decode cL_type 166 = .ok (.invokevirtual 7, 3) := by decide +kernel
theorem dL_type_169 : decode cL_type 169 = .ok (.ifCond .le 14, 3) := by decide +kernel
theorem dL_type_172 : decode cL_type 172 = .ok (.aload_n 0, 1) := by decide +kernel
theorem dL_type_173 : decode cL_type 173 = .ok (.iconst 0, 1) := by decide +kernel
theorem dL_type_174 : decode cL_type 174 = .ok (.iconst 0, 1) := by decide +kernel
theorem dL_type_175 : decode cL_type 175 = .ok (.invokevirtual 13, 3) := by decide +kernel
theorem dL_type_178 : decode cL_type 178 = .ok (.istore 4, 2) := by decide +kernel
theorem dL_type_180 : decode cL_type 180 = .ok (.goto (-16), 3) := by decide +kernel
theorem dL_type_183 : decode cL_type 183 = .ok (.return_, 1) := by decide +kernel
set_option maxRecDepth 20000 in
theorem ggL_free_X0_clear : GoodIn wsL_free wsX0_clear := goodIn_r _ [5, 6, 7, 8, 129, 130, 131, 132, 133, 134, 135, 136, 137, 138, 139, 140, 141, 142, 143, 144, 145] (by decide +kernel) (by decide +kernel)
set_option maxRecDepth 20000 in
theorem gL_free_X0_clear : GoodIn wsL_free (wsV RL 17 RX0 yX0_clear wsX0_clear) := goodIn_app (goodIn_of _ (by decide +kernel)) ggL_free_X0_clear
set_option maxRecDepth 20000 in
theorem ggL_free_X0_step : GoodIn wsL_free wsX0_step := goodIn_r _ [12, 6, 8, 7, 13, 14, 15, 16, 17, 18, 4, 19, 129, 130, 131, 132, 133, 134, 135, 136, 137, 138, 139, 140, 141, 142, 143, 144, 145] (by decide +kernel) (by decide +kernel)
set_option maxRecDepth 20000 in
theorem gL_free_X0_step : GoodIn wsL_free (wsV RL 13 RX0 yX0_step wsX0_step) := goodIn_app (goodIn_of _ (by decide +kernel)) ggL_free_X0_step
set_option maxRecDepth 20000 in
theorem ggL_free_X0_run : GoodIn wsL_free wsX0_run := goodIn_r _ [23, 7, 24, 25, 26, 27, 6, 28, 29, 30, 31, 32, 33, 34, 4, 35, 36, 37, 38, 39, 40, 14, 13, 15, 41, 42, 43, 44, 45, 46, 47, 48, 49, 50, 51, 52, 53, 54, 55, 56, 57, 58, 59, 60, 61, 62, 63, 64, 65, 66, 67, 68, 69, 70, 71, 72, 73, 74, 75, 76, 77, 78, 79, 80, 81, 82, 83, 84, 85, 86, 87, 88, 89, 90, 91, 92, 93, 94, 95, 96, 97, 98, 99, 100, 101, 102, 103, 104, 105, 106, 107, 108, 16, 129, 130, 131, 132, 133, 134, 135, 136, 137, 138, 139, 140, 141, 142, 143, 144, 145] (by decide +kernel) (by decide +kernel)
set_option maxRecDepth 20000 in
theorem gL_free_X0_run : GoodIn wsL_free (wsV RL 21 RX0 yX0_run wsX0_run) := goodIn_app (goodIn_of _ (by decide +kernel)) ggL_free_X0_run
set_option maxRecDepth 20000 in
theorem ggL_free_X0_state : GoodIn wsL_free wsX0_state := goodIn_r _ [112, 6, 7, 43, 41, 81, 82, 4, 83, 113, 114, 115, 116, 42, 117, 118, 119, 120, 64, 60, 61, 62, 63, 129, 130, 131, 132, 133, 134, 135, 136, 137, 138, 139, 140, 141, 142, 143, 144, 145] (by decide +kernel) (by decide +kernel)
set_option maxRecDepth 20000 in
theorem gL_free_X0_state : GoodIn wsL_free (wsV RL 7 RX0 yX0_state wsX0_state) := goodIn_app (goodIn_of _ (by decide +kernel)) ggL_free_X0_state
set_option maxRecDepth 20000 in
theorem ggL_free_X0_result : GoodIn wsL_free wsX0_result := goodIn_r _ [124, 24, 129, 130, 131, 132, 133, 134, 135, 136, 137, 138, 139, 140, 141, 142, 143, 144, 145] (by decide +kernel) (by decide +kernel)
set_option maxRecDepth 20000 in
theorem gL_free_X0_result : GoodIn wsL_free (wsV RL 24 RX0 yX0_result wsX0_result) := goodIn_app (goodIn_of _ (by decide +kernel)) ggL_free_X0_result
set_option maxRecDepth 20000 in
theorem ggL_free_X0_failure : GoodIn wsL_free wsX0_failure := goodIn_r _ [128, 26, 129, 130, 131, 132, 133, 134, 135, 136, 137, 138, 139, 140, 141, 142, 143, 144, 145] (by decide +kernel) (by decide +kernel)
set_option maxRecDepth 20000 in
theorem gL_free_X0_failure : GoodIn wsL_free (wsV RL 27 RX0 yX0_failure wsX0_failure) := goodIn_app (goodIn_of _ (by decide +kernel)) ggL_free_X0_failure
theorem dL_free_0 : decode cL_free 0 = .ok (.aload_n 0, 1) := by decide +kernel
theorem dL_free_1 : decode cL_free 1 = .ok (.invokevirtual 17, 3) := by decide +kernel
theorem dL_free_4 : decode cL_free 4 = .ok (.ifCond .lt 43, 3) := by decide +kernel
theorem dL_free_7 : decode cL_free 7 = .ok (.aload_n 0, 1) := by decide +kernel
theorem dL_free_8 : decode cL_free 8 = .ok (.iconst 5, 1) := by decide +kernel
theorem dL_free_9 : decode cL_free 9 = .ok (.iload_n 1, 1) := by decide +kernel
theorem dL_free_10 : decode cL_free 10 = .ok (.invokevirtual 13, 3) := by decide +kernel
theorem dL_free_13 : decode cL_free 13 = .ok (.iconst 1, 1) := by decide +kernel
theorem dL_free_14 : decode cL_free 14 = .ok (.if_icmp .ne 33, 3) := by decide +kernel
theorem dL_free_17 : decode cL_free 17 = .ok (.aload_n 0, 1) := by decide +kernel
theorem dL_free_18 : decode cL_free 18 = .ok (.iconst 2, 1) := by decide +kernel
theorem dL_free_19 : decode cL_free 19 = .ok (.iconst 0, 1) := by decide +kernel
theorem dL_free_20 : decode cL_free 20 = .ok (.invokevirtual 13, 3) := by decide +kernel
theorem dL_free_23 : decode cL_free 23 = .ok (.iconst 2, 1) := by decide +kernel
theorem dL_free_24 : decode cL_free 24 = .ok (.if_icmp .ne 23, 3) := by decide +kernel
theorem dL_free_27 : decode cL_free 27 = .ok (.aload_n 0, 1) := by decide +kernel
theorem dL_free_28 : decode cL_free 28 = .ok (.iconst 3, 1) := by decide +kernel
theorem dL_free_29 : decode cL_free 29 = .ok (.iload_n 1, 1) := by decide +kernel
theorem dL_free_30 : decode cL_free 30 = .ok (.invokevirtual 13, 3) := by decide +kernel
theorem dL_free_33 : decode cL_free 33 = .ok (.iconst 3, 1) := by decide +kernel
theorem dL_free_34 : decode cL_free 34 = .ok (.if_icmp .ne 13, 3) := by decide +kernel
theorem dL_free_37 : decode cL_free 37 = .ok (.aload_n 0, 1) := by decide +kernel
theorem dL_free_38 : decode cL_free 38 = .ok (.iconst 0, 1) := by decide +kernel
theorem dL_free_39 : decode cL_free 39 = .ok (.iconst 0, 1) := by decide +kernel
theorem dL_free_40 : decode cL_free 40 = .ok (.invokevirtual 13, 3) := by decide +kernel
theorem dL_free_43 : decode cL_free 43 = .ok (.iconst 4, 1) := by decide +kernel
theorem dL_free_44 : decode cL_free 44 = .ok (.if_icmp .eq 5, 3) := by decide +kernel
theorem dL_free_47 : decode cL_free 47 = .ok (.iconst 0, 1) := by decide +kernel
theorem dL_free_48 : decode cL_free 48 = .ok (.ireturn, 1) := by decide +kernel
theorem dL_free_49 : decode cL_free 49 = .ok (.aload_n 0, 1) := by decide +kernel
theorem dL_free_50 : decode cL_free 50 = .ok (.invokevirtual 21, 3) := by decide +kernel
theorem dL_free_53 : decode cL_free 53 = .ok (.istore_n 2, 1) := by decide +kernel
theorem dL_free_54 : decode cL_free 54 = .ok (.aload_n 0, 1) := by decide +kernel
theorem dL_free_55 : decode cL_free 55 = .ok (.iconst 5, 1) := by decide +kernel
theorem dL_free_56 : decode cL_free 56 = .ok (.iload_n 1, 1) := by decide +kernel
theorem dL_free_57 : decode cL_free 57 = .ok (.iadd, 1) := by decide +kernel
theorem dL_free_58 : decode cL_free 58 = .ok (.invokevirtual 7, 3) := by decide +kernel
theorem dL_free_61 : decode cL_free 61 = .ok (.ifCond .ge 33, 3) := by decide +kernel
theorem dL_free_64 : decode cL_free 64 = .ok (.iload_n 2, 1) := by decide +kernel
theorem dL_free_65 : decode cL_free 65 = .ok (.iconst 1, 1) := by decide +kernel
theorem dL_free_66 : decode cL_free 66 = .ok (.if_icmp .ne 26, 3) := by decide +kernel
theorem dL_free_69 : decode cL_free 69 = .ok (.aload_n 0, 1) := by decide +kernel
theorem dL_free_70 : decode cL_free 70 = .ok (.iconst 0, 1) := by decide +kernel
theorem dL_free_71 : decode cL_free 71 = .ok (.invokevirtual 24, 3) := by decide +kernel
theorem dL_free_74 : decode cL_free 74 = .ok (.sipush (-999), 3) := by decide +kernel
theorem dL_free_77 : decode cL_free 77 = .ok (.if_icmp .ne 15, 3) := by decide +kernel
theorem dL_free_80 : decode cL_free 80 = .ok (.aload_n 0, 1) := by decide +kernel
theorem dL_free_81 : decode cL_free 81 = .ok (.invokevirtual 27, 3) := by decide +kernel
theorem dL_free_84 : decode cL_free 84 = .ok (.iconst 1, 1) := by decide +kernel
theorem dL_free_85 : decode cL_free 85 = .ok (.if_icmp .ne 7, 3) := by decide +kernel
theorem dL_free_88 : decode cL_free 88 = .ok (.iconst 1, 1) := by decide +kernel
theorem dL_free_89 : decode cL_free 89 = .ok (.goto 4, 3) := by decide +kernel
theorem dL_free_92 : decode cL_free 92 = .ok (.iconst 0, 1) := by decide +kernel
theorem dL_free_93 : decode cL_free 93 = .ok (.ireturn, 1) := by decide +kernel
theorem dL_free_94 : decode cL_free 94 = .ok (.iload_n 2, 1) := by decide +kernel
theorem dL_free_95 : decode cL_free 95 = .ok (.iconst 3, 1) := by decide +kernel
theorem dL_free_96 : decode cL_free 96 = .ok (.if_icmp .ne 33, 3) := by decide +kernel
theorem dL_free_99 : decode cL_free 99 = .ok (.aload_n 0, 1) := by decide +kernel
theorem dL_free_100 : decode cL_free 100 = .ok (.iconst 0, 1) := by decide +kernel
theorem dL_free_101 : decode cL_free 101 = .ok (.invokevirtual 24, 3) := by decide +kernel
theorem dL_free_104 : decode cL_free 104 = .ok (.ifCond .ne 25, 3) := by decide +kernel
theorem dL_free_107 : decode cL_free 107 = .ok (.aload_n 0, 1) := by decide +kernel
theorem dL_free_108 : decode cL_free 108 = .ok (.iconst 2, 1) := by decide +kernel
theorem dL_free_109 : decode cL_free 109 = .ok (.invokevirtual 24, 3) := by decide +kernel
theorem dL_free_112 : decode cL_free 112 = .ok (.sipush (-998), 3) := by decide +kernel
theorem dL_free_115 : decode cL_free 115 = .ok (.if_icmp .ne 14, 3) := by decide +kernel
theorem dL_free_118 : decode cL_free 118 = .ok (.aload_n 0, 1) := by decide +kernel
theorem dL_free_119 : decode cL_free 119 = .ok (.invokevirtual 27, 3) := by decide +kernel
theorem dL_free_122 : decode cL_free 122 = .ok (.ifCond .ne 7, 3) := by decide +kernel
theorem dL_free_125 : decode cL_free 125 = .ok (.iconst 1, 1) := by decide +kernel
theorem dL_free_126 : decode cL_free 126 = .ok (.goto 4, 3) := by decide +kernel
theorem dL_free_129 : decode cL_free 129 = .ok (.iconst 0, 1) := by decide +kernel
theorem dL_free_130 : decode cL_free 130 = .ok (.ireturn, 1) := by decide +kernel
set_option maxRecDepth 20000 in
theorem ggL_law_X0_init : GoodIn wsL_law wsX0_init := goodIn_r _ [5, 6, 7, 8, 9, 10, 11, 12, 13, 14, 15, 16, 17, 18, 19, 20, 21, 22, 23, 24, 25, 26, 27, 28, 29, 30, 31, 150, 151, 152, 153, 154, 155, 156, 157, 158, 159, 160, 161, 162, 163, 164, 165, 166] (by decide +kernel) (by decide +kernel)
set_option maxRecDepth 20000 in
theorem gL_law_X0_init : GoodIn wsL_law (wsX0_init) := ggL_law_X0_init
set_option maxRecDepth 20000 in
theorem ggL_law_X0_hold : GoodIn wsL_law wsX0_hold := goodIn_r _ [35, 11, 10, 150, 151, 152, 153, 154, 155, 156, 157, 158, 159, 160, 161, 162, 163, 164, 165, 166] (by decide +kernel) (by decide +kernel)
set_option maxRecDepth 20000 in
theorem gL_law_X0_hold : GoodIn wsL_law (wsV RL 31 RX0 yX0_hold wsX0_hold) := goodIn_app (goodIn_of _ (by decide +kernel)) ggL_law_X0_hold
set_option maxRecDepth 20000 in
theorem ggL_law_X0_clear : GoodIn wsL_law wsX0_clear := goodIn_r _ [39, 20, 21, 22, 150, 151, 152, 153, 154, 155, 156, 157, 158, 159, 160, 161, 162, 163, 164, 165, 166] (by decide +kernel) (by decide +kernel)
set_option maxRecDepth 20000 in
theorem gL_law_X0_clear : GoodIn wsL_law (wsV RL 17 RX0 yX0_clear wsX0_clear) := goodIn_app (goodIn_of _ (by decide +kernel)) ggL_law_X0_clear
set_option maxRecDepth 20000 in
theorem ggL_law_L_type : GoodIn wsL_law wsL_type := goodIn_r _ [43, 44, 45, 46, 2, 47, 20, 21, 14, 15, 48, 49, 50, 51, 52, 53, 54, 13, 55, 56, 57, 58, 10, 59, 60, 61, 62, 63, 64, 65, 66, 22, 16, 17, 18, 19, 67, 68, 69, 150, 151, 152, 153, 154, 155, 156, 157, 158, 159, 160, 161, 162, 163, 164, 165, 166] (by decide +kernel) (by decide +kernel)
set_option maxRecDepth 20000 in
theorem gL_law_L_type : GoodIn wsL_law (va_wsS RL 34 yL_type wsL_type) := goodIn_app (goodIn_of _ (by decide +kernel)) ggL_law_L_type
set_option maxRecDepth 20000 in
theorem ggL_law_X0_run : GoodIn wsL_law wsX0_run := goodIn_r _ [73, 21, 23, 25, 24, 27, 20, 28, 29, 30, 31, 74, 75, 76, 2, 77, 26, 78, 79, 80, 81, 17, 16, 18, 15, 13, 14, 82, 83, 84, 85, 86, 87, 88, 89, 90, 91, 92, 93, 94, 95, 96, 97, 59, 60, 61, 62, 10, 98, 99, 100, 101, 102, 103, 104, 105, 106, 107, 108, 109, 110, 111, 112, 113, 48, 49, 50, 114, 115, 116, 117, 118, 119, 120, 121, 122, 123, 124, 125, 126, 127, 128, 129, 130, 131, 132, 133, 134, 135, 136, 137, 138, 19, 150, 151, 152, 153, 154, 155, 156, 157, 158, 159, 160, 161, 162, 163, 164, 165, 166] (by decide +kernel) (by decide +kernel)
set_option maxRecDepth 20000 in
theorem gL_law_X0_run : GoodIn wsL_law (wsV RL 21 RX0 yX0_run wsX0_run) := goodIn_app (goodIn_of _ (by decide +kernel)) ggL_law_X0_run
set_option maxRecDepth 20000 in
theorem ggL_law_L_free : GoodIn wsL_law wsL_free := goodIn_r _ [141, 36, 37, 38, 2, 39, 20, 21, 22, 63, 64, 65, 66, 16, 17, 18, 19, 67, 68, 69, 70, 71, 72, 73, 23, 25, 24, 27, 28, 29, 30, 31, 74, 75, 76, 77, 26, 78, 79, 80, 81, 15, 13, 14, 82, 83, 84, 85, 86, 87, 88, 89, 90, 91, 92, 93, 94, 95, 96, 97, 59, 60, 61, 62, 10, 98, 99, 100, 101, 102, 103, 104, 105, 106, 107, 108, 109, 110, 111, 112, 113, 48, 49, 50, 114, 115, 116, 117, 118, 119, 120, 121, 122, 123, 124, 125, 126, 127, 128, 129, 130, 131, 132, 133, 134, 135, 136, 137, 138, 44, 45, 46, 47, 51, 52, 53, 54, 55, 56, 57, 58, 142, 143, 144, 145, 146, 147, 148, 149, 150, 151, 152, 153, 154, 155, 156, 157, 158, 159, 160, 161, 162, 163, 164, 165, 166] (by decide +kernel) (by decide +kernel)
set_option maxRecDepth 20000 in
theorem gL_law_L_free : GoodIn wsL_law (va_wsS RL 40 yL_free wsL_free) := goodIn_app (goodIn_of _ (by decide +kernel)) ggL_law_L_free
theorem dL_law_0 : decode cL_law 0 = .ok (.new 8, 3) := by decide +kernel
theorem dL_law_3 : decode cL_law 3 = .ok (.dup, 1) := by decide +kernel
theorem dL_law_4 : decode cL_law 4 = .ok (.invokespecial 30, 3) := by decide +kernel
theorem dL_law_7 : decode cL_law 7 = .ok (.astore_n 1, 1) := by decide +kernel
theorem dL_law_8 : decode cL_law 8 = .ok (.iconst 0, 1) := by decide +kernel
theorem dL_law_9 : decode cL_law 9 = .ok (.istore_n 2, 1) := by decide +kernel
theorem dL_law_10 : decode cL_law 10 = .ok (.iload_n 2, 1) := by decide +kernel
theorem dL_law_11 : decode cL_law 11 = .ok (.bipush 16, 2) := by decide +kernel
theorem dL_law_13 : decode cL_law 13 = .ok (.iadd, 1) := by decide +kernel
theorem dL_law_14 : decode cL_law 14 = .ok (.aload_n 0, 1) := by decide +kernel
theorem dL_law_15 : decode cL_law 15 = .ok (.arraylength, 1) := by decide +kernel
theorem dL_law_16 : decode cL_law 16 = .ok (.if_icmp .gt 115, 3) := by decide +kernel
theorem dL_law_19 : decode cL_law 19 = .ok (.iconst 0, 1) := by decide +kernel
theorem dL_law_20 : decode cL_law 20 = .ok (.istore_n 3, 1) := by decide +kernel
theorem dL_law_21 : decode cL_law 21 = .ok (.iload_n 3, 1) := by decide +kernel
theorem dL_law_22 : decode cL_law 22 = .ok (.iconst 4, 1) := by decide +kernel
theorem dL_law_23 : decode cL_law 23 = .ok (.if_icmp .ge 46, 3) := by decide +kernel
theorem dL_law_26 : decode cL_law 26 = .ok (.aload_n 1, 1) := by decide +kernel
theorem dL_law_27 : decode cL_law 27 = .ok (.iload_n 3, 1) := by decide +kernel
theorem dL_law_28 : decode cL_law 28 = .ok (.aload_n 0, 1) := by decide +kernel
theorem dL_law_29 : decode cL_law 29 = .ok (.iload_n 2, 1) := by decide +kernel
theorem dL_law_30 : decode cL_law 30 = .ok (.iaload, 1) := by decide +kernel
theorem dL_law_31 : decode cL_law 31 = .ok (.bipush 6, 2) := by decide +kernel
theorem dL_law_33 : decode cL_law 33 = .ok (.ishr, 1) := by decide +kernel
theorem dL_law_34 : decode cL_law 34 = .ok (.iconst 1, 1) := by decide +kernel
theorem dL_law_35 : decode cL_law 35 = .ok (.iand, 1) := by decide +kernel
theorem dL_law_36 : decode cL_law 36 = .ok (.iadd, 1) := by decide +kernel
theorem dL_law_37 : decode cL_law 37 = .ok (.aload_n 0, 1) := by decide +kernel
theorem dL_law_38 : decode cL_law 38 = .ok (.iload_n 2, 1) := by decide +kernel
theorem dL_law_39 : decode cL_law 39 = .ok (.iconst 2, 1) := by decide +kernel
theorem dL_law_40 : decode cL_law 40 = .ok (.iload_n 3, 1) := by decide +kernel
theorem dL_law_41 : decode cL_law 41 = .ok (.imul, 1) := by decide +kernel
theorem dL_law_42 : decode cL_law 42 = .ok (.iadd, 1) := by decide +kernel
theorem dL_law_43 : decode cL_law 43 = .ok (.iaload, 1) := by decide +kernel
theorem dL_law_44 : decode cL_law 44 = .ok (.bipush 7, 2) := by decide +kernel
theorem dL_law_46 : decode cL_law 46 = .ok (.ishr, 1) := by decide +kernel
theorem dL_law_47 : decode cL_law 47 = .ok (.bipush 7, 2) := by decide +kernel
theorem dL_law_49 : decode cL_law 49 = .ok (.iand, 1) := by decide +kernel
theorem dL_law_50 : decode cL_law 50 = .ok (.bipush 6, 2) := by decide +kernel
theorem dL_law_52 : decode cL_law 52 = .ok (.irem, 1) := by decide +kernel
theorem dL_law_53 : decode cL_law 53 = .ok (.iconst 2, 1) := by decide +kernel
theorem dL_law_54 : decode cL_law 54 = .ok (.isub, 1) := by decide +kernel
theorem dL_law_55 : decode cL_law 55 = .ok (.invokevirtual 31, 3) := by decide +kernel
theorem dL_law_58 : decode cL_law 58 = .ok (.ifCond .eq 5, 3) := by decide +kernel
theorem dL_law_61 : decode cL_law 61 = .ok (.iconst 0, 1) := by decide +kernel
theorem dL_law_62 : decode cL_law 62 = .ok (.ireturn, 1) := by decide +kernel
theorem dL_law_63 : decode cL_law 63 = .ok (.iinc 3 1, 3) := by decide +kernel
theorem dL_law_66 : decode cL_law 66 = .ok (.goto (-45), 3) := by decide +kernel
theorem dL_law_69 : decode cL_law 69 = .ok (.aload_n 1, 1) := by decide +kernel
theorem dL_law_70 : decode cL_law 70 = .ok (.invokevirtual 17, 3) := by decide +kernel
theorem dL_law_73 : decode cL_law 73 = .ok (.ifCond .ge 5, 3) := by decide +kernel
theorem dL_law_76 : decode cL_law 76 = .ok (.iconst 0, 1) := by decide +kernel
theorem dL_law_77 : decode cL_law 77 = .ok (.ireturn, 1) := by decide +kernel
theorem dL_law_78 : decode cL_law 78 = .ok (.aload_n 1, 1) := by decide +kernel
theorem dL_law_79 : decode cL_law 79 = .ok (.aload_n 0, 1) := by decide +kernel
theorem dL_law_80 : decode cL_law 80 = .ok (.iload_n 2, 1) := by decide +kernel
theorem dL_law_81 : decode cL_law 81 = .ok (.iload_n 2, 1) := by decide +kernel
theorem dL_law_82 : decode cL_law 82 = .ok (.bipush 16, 2) := by decide +kernel
theorem dL_law_84 : decode cL_law 84 = .ok (.iadd, 1) := by decide +kernel
theorem dL_law_85 : decode cL_law 85 = .ok (.invokestatic 34, 3) := by decide +kernel
theorem dL_law_88 : decode cL_law 88 = .ok (.aload_n 1, 1) := by decide +kernel
theorem dL_law_89 : decode cL_law 89 = .ok (.invokevirtual 21, 3) := by decide +kernel
theorem dL_law_92 : decode cL_law 92 = .ok (.istore_n 3, 1) := by decide +kernel
theorem dL_law_93 : decode cL_law 93 = .ok (.iload_n 3, 1) := by decide +kernel
theorem dL_law_94 : decode cL_law 94 = .ok (.ifCond .ge 5, 3) := by decide +kernel
theorem dL_law_97 : decode cL_law 97 = .ok (.iconst 0, 1) := by decide +kernel
theorem dL_law_98 : decode cL_law 98 = .ok (.ireturn, 1) := by decide +kernel
theorem dL_law_99 : decode cL_law 99 = .ok (.iconst 0, 1) := by decide +kernel
theorem dL_law_100 : decode cL_law 100 = .ok (.istore 4, 2) := by decide +kernel
theorem dL_law_102 : decode cL_law 102 = .ok (.iload 4, 2) := by decide +kernel
theorem dL_law_104 : decode cL_law 104 = .ok (.iconst 5, 1) := by decide +kernel
theorem dL_law_105 : decode cL_law 105 = .ok (.if_icmp .ge 20, 3) := by decide +kernel
theorem dL_law_108 : decode cL_law 108 = .ok (.aload_n 1, 1) := by decide +kernel
theorem dL_law_109 : decode cL_law 109 = .ok (.iload 4, 2) := by decide +kernel
theorem dL_law_111 : decode cL_law 111 = .ok (.invokestatic 40, 3) := by decide +kernel
theorem dL_law_114 : decode cL_law 114 = .ok (.ifCond .ne 5, 3) := by decide +kernel
theorem dL_law_117 : decode cL_law 117 = .ok (.iconst 0, 1) := by decide +kernel
theorem dL_law_118 : decode cL_law 118 = .ok (.ireturn, 1) := by decide +kernel
theorem dL_law_119 : decode cL_law 119 = .ok (.iinc 4 1, 3) := by decide +kernel
theorem dL_law_122 : decode cL_law 122 = .ok (.goto (-20), 3) := by decide +kernel
theorem dL_law_125 : decode cL_law 125 = .ok (.iinc 2 16, 3) := by decide +kernel
theorem dL_law_128 : decode cL_law 128 = .ok (.goto (-118), 3) := by decide +kernel
theorem dL_law_131 : decode cL_law 131 = .ok (.iconst 1, 1) := by decide +kernel
theorem dL_law_132 : decode cL_law 132 = .ok (.ireturn, 1) := by decide +kernel
abbrev vwCl : List vw_C := [(RX0, TX0, 17)]
