/-! static methods: the numbers that they answer -/
theorem in_1 {x M : Int32} {n : Nat} (hM : M.toInt = n) (h0 : ¬ x < 0) (h1 : ¬ M ≤ x) : vp_in x n := by
  rw [Int32.lt_iff_toInt_lt, Int32.toInt_zero] at h0
  rw [Int32.le_iff_toInt_le, hM] at h1
  exact vp_in_iff.mpr ⟨by omega, by omega⟩
theorem in_2 {x M : Int32} {n : Nat} (hM : M.toInt = n) (h0 : ¬ x < 0) (h1 : x < M) : vp_in x n := by
  rw [Int32.lt_iff_toInt_lt, Int32.toInt_zero] at h0
  rw [Int32.lt_iff_toInt_lt, hM] at h1
  exact vp_in_iff.mpr ⟨by omega, by omega⟩
theorem in_3 {x : Int32} (h0 : ¬ x < -2) (h1 : x < 5) (h2 : ¬ x = -2) (h3 : ¬ x = -1) : vp_in x 5 := by
  rw [Int32.lt_iff_toInt_lt] at h0 h1
  have e2 := lv_neT h2 (a := -2) (by decide)
  have e3 := lv_neT h3 (a := -1) (by decide)
  rw [show (-2 : Int32).toInt = -2 by decide] at h0
  rw [show (5 : Int32).toInt = 5 by decide] at h1
  exact vp_in_iff.mpr ⟨by omega, by omega⟩
theorem in_4 {x : Int32} (h0 : ¬ x < -2) (h1 : x ≤ 4) (h2 : ¬ x = -2) (h3 : ¬ x = -1) : vp_in x 5 := by
  refine in_3 h0 ?_ h2 h3
  rw [Int32.le_iff_toInt_le, show (4 : Int32).toInt = 4 by decide] at h1
  rw [Int32.lt_iff_toInt_lt, show (5 : Int32).toInt = 5 by decide]
  omega
theorem in_z {n : Nat} (h : 0 < n) : vp_in 0 n := vp_in_iff.mpr ⟨by simp, by simpa using h⟩
def pj_floorMod_7cf53 (p0 p1 : Int32) : Int32 :=
  if 0 ≤ p0 ^^^ p1 then
    p0 - p0 / p1 * p1
  else
    if p0 - p0 / p1 * p1 = 0 then
      p0 - p0 / p1 * p1
    else
      (p0 - p0 / p1 * p1) + p1
set_option maxHeartbeats 4000000 in
set_option maxRecDepth 100000 in
theorem kj_floorMod_7cf53 (l : Launch) (p0 p1 : Int32) (hz : ¬ p1 = 0) : gx_Ms l yJ9_floorMod_7cf53 wsJ9_floorMod_7cf53 { frames := 0, cells := 0, slots := 0, locals := 0 } [.int p0, .int p1] (pj_floorMod_7cf53 p0 p1) := by
  refine gx_metS (cc := cJ9_floorMod_7cf53) (maxL := 3) (ret := (some .int)) (by decide +kernel) rfl (Nat.le_of_ble_eq_true rfl) (fun p e s m args below meth c ls hx hb hr hlocks hts hown hml hl => ?_)
  have hl : lv_has ls 3 [(0, .int p0), (1, .int p1)] := hl
  refine lv_iload_n hx hb dJ9_floorMod_7cf53_0 rfl (lv_at hl 0 rfl) ?_
  refine lv_iload_n hx hb dJ9_floorMod_7cf53_1 rfl (lv_at hl 1 rfl) ?_
  refine lv_irem hx hb dJ9_floorMod_7cf53_2 hz ?_
  refine lv_istore_n (lv' := [(2, .int (p0 - p0 / p1 * p1)), (0, .int p0), (1, .int p1)]) hx hb dJ9_floorMod_7cf53_3 rfl hl (by decide) rfl (fun ls hl => ?_)
  refine lv_iload_n hx hb dJ9_floorMod_7cf53_4 rfl (lv_at hl 1 rfl) ?_
  refine lv_iload_n hx hb dJ9_floorMod_7cf53_5 rfl (lv_at hl 2 rfl) ?_
  refine lv_ixor hx hb dJ9_floorMod_7cf53_6 ?_
  refine lv_if_ge (tgt := 18) hx hb dJ9_floorMod_7cf53_7 (by decide) (fun c_7 => ?_) (fun c_7 => ?_)
  · refine lv_iload_n hx hb dJ9_floorMod_7cf53_18 rfl (lv_at hl 0 rfl) ?_
    exact gx_sret hx hb hr hlocks dJ9_floorMod_7cf53_19 (by unfold pj_floorMod_7cf53; rw [if_pos c_7])
  · refine lv_iload_n hx hb dJ9_floorMod_7cf53_10 rfl (lv_at hl 0 rfl) ?_
    refine lv_if_eq (tgt := 18) hx hb dJ9_floorMod_7cf53_11 (by decide) (fun c_11 => ?_) (fun c_11 => ?_)
    · refine lv_iload_n hx hb dJ9_floorMod_7cf53_18 rfl (lv_at hl 0 rfl) ?_
      exact gx_sret hx hb hr hlocks dJ9_floorMod_7cf53_19 (by unfold pj_floorMod_7cf53; rw [if_neg c_7, if_pos c_11])
    · refine lv_iload_n hx hb dJ9_floorMod_7cf53_14 rfl (lv_at hl 0 rfl) ?_
      refine lv_iload_n hx hb dJ9_floorMod_7cf53_15 rfl (lv_at hl 2 rfl) ?_
      refine lv_iadd hx hb dJ9_floorMod_7cf53_16 ?_
      exact gx_sret hx hb hr hlocks dJ9_floorMod_7cf53_17 (by unfold pj_floorMod_7cf53; rw [if_neg c_7, if_neg c_11])
theorem hd_J9_floorMod_7cf53 : yJ9_floorMod_7cf53.cls ≠ "java/lang/invoke/MethodHandle" ∧ yJ9_floorMod_7cf53.cls ≠ "java/lang/invoke/VarHandle" ∧ (parseMethodDescriptor yJ9_floorMod_7cf53.desc).map (fun d => d.parameters.length) = some 2 := by decide +kernel
def pd_opensBlock (p0 : Int32) : Int32 :=
  if p0 = 1 then
    1
  else
    if p0 = 2 then
      1
    else
      0
set_option maxHeartbeats 4000000 in
set_option maxRecDepth 100000 in
theorem kd_opensBlock (l : Launch) (p0 : Int32) : gx_Ms l yX0_opensBlock wsX0_opensBlock { frames := 0, cells := 0, slots := 0, locals := 0 } [.int p0] (pd_opensBlock p0) := by
  refine gx_metS (cc := cX0_opensBlock) (maxL := 1) (ret := (some .boolean)) (by decide +kernel) rfl (Nat.le_of_ble_eq_true rfl) (fun p e s m args below meth c ls hx hb hr hlocks hts hown hml hl => ?_)
  have hl : lv_has ls 1 [(0, .int p0)] := hl
  refine lv_iload_n hx hb dX0_opensBlock_0 rfl (lv_at hl 0 rfl) ?_
  refine lv_iconst (v := 1) hx hb dX0_opensBlock_1 (by decide) ?_
  refine lv_icmp_eq (tgt := 10) hx hb dX0_opensBlock_2 (by decide) (fun c_2 => ?_) (fun c_2 => ?_)
  · refine lv_iconst (v := 1) hx hb dX0_opensBlock_10 (by decide) ?_
    refine lv_goto (tgt := 15) hx hb dX0_opensBlock_11 (by decide) ?_
    exact gx_szret hx hb hr hlocks dX0_opensBlock_15 rfl (by unfold pd_opensBlock; rw [if_pos c_2])
  · refine lv_iload_n hx hb dX0_opensBlock_5 rfl (lv_at hl 0 rfl) ?_
    refine lv_iconst (v := 2) hx hb dX0_opensBlock_6 (by decide) ?_
    refine lv_icmp_ne (tgt := 14) hx hb dX0_opensBlock_7 (by decide) (fun c_7 => ?_) (fun c_7 => ?_)
    · refine lv_iconst (v := 0) hx hb dX0_opensBlock_14 (by decide) ?_
      exact gx_szret hx hb hr hlocks dX0_opensBlock_15 rfl (by unfold pd_opensBlock; rw [if_neg c_2, if_neg c_7])
    · refine lv_iconst (v := 1) hx hb dX0_opensBlock_10 (by decide) ?_
      refine lv_goto (tgt := 15) hx hb dX0_opensBlock_11 (by decide) ?_
      exact gx_szret hx hb hr hlocks dX0_opensBlock_15 rfl (by unfold pd_opensBlock; rw [if_neg c_2, if_pos c_7])
theorem hd_X0_opensBlock : yX0_opensBlock.cls ≠ "java/lang/invoke/MethodHandle" ∧ yX0_opensBlock.cls ≠ "java/lang/invoke/VarHandle" ∧ (parseMethodDescriptor yX0_opensBlock.desc).map (fun d => d.parameters.length) = some 1 := by decide +kernel
def pd_asNumber (p0 : Int32) : Int32 :=
  if p0 = 0 then
    0
  else
    1
set_option maxHeartbeats 4000000 in
set_option maxRecDepth 100000 in
theorem kd_asNumber (l : Launch) (p0 : Int32) : gx_Ms l yX0_asNumber wsX0_asNumber { frames := 0, cells := 0, slots := 0, locals := 0 } [.int p0] (pd_asNumber p0) := by
  refine gx_metS (cc := cX0_asNumber) (maxL := 1) (ret := (some .int)) (by decide +kernel) rfl (Nat.le_of_ble_eq_true rfl) (fun p e s m args below meth c ls hx hb hr hlocks hts hown hml hl => ?_)
  have hl : lv_has ls 1 [(0, .int p0)] := hl
  refine lv_iload_n hx hb dX0_asNumber_0 rfl (lv_at hl 0 rfl) ?_
  refine lv_if_eq (tgt := 8) hx hb dX0_asNumber_1 (by decide) (fun c_1 => ?_) (fun c_1 => ?_)
  · refine lv_iconst (v := 0) hx hb dX0_asNumber_8 (by decide) ?_
    exact gx_sret hx hb hr hlocks dX0_asNumber_9 (by unfold pd_asNumber; rw [if_pos c_1])
  · refine lv_iconst (v := 1) hx hb dX0_asNumber_4 (by decide) ?_
    refine lv_goto (tgt := 9) hx hb dX0_asNumber_5 (by decide) ?_
    exact gx_sret hx hb hr hlocks dX0_asNumber_9 (by unfold pd_asNumber; rw [if_neg c_1])
theorem hd_X0_asNumber : yX0_asNumber.cls ≠ "java/lang/invoke/MethodHandle" ∧ yX0_asNumber.cls ≠ "java/lang/invoke/VarHandle" ∧ (parseMethodDescriptor yX0_asNumber.desc).map (fun d => d.parameters.length) = some 1 := by decide +kernel
