/-! the class: a pure function and a contract for each method -/
def pd_lh (u : st_T) (p0 : Int32) : Nat → Int32 → Int32
  | 0, _ => p0
  | n + 1, i => if p0 ≤ i then p0 else if u.2 0 (ix i) = u.2 0 (ix p0) then i else pd_lh u p0 n (i + 1)
def pd_leastHandle (u : st_T) (p0 : Int32) : Int32 := pd_lh u p0 6 0
theorem lh_toInt1 {i : Int32} (h : i.toInt < 1000) (h0 : 0 ≤ i.toInt) : (i + 1).toInt = i.toInt + 1 := by rw [Jvm.Kit.i32_add (by simp; omega) (by simp; omega)]; simp
theorem lh_in {u : st_T} {p0 : Int32} (hp : vp_in p0 5) : ∀ (n : Nat) (i : Int32), 0 ≤ i.toInt → vp_in (pd_lh u p0 n i) 5 := by
  intro n
  induction n with
  | zero => intro i _; exact hp
  | succ n ih =>
    intro i hi
    unfold pd_lh
    by_cases h1 : p0 ≤ i
    · rw [if_pos h1]; exact hp
    · rw [if_neg h1]
      have hp2 := vp_in_iff.mp hp
      rw [Int32.le_iff_toInt_le] at h1
      by_cases h2 : u.2 0 (ix i) = u.2 0 (ix p0)
      · rw [if_pos h2]; exact vp_in_iff.mpr ⟨hi, by omega⟩
      · rw [if_neg h2]; exact ih _ (by rw [lh_toInt1 (by omega) hi]; omega)
theorem least_in {u : st_T} {p0 : Int32} (hp : vp_in p0 5) : vp_in (pd_leastHandle u p0) 5 := lh_in hp 6 0 (by simp)
set_option maxHeartbeats 4000000 in
set_option maxRecDepth 100000 in
theorem kd_leastHandle (l : Launch) (dC : Nat → ClassId) (dI : Nat → Nat → Nat) (cI cZ : ClassId) (h : Nat) (q : Nat → Nat) (sz : Nat) (u : st_T) (p0 : Int32) (hp0 : vp_in p0 5) : gx_Mi l yX0_leastHandle wsX0_leastHandle { frames := 0, cells := 0, slots := 0, locals := 0 } [.ref h, .int p0] (dC, dI) cI cZ (gw0_ cI cZ h q) u sz (pd_leastHandle u p0, u) := by
  refine gx_met (cc := cX0_leastHandle) (maxL := 3) (ret := (some .int)) (by decide +kernel) rfl (Nat.le_of_ble_eq_true rfl) (fun p e s m args below meth c A ls hsz hx hb hr hlocks hts hown hml hK hAe hA G hl => ?_)
  have hown : s.vm.findClass RX0 = some m.cls := hown
  have hin : ∀ w ∈ wsX00, w ∈ wsX0_leastHandle := gx_in
  have hl : lv_has ls 3 [(0, .ref h), (1, .int p0)] := hl
  have hp2 := vp_in_iff.mp hp0
  have loop : ∀ (n : Nat) (i : Int32), 0 ≤ i.toInt → i.toInt ≤ p0.toInt → p0.toInt - i.toInt < n → pd_leastHandle u p0 = pd_lh u p0 n i → ∀ (H : Heap) (locs : List Loc) (ls : Array Slot), gx_ (dC, dI) A s.heap H locs (gw0_ cI cZ h q u) → lv_has ls 3 [(2, .int i), (0, .ref h), (1, .int p0)] → W p l e { frames := 0, cells := 0, slots := 0, locals := 0 } s m args below meth c H locs 0 0 (MQ below (va_Qi (fun r u1 => r = (pd_leastHandle u p0, u).1 ∧ u1 = (pd_leastHandle u p0, u).2) (gx_O (dC, dI) cI cZ (gw0_ cI cZ h q) (gw0_ cI cZ h q u) sz) (va_A (gw0_ cI cZ h q u) sz)) args s 0 0 (va_A (gw0_ cI cZ h q u) sz)) (F0 m 2 ls []) := by
    intro n
    induction n with
    | zero => intro i h1 h2 h3; exact absurd h3 (by omega)
    | succ n ih =>
      intro i hi0 hip hin2 hf H locs ls G hl
      unfold pd_lh at hf
      refine lv_iload_n hx hb dX0_leastHandle_2 rfl (lv_at hl 0 rfl) ?_
      refine lv_iload_n hx hb dX0_leastHandle_3 rfl (lv_at hl 2 rfl) ?_
      refine lv_icmp_ge (tgt := 30) hx hb dX0_leastHandle_4 (by decide) (fun c_4 => ?_) (fun c_4 => ?_)
      · refine lv_iload_n hx hb dX0_leastHandle_30 rfl (lv_at hl 2 rfl) ?_
        exact gx_iret (wf := gw0_ cI cZ h q) (u1 := u) hx hb hr hlocks hsz hK hAe G dX0_leastHandle_31 (congrArg (fun z => (z, u)) (by rw [hf, if_pos c_4]))
      · refine lv_aload_n hx hb dX0_leastHandle_7 rfl (lv_at hl 1 rfl) ?_
        refine gg0_get (v := .ref (q 0)) hx hb hts hin hown hK G 0 (by decide) (index := 9) (by decide +kernel) rfl dX0_leastHandle_8 ?_
        refine lv_iload_n hx hb dX0_leastHandle_11 rfl (lv_at hl 0 rfl) ?_
        refine gg0_ld0 hx hb hK G (i := i) (vp_in_iff.mpr (by have q4 := c_4; rw [Int32.le_iff_toInt_le] at q4; omega)) dX0_leastHandle_12 ?_
        refine lv_aload_n hx hb dX0_leastHandle_13 rfl (lv_at hl 1 rfl) ?_
        refine gg0_get (v := .ref (q 0)) hx hb hts hin hown hK G 0 (by decide) (index := 9) (by decide +kernel) rfl dX0_leastHandle_14 ?_
        refine lv_iload_n hx hb dX0_leastHandle_17 rfl (lv_at hl 2 rfl) ?_
        refine gg0_ld0 hx hb hK G (i := p0) hp0 dX0_leastHandle_18 ?_
        refine lv_icmp_ne (tgt := 24) hx hb dX0_leastHandle_19 (by decide) (fun c_19 => ?_) (fun c_19 => ?_)
        · refine lv_iinc (v := i + 1) (lv' := [(2, .int (i + 1)), (0, .ref h), (1, .int p0)]) hx hb dX0_leastHandle_24 hl (k := 0) rfl (congrArg (fun z => i + z) (by decide)) (by decide) rfl (fun ls hl => ?_)
          refine lv_goto (tgt := 2) hx hb dX0_leastHandle_27 (by decide) ?_
          rw [if_neg c_4, if_neg c_19] at hf
          have q4 := c_4
          rw [Int32.le_iff_toInt_le] at q4
          have q5 := lh_toInt1 (i := i) (by omega) hi0
          exact ih (i + 1) (by omega) (by omega) (by omega) hf H locs ls G (lv_sub hl [0, 1, 2] rfl)
        · refine lv_iload_n hx hb dX0_leastHandle_22 rfl (lv_at hl 0 rfl) ?_
          exact gx_iret (wf := gw0_ cI cZ h q) (u1 := u) hx hb hr hlocks hsz hK hAe G dX0_leastHandle_23 (congrArg (fun z => (z, u)) (by rw [hf, if_neg c_4, if_pos c_19]))
  refine lv_iconst (v := 0) hx hb dX0_leastHandle_0 (by decide) ?_
  refine lv_istore_n (lv' := [(2, .int 0), (0, .ref h), (1, .int p0)]) hx hb dX0_leastHandle_1 rfl hl (by decide) rfl (fun ls hl => ?_)
  exact loop 6 0 (by simp) (by simp; omega) (by simp; omega) rfl _ _ ls G hl
theorem hd_X0_leastHandle : yX0_leastHandle.cls = RX0 ∧ yX0_leastHandle.cls ≠ "java/lang/invoke/MethodHandle" ∧ yX0_leastHandle.cls ≠ "java/lang/invoke/VarHandle" ∧ (parseMethodDescriptor yX0_leastHandle.desc).map (fun d => d.parameters.length) = some 1 := by decide +kernel
def pd_ce (u : st_T) : Nat → Int32 → Int32 → Int32
  | 0, c, _ => c
  | n + 1, c, i => if 4 ≤ i then c else pd_ce u n (c + pd_asNumber (u.2 2 (ix i))) (i + 1)
def pd_countEnded (u : st_T) : Int32 := pd_ce u 5 0 0
set_option maxHeartbeats 4000000 in
set_option maxRecDepth 100000 in
theorem kd_countEnded (l : Launch) (dC : Nat → ClassId) (dI : Nat → Nat → Nat) (cI cZ : ClassId) (h : Nat) (q : Nat → Nat) (sz : Nat) (u : st_T) : gx_Mi l yX0_countEnded wsX0_countEnded { frames := 1, cells := 0, slots := 0, locals := 20 } [.ref h] (dC, dI) cI cZ (gw0_ cI cZ h q) u sz (pd_countEnded u, u) := by
  refine gx_met (cc := cX0_countEnded) (maxL := 3) (ret := (some .int)) (by decide +kernel) rfl (Nat.le_of_ble_eq_true rfl) (fun p e s m args below meth c A ls hsz hx hb hr hlocks hts hown hml hK hAe hA G hl => ?_)
  have hown : s.vm.findClass RX0 = some m.cls := hown
  have hin : ∀ w ∈ wsX00, w ∈ wsX0_countEnded := gx_in
  have hl : lv_has ls 3 [(0, .ref h)] := hl
  have loop : ∀ (n : Nat) (cn i : Int32), 0 ≤ i.toInt → i.toInt ≤ 4 → 4 - i.toInt < n → pd_countEnded u = pd_ce u n cn i → ∀ (H : Heap) (locs : List Loc) (ls : Array Slot), gx_ (dC, dI) A s.heap H locs (gw0_ cI cZ h q u) → lv_has ls 3 [(2, .int i), (1, .int cn), (0, .ref h)] → W p l e { frames := 1, cells := 0, slots := 0, locals := 20 } s m args below meth c H locs 0 0 (MQ below (va_Qi (fun r u1 => r = (pd_countEnded u, u).1 ∧ u1 = (pd_countEnded u, u).2) (gx_O (dC, dI) cI cZ (gw0_ cI cZ h q) (gw0_ cI cZ h q u) sz) (va_A (gw0_ cI cZ h q u) sz)) args s 0 0 (va_A (gw0_ cI cZ h q u) sz)) (F0 m 4 ls []) := by
    intro n
    induction n with
    | zero => intro cn i h1 h2 h3; exact absurd h3 (by omega)
    | succ n ih =>
      intro cn i hi0 hip hin2 hf H locs ls G hl
      unfold pd_ce at hf
      refine lv_iload_n hx hb dX0_countEnded_4 rfl (lv_at hl 0 rfl) ?_
      refine lv_iconst (v := 4) hx hb dX0_countEnded_5 (by decide) ?_
      refine lv_icmp_ge (tgt := 27) hx hb dX0_countEnded_6 (by decide) (fun c_6 => ?_) (fun c_6 => ?_)
      · refine lv_iload_n hx hb dX0_countEnded_27 rfl (lv_at hl 1 rfl) ?_
        exact gx_iret (wf := gw0_ cI cZ h q) (u1 := u) hx hb hr hlocks hsz hK hAe G dX0_countEnded_28 (congrArg (fun z => (z, u)) (by rw [hf, if_pos c_6]))
      · refine lv_iload_n hx hb dX0_countEnded_9 rfl (lv_at hl 1 rfl) ?_
        refine lv_aload_n hx hb dX0_countEnded_10 rfl (lv_at hl 2 rfl) ?_
        refine gg0_get (v := .ref (q 2)) hx hb hts hin hown hK G 2 (by decide) (index := 17) (by decide +kernel) rfl dX0_countEnded_11 ?_
        refine lv_iload_n hx hb dX0_countEnded_14 rfl (lv_at hl 0 rfl) ?_
        refine gg0_ld2 hx hb hK G (i := i) (in_1 (M := 4) (by decide) (by rw [Int32.lt_iff_toInt_lt, Int32.toInt_zero]; omega) c_6) dX0_countEnded_15 ?_
        refine gx_calls (f := pd_asNumber (u.2 2 (ix i))) (As := [.int (u.2 2 (ix i))]) (rest := [.int cn]) 1 hx hb hml hown hts (kd_asNumber l (u.2 2 (ix i)) ) gX0_countEnded_X0_asNumber rfl rfl rfl hd_X0_asNumber ⟨Nat.le_of_ble_eq_true rfl, Nat.le_of_ble_eq_true rfl⟩ rfl hl.1 rfl (Nat.le_of_ble_eq_true rfl) dX0_countEnded_16 (Nat.zero_le _) (Nat.zero_le _) ?_
        refine lv_iadd hx hb dX0_countEnded_19 ?_
        refine lv_istore_n (lv' := [(1, .int (cn + (pd_asNumber (u.2 2 (ix i))))), (2, .int i), (0, .ref h)]) hx hb dX0_countEnded_20 rfl hl (by decide) rfl (fun ls hl => ?_)
        refine lv_iinc (v := i + 1) (lv' := [(2, .int (i + 1)), (1, .int (cn + (pd_asNumber (u.2 2 (ix i))))), (0, .ref h)]) hx hb dX0_countEnded_21 hl (k := 1) rfl (congrArg (fun z => i + z) (by decide)) (by decide) rfl (fun ls hl => ?_)
        refine lv_goto (tgt := 4) hx hb dX0_countEnded_24 (by decide) ?_
        rw [if_neg c_6] at hf
        have q4 := c_6
        rw [Int32.le_iff_toInt_le, show (4 : Int32).toInt = 4 by decide] at q4
        have q5 := lh_toInt1 (i := i) (by omega) hi0
        exact ih _ (i + 1) (by omega) (by omega) (by omega) hf H locs ls G (lv_sub hl [0, 1, 2] rfl)
  refine lv_iconst (v := 0) hx hb dX0_countEnded_0 (by decide) ?_
  refine lv_istore_n (lv' := [(1, .int 0), (0, .ref h)]) hx hb dX0_countEnded_1 rfl hl (by decide) rfl (fun ls hl => ?_)
  refine lv_iconst (v := 0) hx hb dX0_countEnded_2 (by decide) ?_
  refine lv_istore_n (lv' := [(2, .int 0), (1, .int 0), (0, .ref h)]) hx hb dX0_countEnded_3 rfl hl (by decide) rfl (fun ls hl => ?_)
  exact loop 5 0 0 (by simp) (by simp) (by simp) rfl _ _ ls G hl
theorem hd_X0_countEnded : yX0_countEnded.cls = RX0 ∧ yX0_countEnded.cls ≠ "java/lang/invoke/MethodHandle" ∧ yX0_countEnded.cls ≠ "java/lang/invoke/VarHandle" ∧ (parseMethodDescriptor yX0_countEnded.desc).map (fun d => d.parameters.length) = some 0 := by decide +kernel
def pd_hold (u : st_T) (p0 p1 : Int32) : Int32 × st_T :=
  if p0 < 0 then
    ((-1), u)
  else
    if 5 ≤ p0 then
      ((-1), u)
    else
      if p1 < (-2) then
        ((-1), u)
      else
        if p1 < 5 then
          if p1 = (-2) then
            (0, st_sa (st_si u 1 ((u.1 1) + 1)) 0 (ix p0) ((u.1 1) + 1))
          else
            if p1 = (-1) then
              (0, st_sa u 0 (ix p0) 0)
            else
              (0, st_sa u 0 (ix p0) (u.2 0 (ix p1)))
        else
          ((-1), u)
set_option maxHeartbeats 4000000 in
set_option maxRecDepth 100000 in
theorem kd_hold (l : Launch) (dC : Nat → ClassId) (dI : Nat → Nat → Nat) (cI cZ : ClassId) (h : Nat) (q : Nat → Nat) (sz : Nat) (u : st_T) (p0 p1 : Int32) : gx_Mi l yX0_hold wsX0_hold { frames := 0, cells := 0, slots := 0, locals := 0 } [.ref h, .int p0, .int p1] (dC, dI) cI cZ (gw0_ cI cZ h q) u sz (pd_hold u p0 p1) := by
  refine gx_met (cc := cX0_hold) (maxL := 3) (ret := (some .int)) (by decide +kernel) rfl (Nat.le_of_ble_eq_true rfl) (fun p e s m args below meth c A ls hsz hx hb hr hlocks hts hown hml hK hAe hA G hl => ?_)
  have hown : s.vm.findClass RX0 = some m.cls := hown
  have hin : ∀ w ∈ wsX00, w ∈ wsX0_hold := gx_in
  have hl : lv_has ls 3 [(0, .ref h), (1, .int p0), (2, .int p1)] := hl
  refine lv_iload_n hx hb dX0_hold_0 rfl (lv_at hl 1 rfl) ?_
  refine lv_if_lt (tgt := 20) hx hb dX0_hold_1 (by decide) (fun c_1 => ?_) (fun c_1 => ?_)
  · refine lv_iconst (v := (-1)) hx hb dX0_hold_20 (by decide) ?_
    exact gx_iret (wf := gw0_ cI cZ h q) (u1 := u) hx hb hr hlocks hsz hK hAe G dX0_hold_21 (by unfold pd_hold; rw [if_pos c_1])
  · refine lv_iload_n hx hb dX0_hold_4 rfl (lv_at hl 1 rfl) ?_
    refine lv_iconst (v := 5) hx hb dX0_hold_5 (by decide) ?_
    refine lv_icmp_ge (tgt := 20) hx hb dX0_hold_6 (by decide) (fun c_6 => ?_) (fun c_6 => ?_)
    · refine lv_iconst (v := (-1)) hx hb dX0_hold_20 (by decide) ?_
      exact gx_iret (wf := gw0_ cI cZ h q) (u1 := u) hx hb hr hlocks hsz hK hAe G dX0_hold_21 (by unfold pd_hold; rw [if_neg c_1, if_pos c_6])
    · refine lv_iload_n hx hb dX0_hold_9 rfl (lv_at hl 2 rfl) ?_
      refine lv_bipush (v := (-2)) hx hb dX0_hold_10 (by decide) ?_
      refine lv_icmp_lt (tgt := 20) hx hb dX0_hold_12 (by decide) (fun c_12 => ?_) (fun c_12 => ?_)
      · refine lv_iconst (v := (-1)) hx hb dX0_hold_20 (by decide) ?_
        exact gx_iret (wf := gw0_ cI cZ h q) (u1 := u) hx hb hr hlocks hsz hK hAe G dX0_hold_21 (by unfold pd_hold; rw [if_neg c_1, if_neg c_6, if_pos c_12])
      · refine lv_iload_n hx hb dX0_hold_15 rfl (lv_at hl 2 rfl) ?_
        refine lv_iconst (v := 5) hx hb dX0_hold_16 (by decide) ?_
        refine lv_icmp_lt (tgt := 22) hx hb dX0_hold_17 (by decide) (fun c_17 => ?_) (fun c_17 => ?_)
        · refine lv_iload_n hx hb dX0_hold_22 rfl (lv_at hl 2 rfl) ?_
          refine lv_bipush (v := (-2)) hx hb dX0_hold_23 (by decide) ?_
          refine lv_icmp_ne (tgt := 51) hx hb dX0_hold_25 (by decide) (fun c_25 => ?_) (fun c_25 => ?_)
          · refine lv_iload_n hx hb dX0_hold_51 rfl (lv_at hl 2 rfl) ?_
            refine lv_iconst (v := (-1)) hx hb dX0_hold_52 (by decide) ?_
            refine lv_icmp_ne (tgt := 66) hx hb dX0_hold_53 (by decide) (fun c_53 => ?_) (fun c_53 => ?_)
            · refine lv_aload_n hx hb dX0_hold_66 rfl (lv_at hl 0 rfl) ?_
              refine gg0_get (v := .ref (q 0)) hx hb hts hin hown hK G 0 (by decide) (index := 9) (by decide +kernel) rfl dX0_hold_67 ?_
              refine lv_iload_n hx hb dX0_hold_70 rfl (lv_at hl 1 rfl) ?_
              refine lv_aload_n hx hb dX0_hold_71 rfl (lv_at hl 0 rfl) ?_
              refine gg0_get (v := .ref (q 0)) hx hb hts hin hown hK G 0 (by decide) (index := 9) (by decide +kernel) rfl dX0_hold_72 ?_
              refine lv_iload_n hx hb dX0_hold_75 rfl (lv_at hl 2 rfl) ?_
              refine gg0_ld0 hx hb hK G (i := p1) (in_3 c_12 c_17 c_25 c_53) dX0_hold_76 ?_
              refine gg0_st0 hx hb hK G (i := p0) (x := u.2 0 (ix p1)) (in_1 (M := 5) (by decide) c_1 c_6) dX0_hold_77 (fun H locs G => ?_)
              refine lv_iconst (v := 0) hx hb dX0_hold_78 (by decide) ?_
              exact gx_iret (wf := gw0_ cI cZ h q) (u1 := st_sa u 0 (ix p0) (u.2 0 (ix p1))) hx hb hr hlocks hsz hK hAe G dX0_hold_79 (by unfold pd_hold; rw [if_neg c_1, if_neg c_6, if_neg c_12, if_pos c_17, if_neg c_25, if_neg c_53])
            · refine lv_aload_n hx hb dX0_hold_56 rfl (lv_at hl 0 rfl) ?_
              refine gg0_get (v := .ref (q 0)) hx hb hts hin hown hK G 0 (by decide) (index := 9) (by decide +kernel) rfl dX0_hold_57 ?_
              refine lv_iload_n hx hb dX0_hold_60 rfl (lv_at hl 1 rfl) ?_
              refine lv_iconst (v := 0) hx hb dX0_hold_61 (by decide) ?_
              refine gg0_st0 hx hb hK G (i := p0) (x := 0) (in_1 (M := 5) (by decide) c_1 c_6) dX0_hold_62 (fun H locs G => ?_)
              refine lv_goto (tgt := 78) hx hb dX0_hold_63 (by decide) ?_
              refine lv_iconst (v := 0) hx hb dX0_hold_78 (by decide) ?_
              exact gx_iret (wf := gw0_ cI cZ h q) (u1 := st_sa u 0 (ix p0) 0) hx hb hr hlocks hsz hK hAe G dX0_hold_79 (by unfold pd_hold; rw [if_neg c_1, if_neg c_6, if_neg c_12, if_pos c_17, if_neg c_25, if_pos c_53])
          · refine lv_aload_n hx hb dX0_hold_28 rfl (lv_at hl 0 rfl) ?_
            refine lv_dup hx hb dX0_hold_29 rfl ?_
            refine gg0_get (v := .int (u.1 1)) hx hb hts hin hown hK G 1 (by decide) (index := 13) (by decide +kernel) rfl dX0_hold_30 ?_
            refine lv_iconst (v := 1) hx hb dX0_hold_33 (by decide) ?_
            refine lv_iadd hx hb dX0_hold_34 ?_
            refine gg0_put1 (v := (u.1 1) + 1) hx hb hts hin hown hK G (index := 13) (by decide +kernel) dX0_hold_35 (fun H locs G => ?_)
            refine lv_aload_n hx hb dX0_hold_38 rfl (lv_at hl 0 rfl) ?_
            refine gg0_get (v := .ref (q 0)) hx hb hts hin hown hK G 0 (by decide) (index := 9) (by decide +kernel) rfl dX0_hold_39 ?_
            refine lv_iload_n hx hb dX0_hold_42 rfl (lv_at hl 1 rfl) ?_
            refine lv_aload_n hx hb dX0_hold_43 rfl (lv_at hl 0 rfl) ?_
            refine gg0_get (v := .int ((u.1 1) + 1)) hx hb hts hin hown hK G 1 (by decide) (index := 13) (by decide +kernel) rfl dX0_hold_44 ?_
            refine gg0_st0 hx hb hK G (i := p0) (x := (u.1 1) + 1) (in_1 (M := 5) (by decide) c_1 c_6) dX0_hold_47 (fun H locs G => ?_)
            refine lv_goto (tgt := 78) hx hb dX0_hold_48 (by decide) ?_
            refine lv_iconst (v := 0) hx hb dX0_hold_78 (by decide) ?_
            exact gx_iret (wf := gw0_ cI cZ h q) (u1 := st_sa (st_si u 1 ((u.1 1) + 1)) 0 (ix p0) ((u.1 1) + 1)) hx hb hr hlocks hsz hK hAe G dX0_hold_79 (by unfold pd_hold; rw [if_neg c_1, if_neg c_6, if_neg c_12, if_pos c_17, if_pos c_25])
        · refine lv_iconst (v := (-1)) hx hb dX0_hold_20 (by decide) ?_
          exact gx_iret (wf := gw0_ cI cZ h q) (u1 := u) hx hb hr hlocks hsz hK hAe G dX0_hold_21 (by unfold pd_hold; rw [if_neg c_1, if_neg c_6, if_neg c_12, if_neg c_17])
theorem hd_X0_hold : yX0_hold.cls = RX0 ∧ yX0_hold.cls ≠ "java/lang/invoke/MethodHandle" ∧ yX0_hold.cls ≠ "java/lang/invoke/VarHandle" ∧ (parseMethodDescriptor yX0_hold.desc).map (fun d => d.parameters.length) = some 2 := by decide +kernel
def pd_step_86 (u : st_T) (p0 p1 : Int32) : Int32 × st_T :=
  if pd_opensBlock p0 = 0 then
    if p0 = 0 then
      ((u.1 9) + 1, st_si (st_si (st_si (st_sa (st_sa (st_sa (st_sa u 5 (ix (u.1 9)) p0) 6 (ix (u.1 9)) p1) 7 (ix (u.1 9)) (u.1 11)) 8 (ix (u.1 11)) (u.1 9)) 11 ((st_sa (st_sa (st_sa u 5 (ix (u.1 9)) p0) 6 (ix (u.1 9)) p1) 7 (ix (u.1 9)) (u.1 11)).2 7 (ix (u.1 11)))) 10 ((u.1 10) - 1)) 9 ((u.1 9) + 1))
    else
      ((u.1 9) + 1, st_si (st_sa (st_sa (st_sa u 5 (ix (u.1 9)) p0) 6 (ix (u.1 9)) p1) 7 (ix (u.1 9)) (u.1 11)) 9 ((u.1 9) + 1))
  else
    ((u.1 9) + 1, st_si (st_si (st_si (st_sa (st_sa (st_sa u 5 (ix (u.1 9)) p0) 6 (ix (u.1 9)) p1) 7 (ix (u.1 9)) (u.1 11)) 11 (u.1 9)) 10 ((u.1 10) + 1)) 9 ((u.1 9) + 1))
def pd_step (u : st_T) (p0 p1 : Int32) : Int32 × st_T :=
  if p0 < 0 then
    ((-1), u)
  else
    if 15 < p0 then
      ((-1), u)
    else
      if u.1 9 < 24 then
        if p0 = 0 then
          if u.1 11 = (-1) then
            ((-1), u)
          else
            if pd_opensBlock p0 = 0 then
              pd_step_86 u p0 p1
            else
              if u.1 10 < 8 then
                pd_step_86 u p0 p1
              else
                ((-1), u)
        else
          if pd_opensBlock p0 = 0 then
            pd_step_86 u p0 p1
          else
            if u.1 10 < 8 then
              pd_step_86 u p0 p1
            else
              ((-1), u)
      else
        ((-1), u)
set_option maxHeartbeats 4000000 in
set_option maxRecDepth 100000 in
theorem kd_step (l : Launch) (dC : Nat → ClassId) (dI : Nat → Nat → Nat) (cI cZ : ClassId) (h : Nat) (q : Nat → Nat) (sz : Nat) (u : st_T) (p0 p1 : Int32) (hsc : ¬ u.1 9 < 0) (hlo : u.1 11 = -1 ∨ vp_in (u.1 11) 24) : gx_Mi l yX0_step wsX0_step { frames := 1, cells := 0, slots := 0, locals := 20 } [.ref h, .int p0, .int p1] (dC, dI) cI cZ (gw0_ cI cZ h q) u sz (pd_step u p0 p1) := by
  refine gx_met (cc := cX0_step) (maxL := 3) (ret := (some .int)) (by decide +kernel) rfl (Nat.le_of_ble_eq_true rfl) (fun p e s m args below meth c A ls hsz hx hb hr hlocks hts hown hml hK hAe hA G hl => ?_)
  have hown : s.vm.findClass RX0 = some m.cls := hown
  have hin : ∀ w ∈ wsX00, w ∈ wsX0_step := gx_in
  have hl : lv_has ls 3 [(0, .ref h), (1, .int p0), (2, .int p1)] := hl
  have tail_86 : ∀ (H : Heap) (locs : List Loc) (ls : Array Slot), gx_ (dC, dI) A s.heap H locs (gw0_ cI cZ h q (st_sa (st_sa (st_sa u 5 (ix (u.1 9)) p0) 6 (ix (u.1 9)) p1) 7 (ix (u.1 9)) (u.1 11))) → lv_has ls 3 [(0, .ref h), (1, .int p0), (2, .int p1)] → (p0 = 0 → ¬ u.1 11 = -1) → pd_step u p0 p1 = pd_step_86 u p0 p1 → W p l e { frames := 1, cells := 0, slots := 0, locals := 20 } s m args below meth c H locs 0 0 (MQ below (va_Qi (fun r u1 => r = (pd_step u p0 p1).1 ∧ u1 = (pd_step u p0 p1).2) (gx_O (dC, dI) cI cZ (gw0_ cI cZ h q) (gw0_ cI cZ h q u) sz) (va_A (gw0_ cI cZ h q u) sz)) args s 0 0 (va_A (gw0_ cI cZ h q u) sz)) (F0 m 86 ls []) := by
    intro H locs ls G hl c_30 hf
    refine lv_iload_n hx hb dX0_step_86 rfl (lv_at hl 1 rfl) ?_
    refine gx_calls (f := pd_opensBlock p0) (As := [.int p0]) (rest := []) 1 hx hb hml hown hts (kd_opensBlock l p0 ) gX0_step_X0_opensBlock rfl rfl rfl hd_X0_opensBlock ⟨Nat.le_of_ble_eq_true rfl, Nat.le_of_ble_eq_true rfl⟩ rfl hl.1 rfl (Nat.le_of_ble_eq_true rfl) dX0_step_87 (Nat.zero_le _) (Nat.zero_le _) ?_
    refine lv_if_eq (tgt := 114) hx hb dX0_step_90 (by decide) (fun c_90 => ?_) (fun c_90 => ?_)
    · refine lv_iload_n hx hb dX0_step_114 rfl (lv_at hl 1 rfl) ?_
      refine lv_if_ne (tgt := 154) hx hb dX0_step_115 (by decide) (fun c_115 => ?_) (fun c_115 => ?_)
      · refine lv_aload_n hx hb dX0_step_154 rfl (lv_at hl 0 rfl) ?_
        refine lv_dup hx hb dX0_step_155 rfl ?_
        refine gg0_get (v := .int (u.1 9)) hx hb hts hin hown hK G 9 (by decide) (index := 40) (by decide +kernel) rfl dX0_step_156 ?_
        refine lv_iconst (v := 1) hx hb dX0_step_159 (by decide) ?_
        refine lv_iadd hx hb dX0_step_160 ?_
        refine gg0_put9 (v := (u.1 9) + 1) hx hb hts hin hown hK G (index := 40) (by decide +kernel) dX0_step_161 (fun H locs G => ?_)
        refine lv_aload_n hx hb dX0_step_164 rfl (lv_at hl 0 rfl) ?_
        refine gg0_get (v := .int ((u.1 9) + 1)) hx hb hts hin hown hK G 9 (by decide) (index := 40) (by decide +kernel) rfl dX0_step_165 ?_
        exact gx_iret (wf := gw0_ cI cZ h q) (u1 := st_si (st_sa (st_sa (st_sa u 5 (ix (u.1 9)) p0) 6 (ix (u.1 9)) p1) 7 (ix (u.1 9)) (u.1 11)) 9 ((u.1 9) + 1)) hx hb hr hlocks hsz hK hAe G dX0_step_168 (hf.trans (by unfold pd_step_86; rw [if_pos c_90, if_neg c_115]))
      · refine lv_aload_n hx hb dX0_step_118 rfl (lv_at hl 0 rfl) ?_
        refine gg0_get (v := .ref (q 8)) hx hb hts hin hown hK G 8 (by decide) (index := 37) (by decide +kernel) rfl dX0_step_119 ?_
        refine lv_aload_n hx hb dX0_step_122 rfl (lv_at hl 0 rfl) ?_
        refine gg0_get (v := .int (u.1 11)) hx hb hts hin hown hK G 11 (by decide) (index := 46) (by decide +kernel) rfl dX0_step_123 ?_
        refine lv_aload_n hx hb dX0_step_126 rfl (lv_at hl 0 rfl) ?_
        refine gg0_get (v := .int (u.1 9)) hx hb hts hin hown hK G 9 (by decide) (index := 40) (by decide +kernel) rfl dX0_step_127 ?_
        refine gg0_st8 hx hb hK G (i := u.1 11) (x := u.1 9) (hlo.resolve_left (c_30 c_115)) dX0_step_130 (fun H locs G => ?_)
        refine lv_aload_n hx hb dX0_step_131 rfl (lv_at hl 0 rfl) ?_
        refine lv_aload_n hx hb dX0_step_132 rfl (lv_at hl 0 rfl) ?_
        refine gg0_get (v := .ref (q 7)) hx hb hts hin hown hK G 7 (by decide) (index := 34) (by decide +kernel) rfl dX0_step_133 ?_
        refine lv_aload_n hx hb dX0_step_136 rfl (lv_at hl 0 rfl) ?_
        refine gg0_get (v := .int (u.1 11)) hx hb hts hin hown hK G 11 (by decide) (index := 46) (by decide +kernel) rfl dX0_step_137 ?_
        refine gg0_ld7 hx hb hK G (i := u.1 11) (hlo.resolve_left (c_30 c_115)) dX0_step_140 ?_
        refine gx_is (y := (st_sa (st_sa (st_sa u 5 (ix (u.1 9)) p0) 6 (ix (u.1 9)) p1) 7 (ix (u.1 9)) (u.1 11)).2 7 (ix (u.1 11))) (congrFun (st_sa_2 _ _ _ (by decide)) _) ?_
        refine gg0_put11 (v := (st_sa (st_sa (st_sa u 5 (ix (u.1 9)) p0) 6 (ix (u.1 9)) p1) 7 (ix (u.1 9)) (u.1 11)).2 7 (ix (u.1 11))) hx hb hts hin hown hK G (index := 46) (by decide +kernel) dX0_step_141 (fun H locs G => ?_)
        refine lv_aload_n hx hb dX0_step_144 rfl (lv_at hl 0 rfl) ?_
        refine lv_dup hx hb dX0_step_145 rfl ?_
        refine gg0_get (v := .int (u.1 10)) hx hb hts hin hown hK G 10 (by decide) (index := 43) (by decide +kernel) rfl dX0_step_146 ?_
        refine lv_iconst (v := 1) hx hb dX0_step_149 (by decide) ?_
        refine lv_isub hx hb dX0_step_150 ?_
        refine gg0_put10 (v := (u.1 10) - 1) hx hb hts hin hown hK G (index := 43) (by decide +kernel) dX0_step_151 (fun H locs G => ?_)
        refine lv_aload_n hx hb dX0_step_154 rfl (lv_at hl 0 rfl) ?_
        refine lv_dup hx hb dX0_step_155 rfl ?_
        refine gg0_get (v := .int (u.1 9)) hx hb hts hin hown hK G 9 (by decide) (index := 40) (by decide +kernel) rfl dX0_step_156 ?_
        refine lv_iconst (v := 1) hx hb dX0_step_159 (by decide) ?_
        refine lv_iadd hx hb dX0_step_160 ?_
        refine gg0_put9 (v := (u.1 9) + 1) hx hb hts hin hown hK G (index := 40) (by decide +kernel) dX0_step_161 (fun H locs G => ?_)
        refine lv_aload_n hx hb dX0_step_164 rfl (lv_at hl 0 rfl) ?_
        refine gg0_get (v := .int ((u.1 9) + 1)) hx hb hts hin hown hK G 9 (by decide) (index := 40) (by decide +kernel) rfl dX0_step_165 ?_
        exact gx_iret (wf := gw0_ cI cZ h q) (u1 := st_si (st_si (st_si (st_sa (st_sa (st_sa (st_sa u 5 (ix (u.1 9)) p0) 6 (ix (u.1 9)) p1) 7 (ix (u.1 9)) (u.1 11)) 8 (ix (u.1 11)) (u.1 9)) 11 ((st_sa (st_sa (st_sa u 5 (ix (u.1 9)) p0) 6 (ix (u.1 9)) p1) 7 (ix (u.1 9)) (u.1 11)).2 7 (ix (u.1 11)))) 10 ((u.1 10) - 1)) 9 ((u.1 9) + 1)) hx hb hr hlocks hsz hK hAe G dX0_step_168 (hf.trans (by unfold pd_step_86; rw [if_pos c_90, if_pos c_115]))
    · refine lv_aload_n hx hb dX0_step_93 rfl (lv_at hl 0 rfl) ?_
      refine lv_aload_n hx hb dX0_step_94 rfl (lv_at hl 0 rfl) ?_
      refine gg0_get (v := .int (u.1 9)) hx hb hts hin hown hK G 9 (by decide) (index := 40) (by decide +kernel) rfl dX0_step_95 ?_
      refine gg0_put11 (v := u.1 9) hx hb hts hin hown hK G (index := 46) (by decide +kernel) dX0_step_98 (fun H locs G => ?_)
      refine lv_aload_n hx hb dX0_step_101 rfl (lv_at hl 0 rfl) ?_
      refine lv_dup hx hb dX0_step_102 rfl ?_
      refine gg0_get (v := .int (u.1 10)) hx hb hts hin hown hK G 10 (by decide) (index := 43) (by decide +kernel) rfl dX0_step_103 ?_
      refine lv_iconst (v := 1) hx hb dX0_step_106 (by decide) ?_
      refine lv_iadd hx hb dX0_step_107 ?_
      refine gg0_put10 (v := (u.1 10) + 1) hx hb hts hin hown hK G (index := 43) (by decide +kernel) dX0_step_108 (fun H locs G => ?_)
      refine lv_goto (tgt := 154) hx hb dX0_step_111 (by decide) ?_
      refine lv_aload_n hx hb dX0_step_154 rfl (lv_at hl 0 rfl) ?_
      refine lv_dup hx hb dX0_step_155 rfl ?_
      refine gg0_get (v := .int (u.1 9)) hx hb hts hin hown hK G 9 (by decide) (index := 40) (by decide +kernel) rfl dX0_step_156 ?_
      refine lv_iconst (v := 1) hx hb dX0_step_159 (by decide) ?_
      refine lv_iadd hx hb dX0_step_160 ?_
      refine gg0_put9 (v := (u.1 9) + 1) hx hb hts hin hown hK G (index := 40) (by decide +kernel) dX0_step_161 (fun H locs G => ?_)
      refine lv_aload_n hx hb dX0_step_164 rfl (lv_at hl 0 rfl) ?_
      refine gg0_get (v := .int ((u.1 9) + 1)) hx hb hts hin hown hK G 9 (by decide) (index := 40) (by decide +kernel) rfl dX0_step_165 ?_
      exact gx_iret (wf := gw0_ cI cZ h q) (u1 := st_si (st_si (st_si (st_sa (st_sa (st_sa u 5 (ix (u.1 9)) p0) 6 (ix (u.1 9)) p1) 7 (ix (u.1 9)) (u.1 11)) 11 (u.1 9)) 10 ((u.1 10) + 1)) 9 ((u.1 9) + 1)) hx hb hr hlocks hsz hK hAe G dX0_step_168 (hf.trans (by unfold pd_step_86; rw [if_neg c_90]))
  refine lv_iload_n hx hb dX0_step_0 rfl (lv_at hl 1 rfl) ?_
  refine lv_if_lt (tgt := 19) hx hb dX0_step_1 (by decide) (fun c_1 => ?_) (fun c_1 => ?_)
  · refine lv_iconst (v := (-1)) hx hb dX0_step_19 (by decide) ?_
    exact gx_iret (wf := gw0_ cI cZ h q) (u1 := u) hx hb hr hlocks hsz hK hAe G dX0_step_20 (by unfold pd_step; rw [if_pos c_1])
  · refine lv_iload_n hx hb dX0_step_4 rfl (lv_at hl 1 rfl) ?_
    refine lv_bipush (v := 15) hx hb dX0_step_5 (by decide) ?_
    refine lv_icmp_gt (tgt := 19) hx hb dX0_step_7 (by decide) (fun c_7 => ?_) (fun c_7 => ?_)
    · refine lv_iconst (v := (-1)) hx hb dX0_step_19 (by decide) ?_
      exact gx_iret (wf := gw0_ cI cZ h q) (u1 := u) hx hb hr hlocks hsz hK hAe G dX0_step_20 (by unfold pd_step; rw [if_neg c_1, if_pos c_7])
    · refine lv_aload_n hx hb dX0_step_10 rfl (lv_at hl 0 rfl) ?_
      refine gg0_get (v := .int (u.1 9)) hx hb hts hin hown hK G 9 (by decide) (index := 40) (by decide +kernel) rfl dX0_step_11 ?_
      refine lv_bipush (v := 24) hx hb dX0_step_14 (by decide) ?_
      refine lv_icmp_lt (tgt := 21) hx hb dX0_step_16 (by decide) (fun c_16 => ?_) (fun c_16 => ?_)
      · refine lv_iload_n hx hb dX0_step_21 rfl (lv_at hl 1 rfl) ?_
        refine lv_if_ne (tgt := 35) hx hb dX0_step_22 (by decide) (fun c_22 => ?_) (fun c_22 => ?_)
        · refine lv_iload_n hx hb dX0_step_35 rfl (lv_at hl 1 rfl) ?_
          refine gx_calls (f := pd_opensBlock p0) (As := [.int p0]) (rest := []) 1 hx hb hml hown hts (kd_opensBlock l p0 ) gX0_step_X0_opensBlock rfl rfl rfl hd_X0_opensBlock ⟨Nat.le_of_ble_eq_true rfl, Nat.le_of_ble_eq_true rfl⟩ rfl hl.1 rfl (Nat.le_of_ble_eq_true rfl) dX0_step_36 (Nat.zero_le _) (Nat.zero_le _) ?_
          refine lv_if_eq (tgt := 53) hx hb dX0_step_39 (by decide) (fun c_39 => ?_) (fun c_39 => ?_)
          · refine lv_aload_n hx hb dX0_step_53 rfl (lv_at hl 0 rfl) ?_
            refine gg0_get (v := .ref (q 5)) hx hb hts hin hown hK G 5 (by decide) (index := 28) (by decide +kernel) rfl dX0_step_54 ?_
            refine lv_aload_n hx hb dX0_step_57 rfl (lv_at hl 0 rfl) ?_
            refine gg0_get (v := .int (u.1 9)) hx hb hts hin hown hK G 9 (by decide) (index := 40) (by decide +kernel) rfl dX0_step_58 ?_
            refine lv_iload_n hx hb dX0_step_61 rfl (lv_at hl 1 rfl) ?_
            refine gg0_st5 hx hb hK G (i := u.1 9) (x := p0) (in_2 (M := 24) (by decide) hsc c_16) dX0_step_62 (fun H locs G => ?_)
            refine lv_aload_n hx hb dX0_step_63 rfl (lv_at hl 0 rfl) ?_
            refine gg0_get (v := .ref (q 6)) hx hb hts hin hown hK G 6 (by decide) (index := 31) (by decide +kernel) rfl dX0_step_64 ?_
            refine lv_aload_n hx hb dX0_step_67 rfl (lv_at hl 0 rfl) ?_
            refine gg0_get (v := .int (u.1 9)) hx hb hts hin hown hK G 9 (by decide) (index := 40) (by decide +kernel) rfl dX0_step_68 ?_
            refine lv_iload_n hx hb dX0_step_71 rfl (lv_at hl 2 rfl) ?_
            refine gg0_st6 hx hb hK G (i := u.1 9) (x := p1) (in_2 (M := 24) (by decide) hsc c_16) dX0_step_72 (fun H locs G => ?_)
            refine lv_aload_n hx hb dX0_step_73 rfl (lv_at hl 0 rfl) ?_
            refine gg0_get (v := .ref (q 7)) hx hb hts hin hown hK G 7 (by decide) (index := 34) (by decide +kernel) rfl dX0_step_74 ?_
            refine lv_aload_n hx hb dX0_step_77 rfl (lv_at hl 0 rfl) ?_
            refine gg0_get (v := .int (u.1 9)) hx hb hts hin hown hK G 9 (by decide) (index := 40) (by decide +kernel) rfl dX0_step_78 ?_
            refine lv_aload_n hx hb dX0_step_81 rfl (lv_at hl 0 rfl) ?_
            refine gg0_get (v := .int (u.1 11)) hx hb hts hin hown hK G 11 (by decide) (index := 46) (by decide +kernel) rfl dX0_step_82 ?_
            refine gg0_st7 hx hb hK G (i := u.1 9) (x := u.1 11) (in_2 (M := 24) (by decide) hsc c_16) dX0_step_85 (fun H locs G => ?_)
            exact tail_86 _ _ ls G hl (fun z => absurd z c_22) (by unfold pd_step; rw [if_neg c_1, if_neg c_7, if_pos c_16, if_neg c_22, if_pos c_39])
          · refine lv_aload_n hx hb dX0_step_42 rfl (lv_at hl 0 rfl) ?_
            refine gg0_get (v := .int (u.1 10)) hx hb hts hin hown hK G 10 (by decide) (index := 43) (by decide +kernel) rfl dX0_step_43 ?_
            refine lv_bipush (v := 8) hx hb dX0_step_46 (by decide) ?_
            refine lv_icmp_lt (tgt := 53) hx hb dX0_step_48 (by decide) (fun c_48 => ?_) (fun c_48 => ?_)
            · refine lv_aload_n hx hb dX0_step_53 rfl (lv_at hl 0 rfl) ?_
              refine gg0_get (v := .ref (q 5)) hx hb hts hin hown hK G 5 (by decide) (index := 28) (by decide +kernel) rfl dX0_step_54 ?_
              refine lv_aload_n hx hb dX0_step_57 rfl (lv_at hl 0 rfl) ?_
              refine gg0_get (v := .int (u.1 9)) hx hb hts hin hown hK G 9 (by decide) (index := 40) (by decide +kernel) rfl dX0_step_58 ?_
              refine lv_iload_n hx hb dX0_step_61 rfl (lv_at hl 1 rfl) ?_
              refine gg0_st5 hx hb hK G (i := u.1 9) (x := p0) (in_2 (M := 24) (by decide) hsc c_16) dX0_step_62 (fun H locs G => ?_)
              refine lv_aload_n hx hb dX0_step_63 rfl (lv_at hl 0 rfl) ?_
              refine gg0_get (v := .ref (q 6)) hx hb hts hin hown hK G 6 (by decide) (index := 31) (by decide +kernel) rfl dX0_step_64 ?_
              refine lv_aload_n hx hb dX0_step_67 rfl (lv_at hl 0 rfl) ?_
              refine gg0_get (v := .int (u.1 9)) hx hb hts hin hown hK G 9 (by decide) (index := 40) (by decide +kernel) rfl dX0_step_68 ?_
              refine lv_iload_n hx hb dX0_step_71 rfl (lv_at hl 2 rfl) ?_
              refine gg0_st6 hx hb hK G (i := u.1 9) (x := p1) (in_2 (M := 24) (by decide) hsc c_16) dX0_step_72 (fun H locs G => ?_)
              refine lv_aload_n hx hb dX0_step_73 rfl (lv_at hl 0 rfl) ?_
              refine gg0_get (v := .ref (q 7)) hx hb hts hin hown hK G 7 (by decide) (index := 34) (by decide +kernel) rfl dX0_step_74 ?_
              refine lv_aload_n hx hb dX0_step_77 rfl (lv_at hl 0 rfl) ?_
              refine gg0_get (v := .int (u.1 9)) hx hb hts hin hown hK G 9 (by decide) (index := 40) (by decide +kernel) rfl dX0_step_78 ?_
              refine lv_aload_n hx hb dX0_step_81 rfl (lv_at hl 0 rfl) ?_
              refine gg0_get (v := .int (u.1 11)) hx hb hts hin hown hK G 11 (by decide) (index := 46) (by decide +kernel) rfl dX0_step_82 ?_
              refine gg0_st7 hx hb hK G (i := u.1 9) (x := u.1 11) (in_2 (M := 24) (by decide) hsc c_16) dX0_step_85 (fun H locs G => ?_)
              exact tail_86 _ _ ls G hl (fun z => absurd z c_22) (by unfold pd_step; rw [if_neg c_1, if_neg c_7, if_pos c_16, if_neg c_22, if_neg c_39, if_pos c_48])
            · refine lv_iconst (v := (-1)) hx hb dX0_step_51 (by decide) ?_
              exact gx_iret (wf := gw0_ cI cZ h q) (u1 := u) hx hb hr hlocks hsz hK hAe G dX0_step_52 (by unfold pd_step; rw [if_neg c_1, if_neg c_7, if_pos c_16, if_neg c_22, if_neg c_39, if_neg c_48])
        · refine lv_aload_n hx hb dX0_step_25 rfl (lv_at hl 0 rfl) ?_
          refine gg0_get (v := .int (u.1 11)) hx hb hts hin hown hK G 11 (by decide) (index := 46) (by decide +kernel) rfl dX0_step_26 ?_
          refine lv_iconst (v := (-1)) hx hb dX0_step_29 (by decide) ?_
          refine lv_icmp_ne (tgt := 35) hx hb dX0_step_30 (by decide) (fun c_30 => ?_) (fun c_30 => ?_)
          · refine lv_iload_n hx hb dX0_step_35 rfl (lv_at hl 1 rfl) ?_
            refine gx_calls (f := pd_opensBlock p0) (As := [.int p0]) (rest := []) 1 hx hb hml hown hts (kd_opensBlock l p0 ) gX0_step_X0_opensBlock rfl rfl rfl hd_X0_opensBlock ⟨Nat.le_of_ble_eq_true rfl, Nat.le_of_ble_eq_true rfl⟩ rfl hl.1 rfl (Nat.le_of_ble_eq_true rfl) dX0_step_36 (Nat.zero_le _) (Nat.zero_le _) ?_
            refine lv_if_eq (tgt := 53) hx hb dX0_step_39 (by decide) (fun c_39 => ?_) (fun c_39 => ?_)
            · refine lv_aload_n hx hb dX0_step_53 rfl (lv_at hl 0 rfl) ?_
              refine gg0_get (v := .ref (q 5)) hx hb hts hin hown hK G 5 (by decide) (index := 28) (by decide +kernel) rfl dX0_step_54 ?_
              refine lv_aload_n hx hb dX0_step_57 rfl (lv_at hl 0 rfl) ?_
              refine gg0_get (v := .int (u.1 9)) hx hb hts hin hown hK G 9 (by decide) (index := 40) (by decide +kernel) rfl dX0_step_58 ?_
              refine lv_iload_n hx hb dX0_step_61 rfl (lv_at hl 1 rfl) ?_
              refine gg0_st5 hx hb hK G (i := u.1 9) (x := p0) (in_2 (M := 24) (by decide) hsc c_16) dX0_step_62 (fun H locs G => ?_)
              refine lv_aload_n hx hb dX0_step_63 rfl (lv_at hl 0 rfl) ?_
              refine gg0_get (v := .ref (q 6)) hx hb hts hin hown hK G 6 (by decide) (index := 31) (by decide +kernel) rfl dX0_step_64 ?_
              refine lv_aload_n hx hb dX0_step_67 rfl (lv_at hl 0 rfl) ?_
              refine gg0_get (v := .int (u.1 9)) hx hb hts hin hown hK G 9 (by decide) (index := 40) (by decide +kernel) rfl dX0_step_68 ?_
              refine lv_iload_n hx hb dX0_step_71 rfl (lv_at hl 2 rfl) ?_
              refine gg0_st6 hx hb hK G (i := u.1 9) (x := p1) (in_2 (M := 24) (by decide) hsc c_16) dX0_step_72 (fun H locs G => ?_)
              refine lv_aload_n hx hb dX0_step_73 rfl (lv_at hl 0 rfl) ?_
              refine gg0_get (v := .ref (q 7)) hx hb hts hin hown hK G 7 (by decide) (index := 34) (by decide +kernel) rfl dX0_step_74 ?_
              refine lv_aload_n hx hb dX0_step_77 rfl (lv_at hl 0 rfl) ?_
              refine gg0_get (v := .int (u.1 9)) hx hb hts hin hown hK G 9 (by decide) (index := 40) (by decide +kernel) rfl dX0_step_78 ?_
              refine lv_aload_n hx hb dX0_step_81 rfl (lv_at hl 0 rfl) ?_
              refine gg0_get (v := .int (u.1 11)) hx hb hts hin hown hK G 11 (by decide) (index := 46) (by decide +kernel) rfl dX0_step_82 ?_
              refine gg0_st7 hx hb hK G (i := u.1 9) (x := u.1 11) (in_2 (M := 24) (by decide) hsc c_16) dX0_step_85 (fun H locs G => ?_)
              exact tail_86 _ _ ls G hl (fun _ => c_30) (by unfold pd_step; rw [if_neg c_1, if_neg c_7, if_pos c_16, if_pos c_22, if_neg c_30, if_pos c_39])
            · refine lv_aload_n hx hb dX0_step_42 rfl (lv_at hl 0 rfl) ?_
              refine gg0_get (v := .int (u.1 10)) hx hb hts hin hown hK G 10 (by decide) (index := 43) (by decide +kernel) rfl dX0_step_43 ?_
              refine lv_bipush (v := 8) hx hb dX0_step_46 (by decide) ?_
              refine lv_icmp_lt (tgt := 53) hx hb dX0_step_48 (by decide) (fun c_48 => ?_) (fun c_48 => ?_)
              · refine lv_aload_n hx hb dX0_step_53 rfl (lv_at hl 0 rfl) ?_
                refine gg0_get (v := .ref (q 5)) hx hb hts hin hown hK G 5 (by decide) (index := 28) (by decide +kernel) rfl dX0_step_54 ?_
                refine lv_aload_n hx hb dX0_step_57 rfl (lv_at hl 0 rfl) ?_
                refine gg0_get (v := .int (u.1 9)) hx hb hts hin hown hK G 9 (by decide) (index := 40) (by decide +kernel) rfl dX0_step_58 ?_
                refine lv_iload_n hx hb dX0_step_61 rfl (lv_at hl 1 rfl) ?_
                refine gg0_st5 hx hb hK G (i := u.1 9) (x := p0) (in_2 (M := 24) (by decide) hsc c_16) dX0_step_62 (fun H locs G => ?_)
                refine lv_aload_n hx hb dX0_step_63 rfl (lv_at hl 0 rfl) ?_
                refine gg0_get (v := .ref (q 6)) hx hb hts hin hown hK G 6 (by decide) (index := 31) (by decide +kernel) rfl dX0_step_64 ?_
                refine lv_aload_n hx hb dX0_step_67 rfl (lv_at hl 0 rfl) ?_
                refine gg0_get (v := .int (u.1 9)) hx hb hts hin hown hK G 9 (by decide) (index := 40) (by decide +kernel) rfl dX0_step_68 ?_
                refine lv_iload_n hx hb dX0_step_71 rfl (lv_at hl 2 rfl) ?_
                refine gg0_st6 hx hb hK G (i := u.1 9) (x := p1) (in_2 (M := 24) (by decide) hsc c_16) dX0_step_72 (fun H locs G => ?_)
                refine lv_aload_n hx hb dX0_step_73 rfl (lv_at hl 0 rfl) ?_
                refine gg0_get (v := .ref (q 7)) hx hb hts hin hown hK G 7 (by decide) (index := 34) (by decide +kernel) rfl dX0_step_74 ?_
                refine lv_aload_n hx hb dX0_step_77 rfl (lv_at hl 0 rfl) ?_
                refine gg0_get (v := .int (u.1 9)) hx hb hts hin hown hK G 9 (by decide) (index := 40) (by decide +kernel) rfl dX0_step_78 ?_
                refine lv_aload_n hx hb dX0_step_81 rfl (lv_at hl 0 rfl) ?_
                refine gg0_get (v := .int (u.1 11)) hx hb hts hin hown hK G 11 (by decide) (index := 46) (by decide +kernel) rfl dX0_step_82 ?_
                refine gg0_st7 hx hb hK G (i := u.1 9) (x := u.1 11) (in_2 (M := 24) (by decide) hsc c_16) dX0_step_85 (fun H locs G => ?_)
                exact tail_86 _ _ ls G hl (fun _ => c_30) (by unfold pd_step; rw [if_neg c_1, if_neg c_7, if_pos c_16, if_pos c_22, if_neg c_30, if_neg c_39, if_pos c_48])
              · refine lv_iconst (v := (-1)) hx hb dX0_step_51 (by decide) ?_
                exact gx_iret (wf := gw0_ cI cZ h q) (u1 := u) hx hb hr hlocks hsz hK hAe G dX0_step_52 (by unfold pd_step; rw [if_neg c_1, if_neg c_7, if_pos c_16, if_pos c_22, if_neg c_30, if_neg c_39, if_neg c_48])
          · refine lv_iconst (v := (-1)) hx hb dX0_step_33 (by decide) ?_
            exact gx_iret (wf := gw0_ cI cZ h q) (u1 := u) hx hb hr hlocks hsz hK hAe G dX0_step_34 (by unfold pd_step; rw [if_neg c_1, if_neg c_7, if_pos c_16, if_pos c_22, if_pos c_30])
      · refine lv_iconst (v := (-1)) hx hb dX0_step_19 (by decide) ?_
        exact gx_iret (wf := gw0_ cI cZ h q) (u1 := u) hx hb hr hlocks hsz hK hAe G dX0_step_20 (by unfold pd_step; rw [if_neg c_1, if_neg c_7, if_neg c_16])
theorem hd_X0_step : yX0_step.cls = RX0 ∧ yX0_step.cls ≠ "java/lang/invoke/MethodHandle" ∧ yX0_step.cls ≠ "java/lang/invoke/VarHandle" ∧ (parseMethodDescriptor yX0_step.desc).map (fun d => d.parameters.length) = some 2 := by decide +kernel
def pd_clear (u : st_T) : Int32 × st_T :=
  (u.1 9, st_si (st_si (st_si u 9 0) 10 0) 11 (-1))
set_option maxHeartbeats 4000000 in
set_option maxRecDepth 100000 in
theorem kd_clear (l : Launch) (dC : Nat → ClassId) (dI : Nat → Nat → Nat) (cI cZ : ClassId) (h : Nat) (q : Nat → Nat) (sz : Nat) (u : st_T) : gx_Mi l yX0_clear wsX0_clear { frames := 0, cells := 0, slots := 0, locals := 0 } [.ref h] (dC, dI) cI cZ (gw0_ cI cZ h q) u sz (pd_clear u) := by
  refine gx_met (cc := cX0_clear) (maxL := 2) (ret := (some .int)) (by decide +kernel) rfl (Nat.le_of_ble_eq_true rfl) (fun p e s m args below meth c A ls hsz hx hb hr hlocks hts hown hml hK hAe hA G hl => ?_)
  have hown : s.vm.findClass RX0 = some m.cls := hown
  have hin : ∀ w ∈ wsX00, w ∈ wsX0_clear := gx_in
  have hl : lv_has ls 2 [(0, .ref h)] := hl
  refine lv_aload_n hx hb dX0_clear_0 rfl (lv_at hl 0 rfl) ?_
  refine gg0_get (v := .int (u.1 9)) hx hb hts hin hown hK G 9 (by decide) (index := 40) (by decide +kernel) rfl dX0_clear_1 ?_
  refine lv_istore_n (lv' := [(1, .int (u.1 9)), (0, .ref h)]) hx hb dX0_clear_4 rfl hl (by decide) rfl (fun ls hl => ?_)
  refine lv_aload_n hx hb dX0_clear_5 rfl (lv_at hl 1 rfl) ?_
  refine lv_iconst (v := 0) hx hb dX0_clear_6 (by decide) ?_
  refine gg0_put9 (v := 0) hx hb hts hin hown hK G (index := 40) (by decide +kernel) dX0_clear_7 (fun H locs G => ?_)
  refine lv_aload_n hx hb dX0_clear_10 rfl (lv_at hl 1 rfl) ?_
  refine lv_iconst (v := 0) hx hb dX0_clear_11 (by decide) ?_
  refine gg0_put10 (v := 0) hx hb hts hin hown hK G (index := 43) (by decide +kernel) dX0_clear_12 (fun H locs G => ?_)
  refine lv_aload_n hx hb dX0_clear_15 rfl (lv_at hl 1 rfl) ?_
  refine lv_iconst (v := (-1)) hx hb dX0_clear_16 (by decide) ?_
  refine gg0_put11 (v := (-1)) hx hb hts hin hown hK G (index := 46) (by decide +kernel) dX0_clear_17 (fun H locs G => ?_)
  refine lv_iload_n hx hb dX0_clear_20 rfl (lv_at hl 0 rfl) ?_
  exact gx_iret (wf := gw0_ cI cZ h q) (u1 := st_si (st_si (st_si u 9 0) 10 0) 11 (-1)) hx hb hr hlocks hsz hK hAe G dX0_clear_21 (by unfold pd_clear; rfl)
theorem hd_X0_clear : yX0_clear.cls = RX0 ∧ yX0_clear.cls ≠ "java/lang/invoke/MethodHandle" ∧ yX0_clear.cls ≠ "java/lang/invoke/VarHandle" ∧ (parseMethodDescriptor yX0_clear.desc).map (fun d => d.parameters.length) = some 0 := by decide +kernel
def pd_result (u : st_T) (p0 : Int32) : Int32 :=
  if p0 < 0 then
    (-1)
  else
    if p0 < 24 then
      u.2 12 (ix p0)
    else
      (-1)
set_option maxHeartbeats 4000000 in
set_option maxRecDepth 100000 in
theorem kd_result (l : Launch) (dC : Nat → ClassId) (dI : Nat → Nat → Nat) (cI cZ : ClassId) (h : Nat) (q : Nat → Nat) (sz : Nat) (u : st_T) (p0 : Int32) : gx_Mi l yX0_result wsX0_result { frames := 0, cells := 0, slots := 0, locals := 0 } [.ref h, .int p0] (dC, dI) cI cZ (gw0_ cI cZ h q) u sz (pd_result u p0, u) := by
  refine gx_met (cc := cX0_result) (maxL := 2) (ret := (some .int)) (by decide +kernel) rfl (Nat.le_of_ble_eq_true rfl) (fun p e s m args below meth c A ls hsz hx hb hr hlocks hts hown hml hK hAe hA G hl => ?_)
  have hown : s.vm.findClass RX0 = some m.cls := hown
  have hin : ∀ w ∈ wsX00, w ∈ wsX0_result := gx_in
  have hl : lv_has ls 2 [(0, .ref h), (1, .int p0)] := hl
  refine lv_iload_n hx hb dX0_result_0 rfl (lv_at hl 1 rfl) ?_
  refine lv_if_lt (tgt := 10) hx hb dX0_result_1 (by decide) (fun c_1 => ?_) (fun c_1 => ?_)
  · refine lv_iconst (v := (-1)) hx hb dX0_result_10 (by decide) ?_
    exact gx_iret (wf := gw0_ cI cZ h q) (u1 := u) hx hb hr hlocks hsz hK hAe G dX0_result_11 (congrArg (fun z => (z, u)) (by unfold pd_result; rw [if_pos c_1]))
  · refine lv_iload_n hx hb dX0_result_4 rfl (lv_at hl 1 rfl) ?_
    refine lv_bipush (v := 24) hx hb dX0_result_5 (by decide) ?_
    refine lv_icmp_lt (tgt := 12) hx hb dX0_result_7 (by decide) (fun c_7 => ?_) (fun c_7 => ?_)
    · refine lv_aload_n hx hb dX0_result_12 rfl (lv_at hl 0 rfl) ?_
      refine gg0_get (v := .ref (q 12)) hx hb hts hin hown hK G 12 (by decide) (index := 49) (by decide +kernel) rfl dX0_result_13 ?_
      refine lv_iload_n hx hb dX0_result_16 rfl (lv_at hl 1 rfl) ?_
      refine gg0_ld12 hx hb hK G (i := p0) (in_2 (M := 24) (by decide) c_1 c_7) dX0_result_17 ?_
      exact gx_iret (wf := gw0_ cI cZ h q) (u1 := u) hx hb hr hlocks hsz hK hAe G dX0_result_18 (congrArg (fun z => (z, u)) (by unfold pd_result; rw [if_neg c_1, if_pos c_7]))
    · refine lv_iconst (v := (-1)) hx hb dX0_result_10 (by decide) ?_
      exact gx_iret (wf := gw0_ cI cZ h q) (u1 := u) hx hb hr hlocks hsz hK hAe G dX0_result_11 (congrArg (fun z => (z, u)) (by unfold pd_result; rw [if_neg c_1, if_neg c_7]))
theorem hd_X0_result : yX0_result.cls = RX0 ∧ yX0_result.cls ≠ "java/lang/invoke/MethodHandle" ∧ yX0_result.cls ≠ "java/lang/invoke/VarHandle" ∧ (parseMethodDescriptor yX0_result.desc).map (fun d => d.parameters.length) = some 1 := by decide +kernel
def pd_failure (u : st_T) : Int32 :=
  u.1 13
set_option maxHeartbeats 4000000 in
set_option maxRecDepth 100000 in
theorem kd_failure (l : Launch) (dC : Nat → ClassId) (dI : Nat → Nat → Nat) (cI cZ : ClassId) (h : Nat) (q : Nat → Nat) (sz : Nat) (u : st_T) : gx_Mi l yX0_failure wsX0_failure { frames := 0, cells := 0, slots := 0, locals := 0 } [.ref h] (dC, dI) cI cZ (gw0_ cI cZ h q) u sz (pd_failure u, u) := by
  refine gx_met (cc := cX0_failure) (maxL := 1) (ret := (some .int)) (by decide +kernel) rfl (Nat.le_of_ble_eq_true rfl) (fun p e s m args below meth c A ls hsz hx hb hr hlocks hts hown hml hK hAe hA G hl => ?_)
  have hown : s.vm.findClass RX0 = some m.cls := hown
  have hin : ∀ w ∈ wsX00, w ∈ wsX0_failure := gx_in
  have hl : lv_has ls 1 [(0, .ref h)] := hl
  refine lv_aload_n hx hb dX0_failure_0 rfl (lv_at hl 0 rfl) ?_
  refine gg0_get (v := .int (u.1 13)) hx hb hts hin hown hK G 13 (by decide) (index := 52) (by decide +kernel) rfl dX0_failure_1 ?_
  exact gx_iret (wf := gw0_ cI cZ h q) (u1 := u) hx hb hr hlocks hsz hK hAe G dX0_failure_4 (congrArg (fun z => (z, u)) (by unfold pd_failure; rfl))
theorem hd_X0_failure : yX0_failure.cls = RX0 ∧ yX0_failure.cls ≠ "java/lang/invoke/MethodHandle" ∧ yX0_failure.cls ≠ "java/lang/invoke/VarHandle" ∧ (parseMethodDescriptor yX0_failure.desc).map (fun d => d.parameters.length) = some 0 := by decide +kernel
theorem hs_in {x : Int32} (h1 : ¬ x < 5) (h2 : x < 10) : vp_in (x - 5) 5 := by
  rw [Int32.lt_iff_toInt_lt] at h1 h2
  rw [show (5 : Int32).toInt = 5 by decide] at h1
  rw [show (10 : Int32).toInt = 10 by decide] at h2
  refine vp_in_iff.mpr ?_
  have e : (x - 5).toInt = x.toInt - 5 := by
    rw [Int32.toInt_sub, show (5 : Int32).toInt = 5 by decide]
    exact Int.bmod_eq_of_le_mul_two (by omega) (by omega)
  omega
def pd_handleState (u : st_T) (p0 : Int32) : Int32 :=
  if p0 < 5 then
    (-1)
  else
    if p0 < 10 then
      if u.2 0 (ix (p0 - 5)) = 0 then
        (-2)
      else
        pd_leastHandle u (p0 - 5)
    else
      (-1)
set_option maxHeartbeats 4000000 in
set_option maxRecDepth 100000 in
theorem kd_handleState (l : Launch) (dC : Nat → ClassId) (dI : Nat → Nat → Nat) (cI cZ : ClassId) (h : Nat) (q : Nat → Nat) (sz : Nat) (u : st_T) (p0 : Int32) : gx_Mi l yX0_handleState wsX0_handleState { frames := 1, cells := 0, slots := 0, locals := 22 } [.ref h, .int p0] (dC, dI) cI cZ (gw0_ cI cZ h q) u sz (pd_handleState u p0, u) := by
  refine gx_met (cc := cX0_handleState) (maxL := 3) (ret := (some .int)) (by decide +kernel) rfl (Nat.le_of_ble_eq_true rfl) (fun p e s m args below meth c A ls hsz hx hb hr hlocks hts hown hml hK hAe hA G hl => ?_)
  have hown : s.vm.findClass RX0 = some m.cls := hown
  have hin : ∀ w ∈ wsX00, w ∈ wsX0_handleState := gx_in
  have hl : lv_has ls 3 [(0, .ref h), (1, .int p0)] := hl
  refine lv_iload_n hx hb dX0_handleState_0 rfl (lv_at hl 1 rfl) ?_
  refine lv_iconst (v := 5) hx hb dX0_handleState_1 (by decide) ?_
  refine lv_icmp_lt (tgt := 11) hx hb dX0_handleState_2 (by decide) (fun c_2 => ?_) (fun c_2 => ?_)
  · refine lv_iconst (v := (-1)) hx hb dX0_handleState_11 (by decide) ?_
    exact gx_iret (wf := gw0_ cI cZ h q) (u1 := u) hx hb hr hlocks hsz hK hAe G dX0_handleState_12 (congrArg (fun z => (z, u)) (by unfold pd_handleState; rw [if_pos c_2]))
  · refine lv_iload_n hx hb dX0_handleState_5 rfl (lv_at hl 1 rfl) ?_
    refine lv_bipush (v := 10) hx hb dX0_handleState_6 (by decide) ?_
    refine lv_icmp_lt (tgt := 13) hx hb dX0_handleState_8 (by decide) (fun c_8 => ?_) (fun c_8 => ?_)
    · refine lv_iload_n hx hb dX0_handleState_13 rfl (lv_at hl 1 rfl) ?_
      refine lv_iconst (v := 5) hx hb dX0_handleState_14 (by decide) ?_
      refine lv_isub hx hb dX0_handleState_15 ?_
      refine lv_istore_n (lv' := [(2, .int (p0 - 5)), (0, .ref h), (1, .int p0)]) hx hb dX0_handleState_16 rfl hl (by decide) rfl (fun ls hl => ?_)
      refine lv_aload_n hx hb dX0_handleState_17 rfl (lv_at hl 1 rfl) ?_
      refine gg0_get (v := .ref (q 0)) hx hb hts hin hown hK G 0 (by decide) (index := 9) (by decide +kernel) rfl dX0_handleState_18 ?_
      refine lv_iload_n hx hb dX0_handleState_21 rfl (lv_at hl 0 rfl) ?_
      refine gg0_ld0 hx hb hK G (i := p0 - 5) (hs_in c_2 c_8) dX0_handleState_22 ?_
      refine lv_if_ne (tgt := 31) hx hb dX0_handleState_23 (by decide) (fun c_23 => ?_) (fun c_23 => ?_)
      · refine lv_aload_n hx hb dX0_handleState_31 rfl (lv_at hl 1 rfl) ?_
        refine lv_iload_n hx hb dX0_handleState_32 rfl (lv_at hl 0 rfl) ?_
        refine gx_callr (wf := gw0_ cI cZ h q) (u := u) (f := pd_leastHandle u (p0 - 5)) (As := [.int (p0 - 5)]) (rest := []) 1 hx hb hml hown hts hK hA G rfl rfl (kd_leastHandle l dC dI cI cZ h q _ u (p0 - 5) (hs_in c_2 c_8)) gX0_handleState_X0_leastHandle rfl rfl rfl hd_X0_leastHandle ⟨Nat.le_of_ble_eq_true rfl, Nat.le_of_ble_eq_true rfl⟩ rfl hl.1 rfl (Nat.le_of_ble_eq_true rfl) dX0_handleState_33 (Nat.zero_le _) (Nat.zero_le _) (fun H locs G => ?_)
        exact gx_iret (wf := gw0_ cI cZ h q) (u1 := u) hx hb hr hlocks hsz hK hAe G dX0_handleState_36 (congrArg (fun z => (z, u)) (by unfold pd_handleState; rw [if_neg c_2, if_pos c_8, if_neg c_23]))
      · refine lv_bipush (v := (-2)) hx hb dX0_handleState_26 (by decide) ?_
        refine lv_goto (tgt := 36) hx hb dX0_handleState_28 (by decide) ?_
        exact gx_iret (wf := gw0_ cI cZ h q) (u1 := u) hx hb hr hlocks hsz hK hAe G dX0_handleState_36 (congrArg (fun z => (z, u)) (by unfold pd_handleState; rw [if_neg c_2, if_pos c_8, if_pos c_23]))
    · refine lv_iconst (v := (-1)) hx hb dX0_handleState_11 (by decide) ?_
      exact gx_iret (wf := gw0_ cI cZ h q) (u1 := u) hx hb hr hlocks hsz hK hAe G dX0_handleState_12 (congrArg (fun z => (z, u)) (by unfold pd_handleState; rw [if_neg c_2, if_neg c_8]))
theorem hd_X0_handleState : yX0_handleState.cls = RX0 ∧ yX0_handleState.cls ≠ "java/lang/invoke/MethodHandle" ∧ yX0_handleState.cls ≠ "java/lang/invoke/VarHandle" ∧ (parseMethodDescriptor yX0_handleState.desc).map (fun d => d.parameters.length) = some 1 := by decide +kernel
def pd_state (u : st_T) (p0 : Int32) : Int32 :=
  if p0 = 0 then
    u.1 9
  else
    if p0 = 1 then
      u.1 10
    else
      if p0 = 2 then
        u.1 3
      else
        if p0 = 3 then
          pd_asNumber (u.1 4)
        else
          if p0 = 4 then
            pd_countEnded u
          else
            pd_handleState u p0
set_option maxHeartbeats 4000000 in
set_option maxRecDepth 100000 in
theorem kd_state (l : Launch) (dC : Nat → ClassId) (dI : Nat → Nat → Nat) (cI cZ : ClassId) (h : Nat) (q : Nat → Nat) (sz : Nat) (u : st_T) (p0 : Int32) : gx_Mi l yX0_state wsX0_state { frames := 2, cells := 0, slots := 0, locals := 44 } [.ref h, .int p0] (dC, dI) cI cZ (gw0_ cI cZ h q) u sz (pd_state u p0, u) := by
  refine gx_met (cc := cX0_state) (maxL := 2) (ret := (some .int)) (by decide +kernel) rfl (Nat.le_of_ble_eq_true rfl) (fun p e s m args below meth c A ls hsz hx hb hr hlocks hts hown hml hK hAe hA G hl => ?_)
  have hown : s.vm.findClass RX0 = some m.cls := hown
  have hin : ∀ w ∈ wsX00, w ∈ wsX0_state := gx_in
  have hl : lv_has ls 2 [(0, .ref h), (1, .int p0)] := hl
  refine lv_iload_n hx hb dX0_state_0 rfl (lv_at hl 1 rfl) ?_
  by_cases c_1_0 : p0 = 0
  · refine lv_tableIn (tgt := 36) hx hb dX0_state_1 (by rw [c_1_0]; decide) (by rw [c_1_0]; decide) (by rw [c_1_0]; rfl) (by decide) ?_
    refine lv_aload_n hx hb dX0_state_36 rfl (lv_at hl 0 rfl) ?_
    refine gg0_get (v := .int (u.1 9)) hx hb hts hin hown hK G 9 (by decide) (index := 40) (by decide +kernel) rfl dX0_state_37 ?_
    exact gx_iret (wf := gw0_ cI cZ h q) (u1 := u) hx hb hr hlocks hsz hK hAe G dX0_state_40 (congrArg (fun z => (z, u)) (by unfold pd_state; rw [if_pos c_1_0]))
  by_cases c_1_1 : p0 = 1
  · refine lv_tableIn (tgt := 41) hx hb dX0_state_1 (by rw [c_1_1]; decide) (by rw [c_1_1]; decide) (by rw [c_1_1]; rfl) (by decide) ?_
    refine lv_aload_n hx hb dX0_state_41 rfl (lv_at hl 0 rfl) ?_
    refine gg0_get (v := .int (u.1 10)) hx hb hts hin hown hK G 10 (by decide) (index := 43) (by decide +kernel) rfl dX0_state_42 ?_
    exact gx_iret (wf := gw0_ cI cZ h q) (u1 := u) hx hb hr hlocks hsz hK hAe G dX0_state_45 (congrArg (fun z => (z, u)) (by unfold pd_state; rw [if_neg c_1_0, if_pos c_1_1]))
  by_cases c_1_2 : p0 = 2
  · refine lv_tableIn (tgt := 46) hx hb dX0_state_1 (by rw [c_1_2]; decide) (by rw [c_1_2]; decide) (by rw [c_1_2]; rfl) (by decide) ?_
    refine lv_aload_n hx hb dX0_state_46 rfl (lv_at hl 0 rfl) ?_
    refine gg0_get (v := .int (u.1 3)) hx hb hts hin hown hK G 3 (by decide) (index := 21) (by decide +kernel) rfl dX0_state_47 ?_
    exact gx_iret (wf := gw0_ cI cZ h q) (u1 := u) hx hb hr hlocks hsz hK hAe G dX0_state_50 (congrArg (fun z => (z, u)) (by unfold pd_state; rw [if_neg c_1_0, if_neg c_1_1, if_pos c_1_2]))
  by_cases c_1_3 : p0 = 3
  · refine lv_tableIn (tgt := 51) hx hb dX0_state_1 (by rw [c_1_3]; decide) (by rw [c_1_3]; decide) (by rw [c_1_3]; rfl) (by decide) ?_
    refine lv_aload_n hx hb dX0_state_51 rfl (lv_at hl 0 rfl) ?_
    refine gg0_get (v := .int (u.1 4)) hx hb hts hin hown hK G 4 (by decide) (index := 24) (by decide +kernel) rfl dX0_state_52 ?_
    refine gx_calls (f := pd_asNumber (u.1 4)) (As := [.int (u.1 4)]) (rest := []) 1 hx hb hml hown hts (kd_asNumber l (u.1 4) ) gX0_state_X0_asNumber rfl rfl rfl hd_X0_asNumber ⟨Nat.le_of_ble_eq_true rfl, Nat.le_of_ble_eq_true rfl⟩ rfl hl.1 rfl (Nat.le_of_ble_eq_true rfl) dX0_state_55 (Nat.zero_le _) (Nat.zero_le _) ?_
    exact gx_iret (wf := gw0_ cI cZ h q) (u1 := u) hx hb hr hlocks hsz hK hAe G dX0_state_58 (congrArg (fun z => (z, u)) (by unfold pd_state; rw [if_neg c_1_0, if_neg c_1_1, if_neg c_1_2, if_pos c_1_3]))
  by_cases c_1_4 : p0 = 4
  · refine lv_tableIn (tgt := 59) hx hb dX0_state_1 (by rw [c_1_4]; decide) (by rw [c_1_4]; decide) (by rw [c_1_4]; rfl) (by decide) ?_
    refine lv_aload_n hx hb dX0_state_59 rfl (lv_at hl 0 rfl) ?_
    refine gx_callr (wf := gw0_ cI cZ h q) (u := u) (f := pd_countEnded u) (As := []) (rest := []) 0 hx hb hml hown hts hK hA G rfl rfl (kd_countEnded l dC dI cI cZ h q _ u  ) gX0_state_X0_countEnded rfl rfl rfl hd_X0_countEnded ⟨Nat.le_of_ble_eq_true rfl, Nat.le_of_ble_eq_true rfl⟩ rfl hl.1 rfl (Nat.le_of_ble_eq_true rfl) dX0_state_60 (Nat.zero_le _) (Nat.zero_le _) (fun H locs G => ?_)
    exact gx_iret (wf := gw0_ cI cZ h q) (u1 := u) hx hb hr hlocks hsz hK hAe G dX0_state_63 (congrArg (fun z => (z, u)) (by unfold pd_state; rw [if_neg c_1_0, if_neg c_1_1, if_neg c_1_2, if_neg c_1_3, if_pos c_1_4]))
  refine lv_tableOut (tgt := 64) hx hb dX0_state_1 (by have z := p0.toInt; have z0 := lv_neT c_1_0 (a := 0) (by decide); have z1 := lv_neT c_1_1 (a := 1) (by decide); have z2 := lv_neT c_1_2 (a := 2) (by decide); have z3 := lv_neT c_1_3 (a := 3) (by decide); have z4 := lv_neT c_1_4 (a := 4) (by decide); omega) (by decide) ?_
  refine lv_aload_n hx hb dX0_state_64 rfl (lv_at hl 0 rfl) ?_
  refine lv_iload_n hx hb dX0_state_65 rfl (lv_at hl 1 rfl) ?_
  refine gx_callr (wf := gw0_ cI cZ h q) (u := u) (f := pd_handleState u p0) (As := [.int p0]) (rest := []) 1 hx hb hml hown hts hK hA G rfl rfl (kd_handleState l dC dI cI cZ h q _ u p0 ) gX0_state_X0_handleState rfl rfl rfl hd_X0_handleState ⟨Nat.le_of_ble_eq_true rfl, Nat.le_of_ble_eq_true rfl⟩ rfl hl.1 rfl (Nat.le_of_ble_eq_true rfl) dX0_state_66 (Nat.zero_le _) (Nat.zero_le _) (fun H locs G => ?_)
  exact gx_iret (wf := gw0_ cI cZ h q) (u1 := u) hx hb hr hlocks hsz hK hAe G dX0_state_69 (congrArg (fun z => (z, u)) (by unfold pd_state; rw [if_neg c_1_0, if_neg c_1_1, if_neg c_1_2, if_neg c_1_3, if_neg c_1_4]))
theorem hd_X0_state : yX0_state.cls = RX0 ∧ yX0_state.cls ≠ "java/lang/invoke/MethodHandle" ∧ yX0_state.cls ≠ "java/lang/invoke/VarHandle" ∧ (parseMethodDescriptor yX0_state.desc).map (fun d => d.parameters.length) = some 1 := by decide +kernel
def pd_raise (u : st_T) (p0 : Int32) : Int32 × st_T :=
  (0, st_si u 15 p0)
set_option maxHeartbeats 4000000 in
set_option maxRecDepth 100000 in
theorem kd_raise (l : Launch) (dC : Nat → ClassId) (dI : Nat → Nat → Nat) (cI cZ : ClassId) (h : Nat) (q : Nat → Nat) (sz : Nat) (u : st_T) (p0 : Int32) : gx_Mi l yX0_raise wsX0_raise { frames := 0, cells := 0, slots := 0, locals := 0 } [.ref h, .int p0] (dC, dI) cI cZ (gw0_ cI cZ h q) u sz (pd_raise u p0) := by
  refine gx_met (cc := cX0_raise) (maxL := 2) (ret := (some .int)) (by decide +kernel) rfl (Nat.le_of_ble_eq_true rfl) (fun p e s m args below meth c A ls hsz hx hb hr hlocks hts hown hml hK hAe hA G hl => ?_)
  have hown : s.vm.findClass RX0 = some m.cls := hown
  have hin : ∀ w ∈ wsX00, w ∈ wsX0_raise := gx_in
  have hl : lv_has ls 2 [(0, .ref h), (1, .int p0)] := hl
  refine lv_aload_n hx hb dX0_raise_0 rfl (lv_at hl 0 rfl) ?_
  refine lv_iload_n hx hb dX0_raise_1 rfl (lv_at hl 1 rfl) ?_
  refine gg0_put15 (v := p0) hx hb hts hin hown hK G (index := 58) (by decide +kernel) dX0_raise_2 (fun H locs G => ?_)
  refine lv_iconst (v := 0) hx hb dX0_raise_5 (by decide) ?_
  exact gx_iret (wf := gw0_ cI cZ h q) (u1 := st_si u 15 p0) hx hb hr hlocks hsz hK hAe G dX0_raise_6 (by unfold pd_raise; rfl)
theorem hd_X0_raise : yX0_raise.cls = RX0 ∧ yX0_raise.cls ≠ "java/lang/invoke/MethodHandle" ∧ yX0_raise.cls ≠ "java/lang/invoke/VarHandle" ∧ (parseMethodDescriptor yX0_raise.desc).map (fun d => d.parameters.length) = some 1 := by decide +kernel
def pd_isEnter (u : st_T) (p0 : Int32) : Int32 :=
  if p0 = (-1) then
    0
  else
    if u.2 5 (ix p0) = 1 then
      1
    else
      0
set_option maxHeartbeats 4000000 in
set_option maxRecDepth 100000 in
theorem kd_isEnter (l : Launch) (dC : Nat → ClassId) (dI : Nat → Nat → Nat) (cI cZ : ClassId) (h : Nat) (q : Nat → Nat) (sz : Nat) (u : st_T) (p0 : Int32) (hb0 : p0 = -1 ∨ vp_in p0 24) : gx_Mi l yX0_isEnter wsX0_isEnter { frames := 0, cells := 0, slots := 0, locals := 0 } [.ref h, .int p0] (dC, dI) cI cZ (gw0_ cI cZ h q) u sz (pd_isEnter u p0, u) := by
  refine gx_met (cc := cX0_isEnter) (maxL := 2) (ret := (some .boolean)) (by decide +kernel) rfl (Nat.le_of_ble_eq_true rfl) (fun p e s m args below meth c A ls hsz hx hb hr hlocks hts hown hml hK hAe hA G hl => ?_)
  have hown : s.vm.findClass RX0 = some m.cls := hown
  have hin : ∀ w ∈ wsX00, w ∈ wsX0_isEnter := gx_in
  have hl : lv_has ls 2 [(0, .ref h), (1, .int p0)] := hl
  refine lv_iload_n hx hb dX0_isEnter_0 rfl (lv_at hl 1 rfl) ?_
  refine lv_iconst (v := (-1)) hx hb dX0_isEnter_1 (by decide) ?_
  refine lv_icmp_eq (tgt := 19) hx hb dX0_isEnter_2 (by decide) (fun c_2 => ?_) (fun c_2 => ?_)
  · refine lv_iconst (v := 0) hx hb dX0_isEnter_19 (by decide) ?_
    exact gx_zret (wf := gw0_ cI cZ h q) (u1 := u) hx hb hr hlocks hsz hK hAe G dX0_isEnter_20 rfl (congrArg (fun z => (z, u)) (by unfold pd_isEnter; rw [if_pos c_2]))
  · refine lv_aload_n hx hb dX0_isEnter_5 rfl (lv_at hl 0 rfl) ?_
    refine gg0_get (v := .ref (q 5)) hx hb hts hin hown hK G 5 (by decide) (index := 28) (by decide +kernel) rfl dX0_isEnter_6 ?_
    refine lv_iload_n hx hb dX0_isEnter_9 rfl (lv_at hl 1 rfl) ?_
    refine gg0_ld5 hx hb hK G (i := p0) (hb0.resolve_left c_2) dX0_isEnter_10 ?_
    refine lv_iconst (v := 1) hx hb dX0_isEnter_11 (by decide) ?_
    refine lv_icmp_ne (tgt := 19) hx hb dX0_isEnter_12 (by decide) (fun c_12 => ?_) (fun c_12 => ?_)
    · refine lv_iconst (v := 0) hx hb dX0_isEnter_19 (by decide) ?_
      exact gx_zret (wf := gw0_ cI cZ h q) (u1 := u) hx hb hr hlocks hsz hK hAe G dX0_isEnter_20 rfl (congrArg (fun z => (z, u)) (by unfold pd_isEnter; rw [if_neg c_2, if_neg c_12]))
    · refine lv_iconst (v := 1) hx hb dX0_isEnter_15 (by decide) ?_
      refine lv_goto (tgt := 20) hx hb dX0_isEnter_16 (by decide) ?_
      exact gx_zret (wf := gw0_ cI cZ h q) (u1 := u) hx hb hr hlocks hsz hK hAe G dX0_isEnter_20 rfl (congrArg (fun z => (z, u)) (by unfold pd_isEnter; rw [if_neg c_2, if_pos c_12]))
theorem hd_X0_isEnter : yX0_isEnter.cls = RX0 ∧ yX0_isEnter.cls ≠ "java/lang/invoke/MethodHandle" ∧ yX0_isEnter.cls ≠ "java/lang/invoke/VarHandle" ∧ (parseMethodDescriptor yX0_isEnter.desc).map (fun d => d.parameters.length) = some 1 := by decide +kernel
def pd_giveBack (u : st_T) (p0 : Int32) : Int32 × st_T :=
  ((st_sa u 14 (ix (pd_leastHandle u (pj_floorMod_7cf53 (u.2 6 (ix p0)) 5))) ((u.2 14 (ix (pd_leastHandle u (pj_floorMod_7cf53 (u.2 6 (ix p0)) 5)))) - 1)).2 14 (ix (pd_leastHandle u (pj_floorMod_7cf53 (u.2 6 (ix p0)) 5))), st_sa u 14 (ix (pd_leastHandle u (pj_floorMod_7cf53 (u.2 6 (ix p0)) 5))) ((u.2 14 (ix (pd_leastHandle u (pj_floorMod_7cf53 (u.2 6 (ix p0)) 5)))) - 1))
set_option maxHeartbeats 4000000 in
set_option maxRecDepth 100000 in
theorem kd_giveBack (l : Launch) (dC : Nat → ClassId) (dI : Nat → Nat → Nat) (cI cZ : ClassId) (h : Nat) (q : Nat → Nat) (sz : Nat) (u : st_T) (p0 : Int32) (hp0 : vp_in p0 24) : gx_Mi l yX0_giveBack wsX0_giveBack { frames := 1, cells := 0, slots := 0, locals := 22 } [.ref h, .int p0] (dC, dI) cI cZ (gw0_ cI cZ h q) u sz (pd_giveBack u p0) := by
  refine gx_met (cc := cX0_giveBack) (maxL := 3) (ret := (some .int)) (by decide +kernel) rfl (Nat.le_of_ble_eq_true rfl) (fun p e s m args below meth c A ls hsz hx hb hr hlocks hts hown hml hK hAe hA G hl => ?_)
  have hown : s.vm.findClass RX0 = some m.cls := hown
  have hin : ∀ w ∈ wsX00, w ∈ wsX0_giveBack := gx_in
  have hl : lv_has ls 3 [(0, .ref h), (1, .int p0)] := hl
  refine lv_aload_n hx hb dX0_giveBack_0 rfl (lv_at hl 0 rfl) ?_
  refine lv_aload_n hx hb dX0_giveBack_1 rfl (lv_at hl 0 rfl) ?_
  refine gg0_get (v := .ref (q 6)) hx hb hts hin hown hK G 6 (by decide) (index := 31) (by decide +kernel) rfl dX0_giveBack_2 ?_
  refine lv_iload_n hx hb dX0_giveBack_5 rfl (lv_at hl 1 rfl) ?_
  refine gg0_ld6 hx hb hK G (i := p0) hp0 dX0_giveBack_6 ?_
  refine lv_iconst (v := 5) hx hb dX0_giveBack_7 (by decide) ?_
  refine gx_calls (f := pj_floorMod_7cf53 (u.2 6 (ix p0)) 5) (As := [.int (u.2 6 (ix p0)), .int 5]) (rest := [.ref h]) 2 hx hb hml hown hts (kj_floorMod_7cf53 l (u.2 6 (ix p0)) 5 (by decide)) gX0_giveBack_J9_floorMod_7cf53 rfl rfl rfl hd_J9_floorMod_7cf53 ⟨Nat.le_of_ble_eq_true rfl, Nat.le_of_ble_eq_true rfl⟩ rfl hl.1 rfl (Nat.le_of_ble_eq_true rfl) dX0_giveBack_8 (Nat.zero_le _) (Nat.zero_le _) ?_
  refine gx_callr (wf := gw0_ cI cZ h q) (u := u) (f := pd_leastHandle u (pj_floorMod_7cf53 (u.2 6 (ix p0)) 5)) (As := [.int (pj_floorMod_7cf53 (u.2 6 (ix p0)) 5)]) (rest := []) 1 hx hb hml hown hts hK hA G rfl rfl (kd_leastHandle l dC dI cI cZ h q _ u (pj_floorMod_7cf53 (u.2 6 (ix p0)) 5) (fm_in5 _)) gX0_giveBack_X0_leastHandle rfl rfl rfl hd_X0_leastHandle ⟨Nat.le_of_ble_eq_true rfl, Nat.le_of_ble_eq_true rfl⟩ rfl hl.1 rfl (Nat.le_of_ble_eq_true rfl) dX0_giveBack_11 (Nat.zero_le _) (Nat.zero_le _) (fun H locs G => ?_)
  refine lv_istore_n (lv' := [(2, .int (pd_leastHandle u (pj_floorMod_7cf53 (u.2 6 (ix p0)) 5))), (0, .ref h), (1, .int p0)]) hx hb dX0_giveBack_14 rfl hl (by decide) rfl (fun ls hl => ?_)
  refine lv_aload_n hx hb dX0_giveBack_15 rfl (lv_at hl 1 rfl) ?_
  refine gg0_get (v := .ref (q 14)) hx hb hts hin hown hK G 14 (by decide) (index := 55) (by decide +kernel) rfl dX0_giveBack_16 ?_
  refine lv_iload_n hx hb dX0_giveBack_19 rfl (lv_at hl 0 rfl) ?_
  refine lv_dup2_11 hx hb dX0_giveBack_20 rfl rfl ?_
  refine gg0_ld14 hx hb hK G (i := pd_leastHandle u (pj_floorMod_7cf53 (u.2 6 (ix p0)) 5)) (least_in (fm_in5 _)) dX0_giveBack_21 ?_
  refine lv_iconst (v := 1) hx hb dX0_giveBack_22 (by decide) ?_
  refine lv_isub hx hb dX0_giveBack_23 ?_
  refine gg0_st14 hx hb hK G (i := pd_leastHandle u (pj_floorMod_7cf53 (u.2 6 (ix p0)) 5)) (x := (u.2 14 (ix (pd_leastHandle u (pj_floorMod_7cf53 (u.2 6 (ix p0)) 5)))) - 1) (least_in (fm_in5 _)) dX0_giveBack_24 (fun H locs G => ?_)
  refine lv_aload_n hx hb dX0_giveBack_25 rfl (lv_at hl 1 rfl) ?_
  refine gg0_get (v := .ref (q 14)) hx hb hts hin hown hK G 14 (by decide) (index := 55) (by decide +kernel) rfl dX0_giveBack_26 ?_
  refine lv_iload_n hx hb dX0_giveBack_29 rfl (lv_at hl 0 rfl) ?_
  refine gg0_ld14 hx hb hK G (i := pd_leastHandle u (pj_floorMod_7cf53 (u.2 6 (ix p0)) 5)) (least_in (fm_in5 _)) dX0_giveBack_30 ?_
  exact gx_iret (wf := gw0_ cI cZ h q) (u1 := st_sa u 14 (ix (pd_leastHandle u (pj_floorMod_7cf53 (u.2 6 (ix p0)) 5))) ((u.2 14 (ix (pd_leastHandle u (pj_floorMod_7cf53 (u.2 6 (ix p0)) 5)))) - 1)) hx hb hr hlocks hsz hK hAe G dX0_giveBack_31 (by unfold pd_giveBack; rfl)
theorem hd_X0_giveBack : yX0_giveBack.cls = RX0 ∧ yX0_giveBack.cls ≠ "java/lang/invoke/MethodHandle" ∧ yX0_giveBack.cls ≠ "java/lang/invoke/VarHandle" ∧ (parseMethodDescriptor yX0_giveBack.desc).map (fun d => d.parameters.length) = some 1 := by decide +kernel
theorem eb_in {u : st_T} {b : Int32} (h : b = -1 ∨ vp_in b 24) (h2 : ¬ pd_isEnter u b = 0) : vp_in b 24 := by
  rcases h with rfl | h
  · exact absurd (by unfold pd_isEnter; rw [if_pos rfl]) h2
  · exact h
def pd_endBlock (u : st_T) (p0 : Int32) : Int32 × st_T :=
  if pd_isEnter u p0 = 0 then
    (0, u)
  else
    ((pd_giveBack u p0).1, (pd_giveBack u p0).2)
set_option maxHeartbeats 4000000 in
set_option maxRecDepth 100000 in
theorem kd_endBlock (l : Launch) (dC : Nat → ClassId) (dI : Nat → Nat → Nat) (cI cZ : ClassId) (h : Nat) (q : Nat → Nat) (sz : Nat) (u : st_T) (p0 : Int32) (hb0 : p0 = -1 ∨ vp_in p0 24) : gx_Mi l yX0_endBlock wsX0_endBlock { frames := 2, cells := 0, slots := 0, locals := 44 } [.ref h, .int p0] (dC, dI) cI cZ (gw0_ cI cZ h q) u sz (pd_endBlock u p0) := by
  refine gx_met (cc := cX0_endBlock) (maxL := 2) (ret := (some .int)) (by decide +kernel) rfl (Nat.le_of_ble_eq_true rfl) (fun p e s m args below meth c A ls hsz hx hb hr hlocks hts hown hml hK hAe hA G hl => ?_)
  have hown : s.vm.findClass RX0 = some m.cls := hown
  have hin : ∀ w ∈ wsX00, w ∈ wsX0_endBlock := gx_in
  have hl : lv_has ls 2 [(0, .ref h), (1, .int p0)] := hl
  refine lv_aload_n hx hb dX0_endBlock_0 rfl (lv_at hl 0 rfl) ?_
  refine lv_iload_n hx hb dX0_endBlock_1 rfl (lv_at hl 1 rfl) ?_
  refine gx_callr (wf := gw0_ cI cZ h q) (u := u) (f := pd_isEnter u p0) (As := [.int p0]) (rest := []) 1 hx hb hml hown hts hK hA G rfl rfl (kd_isEnter l dC dI cI cZ h q _ u p0 hb0) gX0_endBlock_X0_isEnter rfl rfl rfl hd_X0_isEnter ⟨Nat.le_of_ble_eq_true rfl, Nat.le_of_ble_eq_true rfl⟩ rfl hl.1 rfl (Nat.le_of_ble_eq_true rfl) dX0_endBlock_2 (Nat.zero_le _) (Nat.zero_le _) (fun H locs G => ?_)
  refine lv_if_eq (tgt := 16) hx hb dX0_endBlock_5 (by decide) (fun c_5 => ?_) (fun c_5 => ?_)
  · refine lv_iconst (v := 0) hx hb dX0_endBlock_16 (by decide) ?_
    exact gx_iret (wf := gw0_ cI cZ h q) (u1 := u) hx hb hr hlocks hsz hK hAe G dX0_endBlock_17 (by unfold pd_endBlock; rw [if_pos c_5])
  · refine lv_aload_n hx hb dX0_endBlock_8 rfl (lv_at hl 0 rfl) ?_
    refine lv_iload_n hx hb dX0_endBlock_9 rfl (lv_at hl 1 rfl) ?_
    refine gx_calli (wf := gw0_ cI cZ h q) (u := u) (f := pd_giveBack u p0) (As := [.int p0]) (rest := []) 1 hx hb hml hown hts hK hA G rfl rfl (kd_giveBack l dC dI cI cZ h q _ u p0 (eb_in hb0 c_5)) gX0_endBlock_X0_giveBack rfl rfl rfl hd_X0_giveBack ⟨Nat.le_of_ble_eq_true rfl, Nat.le_of_ble_eq_true rfl⟩ rfl hl.1 rfl (Nat.le_of_ble_eq_true rfl) dX0_endBlock_10 (Nat.zero_le _) (Nat.zero_le _) (fun H locs G => ?_)
    refine lv_goto (tgt := 17) hx hb dX0_endBlock_13 (by decide) ?_
    exact gx_iret (wf := gw0_ cI cZ h q) (u1 := (pd_giveBack u p0).2) hx hb hr hlocks hsz hK hAe G dX0_endBlock_17 (by unfold pd_endBlock; rw [if_neg c_5])
theorem hd_X0_endBlock : yX0_endBlock.cls = RX0 ∧ yX0_endBlock.cls ≠ "java/lang/invoke/MethodHandle" ∧ yX0_endBlock.cls ≠ "java/lang/invoke/VarHandle" ∧ (parseMethodDescriptor yX0_endBlock.desc).map (fun d => d.parameters.length) = some 1 := by decide +kernel
def pd_enter (u : st_T) (p0 : Int32) : Int32 × st_T :=
  if u.2 0 (ix p0) = 0 then
    ((pd_raise u 1).1, (pd_raise u 1).2)
  else
    ((st_sa u 14 (ix (pd_leastHandle u p0)) ((u.2 14 (ix (pd_leastHandle u p0))) + 1)).2 14 (ix (pd_leastHandle u p0)), st_sa u 14 (ix (pd_leastHandle u p0)) ((u.2 14 (ix (pd_leastHandle u p0))) + 1))
set_option maxHeartbeats 4000000 in
set_option maxRecDepth 100000 in
theorem kd_enter (l : Launch) (dC : Nat → ClassId) (dI : Nat → Nat → Nat) (cI cZ : ClassId) (h : Nat) (q : Nat → Nat) (sz : Nat) (u : st_T) (p0 : Int32) (hp0 : vp_in p0 5) : gx_Mi l yX0_enter wsX0_enter { frames := 1, cells := 0, slots := 0, locals := 22 } [.ref h, .int p0] (dC, dI) cI cZ (gw0_ cI cZ h q) u sz (pd_enter u p0) := by
  refine gx_met (cc := cX0_enter) (maxL := 3) (ret := (some .int)) (by decide +kernel) rfl (Nat.le_of_ble_eq_true rfl) (fun p e s m args below meth c A ls hsz hx hb hr hlocks hts hown hml hK hAe hA G hl => ?_)
  have hown : s.vm.findClass RX0 = some m.cls := hown
  have hin : ∀ w ∈ wsX00, w ∈ wsX0_enter := gx_in
  have hl : lv_has ls 3 [(0, .ref h), (1, .int p0)] := hl
  refine lv_aload_n hx hb dX0_enter_0 rfl (lv_at hl 0 rfl) ?_
  refine gg0_get (v := .ref (q 0)) hx hb hts hin hown hK G 0 (by decide) (index := 9) (by decide +kernel) rfl dX0_enter_1 ?_
  refine lv_iload_n hx hb dX0_enter_4 rfl (lv_at hl 1 rfl) ?_
  refine gg0_ld0 hx hb hK G (i := p0) hp0 dX0_enter_5 ?_
  refine lv_if_ne (tgt := 15) hx hb dX0_enter_6 (by decide) (fun c_6 => ?_) (fun c_6 => ?_)
  · refine lv_aload_n hx hb dX0_enter_15 rfl (lv_at hl 0 rfl) ?_
    refine lv_iload_n hx hb dX0_enter_16 rfl (lv_at hl 1 rfl) ?_
    refine gx_callr (wf := gw0_ cI cZ h q) (u := u) (f := pd_leastHandle u p0) (As := [.int p0]) (rest := []) 1 hx hb hml hown hts hK hA G rfl rfl (kd_leastHandle l dC dI cI cZ h q _ u p0 hp0) gX0_enter_X0_leastHandle rfl rfl rfl hd_X0_leastHandle ⟨Nat.le_of_ble_eq_true rfl, Nat.le_of_ble_eq_true rfl⟩ rfl hl.1 rfl (Nat.le_of_ble_eq_true rfl) dX0_enter_17 (Nat.zero_le _) (Nat.zero_le _) (fun H locs G => ?_)
    refine lv_istore_n (lv' := [(2, .int (pd_leastHandle u p0)), (0, .ref h), (1, .int p0)]) hx hb dX0_enter_20 rfl hl (by decide) rfl (fun ls hl => ?_)
    refine lv_aload_n hx hb dX0_enter_21 rfl (lv_at hl 1 rfl) ?_
    refine gg0_get (v := .ref (q 14)) hx hb hts hin hown hK G 14 (by decide) (index := 55) (by decide +kernel) rfl dX0_enter_22 ?_
    refine lv_iload_n hx hb dX0_enter_25 rfl (lv_at hl 0 rfl) ?_
    refine lv_dup2_11 hx hb dX0_enter_26 rfl rfl ?_
    refine gg0_ld14 hx hb hK G (i := pd_leastHandle u p0) (least_in hp0) dX0_enter_27 ?_
    refine lv_iconst (v := 1) hx hb dX0_enter_28 (by decide) ?_
    refine lv_iadd hx hb dX0_enter_29 ?_
    refine gg0_st14 hx hb hK G (i := pd_leastHandle u p0) (x := (u.2 14 (ix (pd_leastHandle u p0))) + 1) (least_in hp0) dX0_enter_30 (fun H locs G => ?_)
    refine lv_aload_n hx hb dX0_enter_31 rfl (lv_at hl 1 rfl) ?_
    refine gg0_get (v := .ref (q 14)) hx hb hts hin hown hK G 14 (by decide) (index := 55) (by decide +kernel) rfl dX0_enter_32 ?_
    refine lv_iload_n hx hb dX0_enter_35 rfl (lv_at hl 0 rfl) ?_
    refine gg0_ld14 hx hb hK G (i := pd_leastHandle u p0) (least_in hp0) dX0_enter_36 ?_
    exact gx_iret (wf := gw0_ cI cZ h q) (u1 := st_sa u 14 (ix (pd_leastHandle u p0)) ((u.2 14 (ix (pd_leastHandle u p0))) + 1)) hx hb hr hlocks hsz hK hAe G dX0_enter_37 (by unfold pd_enter; rw [if_neg c_6])
  · refine lv_aload_n hx hb dX0_enter_9 rfl (lv_at hl 0 rfl) ?_
    refine lv_iconst (v := 1) hx hb dX0_enter_10 (by decide) ?_
    refine gx_calli (wf := gw0_ cI cZ h q) (u := u) (f := pd_raise u 1) (As := [.int 1]) (rest := []) 1 hx hb hml hown hts hK hA G rfl rfl (kd_raise l dC dI cI cZ h q _ u 1 ) gX0_enter_X0_raise rfl rfl rfl hd_X0_raise ⟨Nat.le_of_ble_eq_true rfl, Nat.le_of_ble_eq_true rfl⟩ rfl hl.1 rfl (Nat.le_of_ble_eq_true rfl) dX0_enter_11 (Nat.zero_le _) (Nat.zero_le _) (fun H locs G => ?_)
    exact gx_iret (wf := gw0_ cI cZ h q) (u1 := (pd_raise u 1).2) hx hb hr hlocks hsz hK hAe G dX0_enter_14 (by unfold pd_enter; rw [if_pos c_6])
theorem hd_X0_enter : yX0_enter.cls = RX0 ∧ yX0_enter.cls ≠ "java/lang/invoke/MethodHandle" ∧ yX0_enter.cls ≠ "java/lang/invoke/VarHandle" ∧ (parseMethodDescriptor yX0_enter.desc).map (fun d => d.parameters.length) = some 1 := by decide +kernel
def pd_notifyWaiting (u : st_T) (p0 : Int32) : Int32 × st_T :=
  if u.2 0 (ix p0) = 0 then
    ((pd_raise u 1).1, (pd_raise u 1).2)
  else
    if u.2 14 (ix (pd_leastHandle u p0)) = 0 then
      ((pd_raise u 2).1, (pd_raise u 2).2)
    else
      (0, u)
set_option maxHeartbeats 4000000 in
set_option maxRecDepth 100000 in
theorem kd_notifyWaiting (l : Launch) (dC : Nat → ClassId) (dI : Nat → Nat → Nat) (cI cZ : ClassId) (h : Nat) (q : Nat → Nat) (sz : Nat) (u : st_T) (p0 : Int32) (hp0 : vp_in p0 5) : gx_Mi l yX0_notifyWaiting wsX0_notifyWaiting { frames := 1, cells := 0, slots := 0, locals := 22 } [.ref h, .int p0] (dC, dI) cI cZ (gw0_ cI cZ h q) u sz (pd_notifyWaiting u p0) := by
  refine gx_met (cc := cX0_notifyWaiting) (maxL := 2) (ret := (some .int)) (by decide +kernel) rfl (Nat.le_of_ble_eq_true rfl) (fun p e s m args below meth c A ls hsz hx hb hr hlocks hts hown hml hK hAe hA G hl => ?_)
  have hown : s.vm.findClass RX0 = some m.cls := hown
  have hin : ∀ w ∈ wsX00, w ∈ wsX0_notifyWaiting := gx_in
  have hl : lv_has ls 2 [(0, .ref h), (1, .int p0)] := hl
  refine lv_aload_n hx hb dX0_notifyWaiting_0 rfl (lv_at hl 0 rfl) ?_
  refine gg0_get (v := .ref (q 0)) hx hb hts hin hown hK G 0 (by decide) (index := 9) (by decide +kernel) rfl dX0_notifyWaiting_1 ?_
  refine lv_iload_n hx hb dX0_notifyWaiting_4 rfl (lv_at hl 1 rfl) ?_
  refine gg0_ld0 hx hb hK G (i := p0) hp0 dX0_notifyWaiting_5 ?_
  refine lv_if_ne (tgt := 15) hx hb dX0_notifyWaiting_6 (by decide) (fun c_6 => ?_) (fun c_6 => ?_)
  · refine lv_aload_n hx hb dX0_notifyWaiting_15 rfl (lv_at hl 0 rfl) ?_
    refine gg0_get (v := .ref (q 14)) hx hb hts hin hown hK G 14 (by decide) (index := 55) (by decide +kernel) rfl dX0_notifyWaiting_16 ?_
    refine lv_aload_n hx hb dX0_notifyWaiting_19 rfl (lv_at hl 0 rfl) ?_
    refine lv_iload_n hx hb dX0_notifyWaiting_20 rfl (lv_at hl 1 rfl) ?_
    refine gx_callr (wf := gw0_ cI cZ h q) (u := u) (f := pd_leastHandle u p0) (As := [.int p0]) (rest := [.ref (q 14)]) 1 hx hb hml hown hts hK hA G rfl rfl (kd_leastHandle l dC dI cI cZ h q _ u p0 hp0) gX0_notifyWaiting_X0_leastHandle rfl rfl rfl hd_X0_leastHandle ⟨Nat.le_of_ble_eq_true rfl, Nat.le_of_ble_eq_true rfl⟩ rfl hl.1 rfl (Nat.le_of_ble_eq_true rfl) dX0_notifyWaiting_21 (Nat.zero_le _) (Nat.zero_le _) (fun H locs G => ?_)
    refine gg0_ld14 hx hb hK G (i := pd_leastHandle u p0) (least_in hp0) dX0_notifyWaiting_24 ?_
    refine lv_if_ne (tgt := 34) hx hb dX0_notifyWaiting_25 (by decide) (fun c_25 => ?_) (fun c_25 => ?_)
    · refine lv_iconst (v := 0) hx hb dX0_notifyWaiting_34 (by decide) ?_
      exact gx_iret (wf := gw0_ cI cZ h q) (u1 := u) hx hb hr hlocks hsz hK hAe G dX0_notifyWaiting_35 (by unfold pd_notifyWaiting; rw [if_neg c_6, if_neg c_25])
    · refine lv_aload_n hx hb dX0_notifyWaiting_28 rfl (lv_at hl 0 rfl) ?_
      refine lv_iconst (v := 2) hx hb dX0_notifyWaiting_29 (by decide) ?_
      refine gx_calli (wf := gw0_ cI cZ h q) (u := u) (f := pd_raise u 2) (As := [.int 2]) (rest := []) 1 hx hb hml hown hts hK hA G rfl rfl (kd_raise l dC dI cI cZ h q _ u 2 ) gX0_notifyWaiting_X0_raise rfl rfl rfl hd_X0_raise ⟨Nat.le_of_ble_eq_true rfl, Nat.le_of_ble_eq_true rfl⟩ rfl hl.1 rfl (Nat.le_of_ble_eq_true rfl) dX0_notifyWaiting_30 (Nat.zero_le _) (Nat.zero_le _) (fun H locs G => ?_)
      exact gx_iret (wf := gw0_ cI cZ h q) (u1 := (pd_raise u 2).2) hx hb hr hlocks hsz hK hAe G dX0_notifyWaiting_33 (by unfold pd_notifyWaiting; rw [if_neg c_6, if_pos c_25])
  · refine lv_aload_n hx hb dX0_notifyWaiting_9 rfl (lv_at hl 0 rfl) ?_
    refine lv_iconst (v := 1) hx hb dX0_notifyWaiting_10 (by decide) ?_
    refine gx_calli (wf := gw0_ cI cZ h q) (u := u) (f := pd_raise u 1) (As := [.int 1]) (rest := []) 1 hx hb hml hown hts hK hA G rfl rfl (kd_raise l dC dI cI cZ h q _ u 1 ) gX0_notifyWaiting_X0_raise rfl rfl rfl hd_X0_raise ⟨Nat.le_of_ble_eq_true rfl, Nat.le_of_ble_eq_true rfl⟩ rfl hl.1 rfl (Nat.le_of_ble_eq_true rfl) dX0_notifyWaiting_11 (Nat.zero_le _) (Nat.zero_le _) (fun H locs G => ?_)
    exact gx_iret (wf := gw0_ cI cZ h q) (u1 := (pd_raise u 1).2) hx hb hr hlocks hsz hK hAe G dX0_notifyWaiting_14 (by unfold pd_notifyWaiting; rw [if_pos c_6])
theorem hd_X0_notifyWaiting : yX0_notifyWaiting.cls = RX0 ∧ yX0_notifyWaiting.cls ≠ "java/lang/invoke/MethodHandle" ∧ yX0_notifyWaiting.cls ≠ "java/lang/invoke/VarHandle" ∧ (parseMethodDescriptor yX0_notifyWaiting.desc).map (fun d => d.parameters.length) = some 1 := by decide +kernel
def pd_holdsLock (u : st_T) (p0 : Int32) : Int32 × st_T :=
  if u.2 0 (ix p0) = 0 then
    ((pd_raise u 1).1, (pd_raise u 1).2)
  else
    if u.2 14 (ix (pd_leastHandle u p0)) ≤ 0 then
      (pd_asNumber 0, u)
    else
      (pd_asNumber 1, u)
set_option maxHeartbeats 4000000 in
set_option maxRecDepth 100000 in
theorem kd_holdsLock (l : Launch) (dC : Nat → ClassId) (dI : Nat → Nat → Nat) (cI cZ : ClassId) (h : Nat) (q : Nat → Nat) (sz : Nat) (u : st_T) (p0 : Int32) (hp0 : vp_in p0 5) : gx_Mi l yX0_holdsLock wsX0_holdsLock { frames := 1, cells := 0, slots := 0, locals := 22 } [.ref h, .int p0] (dC, dI) cI cZ (gw0_ cI cZ h q) u sz (pd_holdsLock u p0) := by
  refine gx_met (cc := cX0_holdsLock) (maxL := 2) (ret := (some .int)) (by decide +kernel) rfl (Nat.le_of_ble_eq_true rfl) (fun p e s m args below meth c A ls hsz hx hb hr hlocks hts hown hml hK hAe hA G hl => ?_)
  have hown : s.vm.findClass RX0 = some m.cls := hown
  have hin : ∀ w ∈ wsX00, w ∈ wsX0_holdsLock := gx_in
  have hl : lv_has ls 2 [(0, .ref h), (1, .int p0)] := hl
  refine lv_aload_n hx hb dX0_holdsLock_0 rfl (lv_at hl 0 rfl) ?_
  refine gg0_get (v := .ref (q 0)) hx hb hts hin hown hK G 0 (by decide) (index := 9) (by decide +kernel) rfl dX0_holdsLock_1 ?_
  refine lv_iload_n hx hb dX0_holdsLock_4 rfl (lv_at hl 1 rfl) ?_
  refine gg0_ld0 hx hb hK G (i := p0) hp0 dX0_holdsLock_5 ?_
  refine lv_if_ne (tgt := 15) hx hb dX0_holdsLock_6 (by decide) (fun c_6 => ?_) (fun c_6 => ?_)
  · refine lv_aload_n hx hb dX0_holdsLock_15 rfl (lv_at hl 0 rfl) ?_
    refine gg0_get (v := .ref (q 14)) hx hb hts hin hown hK G 14 (by decide) (index := 55) (by decide +kernel) rfl dX0_holdsLock_16 ?_
    refine lv_aload_n hx hb dX0_holdsLock_19 rfl (lv_at hl 0 rfl) ?_
    refine lv_iload_n hx hb dX0_holdsLock_20 rfl (lv_at hl 1 rfl) ?_
    refine gx_callr (wf := gw0_ cI cZ h q) (u := u) (f := pd_leastHandle u p0) (As := [.int p0]) (rest := [.ref (q 14)]) 1 hx hb hml hown hts hK hA G rfl rfl (kd_leastHandle l dC dI cI cZ h q _ u p0 hp0) gX0_holdsLock_X0_leastHandle rfl rfl rfl hd_X0_leastHandle ⟨Nat.le_of_ble_eq_true rfl, Nat.le_of_ble_eq_true rfl⟩ rfl hl.1 rfl (Nat.le_of_ble_eq_true rfl) dX0_holdsLock_21 (Nat.zero_le _) (Nat.zero_le _) (fun H locs G => ?_)
    refine gg0_ld14 hx hb hK G (i := pd_leastHandle u p0) (least_in hp0) dX0_holdsLock_24 ?_
    refine lv_if_le (tgt := 32) hx hb dX0_holdsLock_25 (by decide) (fun c_25 => ?_) (fun c_25 => ?_)
    · refine lv_iconst (v := 0) hx hb dX0_holdsLock_32 (by decide) ?_
      refine gx_calls (f := pd_asNumber 0) (As := [.int 0]) (rest := []) 1 hx hb hml hown hts (kd_asNumber l 0 ) gX0_holdsLock_X0_asNumber rfl rfl rfl hd_X0_asNumber ⟨Nat.le_of_ble_eq_true rfl, Nat.le_of_ble_eq_true rfl⟩ rfl hl.1 rfl (Nat.le_of_ble_eq_true rfl) dX0_holdsLock_33 (Nat.zero_le _) (Nat.zero_le _) ?_
      exact gx_iret (wf := gw0_ cI cZ h q) (u1 := u) hx hb hr hlocks hsz hK hAe G dX0_holdsLock_36 (by unfold pd_holdsLock; rw [if_neg c_6, if_pos c_25])
    · refine lv_iconst (v := 1) hx hb dX0_holdsLock_28 (by decide) ?_
      refine lv_goto (tgt := 33) hx hb dX0_holdsLock_29 (by decide) ?_
      refine gx_calls (f := pd_asNumber 1) (As := [.int 1]) (rest := []) 1 hx hb hml hown hts (kd_asNumber l 1 ) gX0_holdsLock_X0_asNumber rfl rfl rfl hd_X0_asNumber ⟨Nat.le_of_ble_eq_true rfl, Nat.le_of_ble_eq_true rfl⟩ rfl hl.1 rfl (Nat.le_of_ble_eq_true rfl) dX0_holdsLock_33 (Nat.zero_le _) (Nat.zero_le _) ?_
      exact gx_iret (wf := gw0_ cI cZ h q) (u1 := u) hx hb hr hlocks hsz hK hAe G dX0_holdsLock_36 (by unfold pd_holdsLock; rw [if_neg c_6, if_neg c_25])
  · refine lv_aload_n hx hb dX0_holdsLock_9 rfl (lv_at hl 0 rfl) ?_
    refine lv_iconst (v := 1) hx hb dX0_holdsLock_10 (by decide) ?_
    refine gx_calli (wf := gw0_ cI cZ h q) (u := u) (f := pd_raise u 1) (As := [.int 1]) (rest := []) 1 hx hb hml hown hts hK hA G rfl rfl (kd_raise l dC dI cI cZ h q _ u 1 ) gX0_holdsLock_X0_raise rfl rfl rfl hd_X0_raise ⟨Nat.le_of_ble_eq_true rfl, Nat.le_of_ble_eq_true rfl⟩ rfl hl.1 rfl (Nat.le_of_ble_eq_true rfl) dX0_holdsLock_11 (Nat.zero_le _) (Nat.zero_le _) (fun H locs G => ?_)
    exact gx_iret (wf := gw0_ cI cZ h q) (u1 := (pd_raise u 1).2) hx hb hr hlocks hsz hK hAe G dX0_holdsLock_14 (by unfold pd_holdsLock; rw [if_pos c_6])
theorem hd_X0_holdsLock : yX0_holdsLock.cls = RX0 ∧ yX0_holdsLock.cls ≠ "java/lang/invoke/MethodHandle" ∧ yX0_holdsLock.cls ≠ "java/lang/invoke/VarHandle" ∧ (parseMethodDescriptor yX0_holdsLock.desc).map (fun d => d.parameters.length) = some 1 := by decide +kernel
def pd_takeFlag (u : st_T) : Int32 × st_T :=
  (u.1 4, st_si u 4 0)
set_option maxHeartbeats 4000000 in
set_option maxRecDepth 100000 in
theorem kd_takeFlag (l : Launch) (dC : Nat → ClassId) (dI : Nat → Nat → Nat) (cI cZ : ClassId) (h : Nat) (q : Nat → Nat) (sz : Nat) (u : st_T) (hfl : u.1 4 = 0 ∨ u.1 4 = 1) : gx_Mi l yX0_takeFlag wsX0_takeFlag { frames := 0, cells := 0, slots := 0, locals := 0 } [.ref h] (dC, dI) cI cZ (gw0_ cI cZ h q) u sz (pd_takeFlag u) := by
  refine gx_met (cc := cX0_takeFlag) (maxL := 2) (ret := (some .boolean)) (by decide +kernel) rfl (Nat.le_of_ble_eq_true rfl) (fun p e s m args below meth c A ls hsz hx hb hr hlocks hts hown hml hK hAe hA G hl => ?_)
  have hown : s.vm.findClass RX0 = some m.cls := hown
  have hin : ∀ w ∈ wsX00, w ∈ wsX0_takeFlag := gx_in
  have hl : lv_has ls 2 [(0, .ref h)] := hl
  refine lv_aload_n hx hb dX0_takeFlag_0 rfl (lv_at hl 0 rfl) ?_
  refine gg0_get (v := .int (u.1 4)) hx hb hts hin hown hK G 4 (by decide) (index := 24) (by decide +kernel) rfl dX0_takeFlag_1 ?_
  refine lv_istore_n (lv' := [(1, .int (u.1 4)), (0, .ref h)]) hx hb dX0_takeFlag_4 rfl hl (by decide) rfl (fun ls hl => ?_)
  refine lv_aload_n hx hb dX0_takeFlag_5 rfl (lv_at hl 1 rfl) ?_
  refine lv_iconst (v := 0) hx hb dX0_takeFlag_6 (by decide) ?_
  refine gg0_put4 (v := 0) hx hb hts hin hown hK G (index := 24) (by decide +kernel) rfl rfl dX0_takeFlag_7 (fun H locs G => ?_)
  refine lv_iload_n hx hb dX0_takeFlag_10 rfl (lv_at hl 0 rfl) ?_
  exact gx_zret (wf := gw0_ cI cZ h q) (u1 := st_si u 4 0) hx hb hr hlocks hsz hK hAe G dX0_takeFlag_11 (nz_flag hfl) (by unfold pd_takeFlag; rfl)
theorem hd_X0_takeFlag : yX0_takeFlag.cls = RX0 ∧ yX0_takeFlag.cls ≠ "java/lang/invoke/MethodHandle" ∧ yX0_takeFlag.cls ≠ "java/lang/invoke/VarHandle" ∧ (parseMethodDescriptor yX0_takeFlag.desc).map (fun d => d.parameters.length) = some 0 := by decide +kernel
def pd_awaitNotice (u : st_T) (p0 : Int32) : Int32 × st_T :=
  if p0 = (-2147483648) then
    if u.2 0 (ix 0) = 0 then
      ((pd_raise u 1).1, (pd_raise u 1).2)
    else
      ((pd_raise u 3).1, (pd_raise u 3).2)
  else
    if u.2 0 (ix ((if 0 ≤ p0 then p0 else 0 - p0) - (if 0 ≤ p0 then p0 else 0 - p0) / 5 * 5)) = 0 then
      ((pd_raise u 1).1, (pd_raise u 1).2)
    else
      if 0 ≤ p0 then
        if u.2 14 (ix (pd_leastHandle u ((if 0 ≤ p0 then p0 else 0 - p0) - (if 0 ≤ p0 then p0 else 0 - p0) / 5 * 5))) = 0 then
          ((pd_raise u 2).1, (pd_raise u 2).2)
        else
          if (pd_takeFlag u).1 = 0 then
            ((-2), (pd_takeFlag u).2)
          else
            ((pd_raise ((pd_takeFlag u).2) 4).1, (pd_raise ((pd_takeFlag u).2) 4).2)
      else
        ((pd_raise u 3).1, (pd_raise u 3).2)
set_option maxHeartbeats 4000000 in
set_option maxRecDepth 100000 in
theorem kd_awaitNotice (l : Launch) (dC : Nat → ClassId) (dI : Nat → Nat → Nat) (cI cZ : ClassId) (h : Nat) (q : Nat → Nat) (sz : Nat) (u : st_T) (p0 : Int32) (hfl : u.1 4 = 0 ∨ u.1 4 = 1) : gx_Mi l yX0_awaitNotice wsX0_awaitNotice { frames := 1, cells := 0, slots := 0, locals := 22 } [.ref h, .int p0] (dC, dI) cI cZ (gw0_ cI cZ h q) u sz (pd_awaitNotice u p0) := by
  refine gx_met (cc := cX0_awaitNotice) (maxL := 3) (ret := (some .int)) (by decide +kernel) rfl (Nat.le_of_ble_eq_true rfl) (fun p e s m args below meth c A ls hsz hx hb hr hlocks hts hown hml hK hAe hA G hl => ?_)
  have hown : s.vm.findClass RX0 = some m.cls := hown
  have hin : ∀ w ∈ wsX00, w ∈ wsX0_awaitNotice := gx_in
  have hl : lv_has ls 3 [(0, .ref h), (1, .int p0)] := hl
  refine lv_iload_n hx hb dX0_awaitNotice_0 rfl (lv_at hl 1 rfl) ?_
  refine lv_ldc (v := (-2147483648)) hx hb hown (hts (.constant RX0 141 (-2147483648)) (by decide +kernel)) dX0_awaitNotice_1 ?_
  refine lv_icmp_ne (tgt := 10) hx hb dX0_awaitNotice_3 (by decide) (fun c_3 => ?_) (fun c_3 => ?_)
  · refine lv_iload_n hx hb dX0_awaitNotice_10 rfl (lv_at hl 1 rfl) ?_
    refine va_mabs hx hb (by rw [hml]; exact hl.1.symm) hown (hts (.methodLink RX0 142 Lib.Math.abs.name) (by decide +kernel)) (hts (.static Lib.Math.abs.name) (by decide +kernel)) (hts (.initialized "java/lang/Math") (by decide +kernel)) (hts (.code Lib.Math.abs.name Lib.Math.abs.code 1 (some .int)) (by decide +kernel)) (Nat.le_of_ble_eq_true rfl) (Nat.le_of_ble_eq_true rfl) (Nat.zero_le _) (Nat.zero_le _) dX0_awaitNotice_11 ?_
    refine lv_iconst (v := 5) hx hb dX0_awaitNotice_14 (by decide) ?_
    refine lv_irem hx hb dX0_awaitNotice_15 (by decide) ?_
    refine lv_istore_n (lv' := [(2, .int ((if 0 ≤ p0 then p0 else 0 - p0) - (if 0 ≤ p0 then p0 else 0 - p0) / 5 * 5)), (0, .ref h), (1, .int p0)]) hx hb dX0_awaitNotice_16 rfl hl (by decide) rfl (fun ls hl => ?_)
    refine lv_aload_n hx hb dX0_awaitNotice_17 rfl (lv_at hl 1 rfl) ?_
    refine gg0_get (v := .ref (q 0)) hx hb hts hin hown hK G 0 (by decide) (index := 9) (by decide +kernel) rfl dX0_awaitNotice_18 ?_
    refine lv_iload_n hx hb dX0_awaitNotice_21 rfl (lv_at hl 0 rfl) ?_
    refine gg0_ld0 hx hb hK G (i := (if 0 ≤ p0 then p0 else 0 - p0) - (if 0 ≤ p0 then p0 else 0 - p0) / 5 * 5) (wt_in c_3) dX0_awaitNotice_22 ?_
    refine lv_if_ne (tgt := 32) hx hb dX0_awaitNotice_23 (by decide) (fun c_23 => ?_) (fun c_23 => ?_)
    · refine lv_iload_n hx hb dX0_awaitNotice_32 rfl (lv_at hl 2 rfl) ?_
      refine lv_if_ge (tgt := 42) hx hb dX0_awaitNotice_33 (by decide) (fun c_33 => ?_) (fun c_33 => ?_)
      · refine lv_aload_n hx hb dX0_awaitNotice_42 rfl (lv_at hl 1 rfl) ?_
        refine gg0_get (v := .ref (q 14)) hx hb hts hin hown hK G 14 (by decide) (index := 55) (by decide +kernel) rfl dX0_awaitNotice_43 ?_
        refine lv_aload_n hx hb dX0_awaitNotice_46 rfl (lv_at hl 1 rfl) ?_
        refine lv_iload_n hx hb dX0_awaitNotice_47 rfl (lv_at hl 0 rfl) ?_
        refine gx_callr (wf := gw0_ cI cZ h q) (u := u) (f := pd_leastHandle u ((if 0 ≤ p0 then p0 else 0 - p0) - (if 0 ≤ p0 then p0 else 0 - p0) / 5 * 5)) (As := [.int ((if 0 ≤ p0 then p0 else 0 - p0) - (if 0 ≤ p0 then p0 else 0 - p0) / 5 * 5)]) (rest := [.ref (q 14)]) 1 hx hb hml hown hts hK hA G rfl rfl (kd_leastHandle l dC dI cI cZ h q _ u ((if 0 ≤ p0 then p0 else 0 - p0) - (if 0 ≤ p0 then p0 else 0 - p0) / 5 * 5) (wt_in c_3)) gX0_awaitNotice_X0_leastHandle rfl rfl rfl hd_X0_leastHandle ⟨Nat.le_of_ble_eq_true rfl, Nat.le_of_ble_eq_true rfl⟩ rfl hl.1 rfl (Nat.le_of_ble_eq_true rfl) dX0_awaitNotice_48 (Nat.zero_le _) (Nat.zero_le _) (fun H locs G => ?_)
        refine gg0_ld14 hx hb hK G (i := pd_leastHandle u ((if 0 ≤ p0 then p0 else 0 - p0) - (if 0 ≤ p0 then p0 else 0 - p0) / 5 * 5)) (least_in (wt_in c_3)) dX0_awaitNotice_51 ?_
        refine lv_if_ne (tgt := 61) hx hb dX0_awaitNotice_52 (by decide) (fun c_52 => ?_) (fun c_52 => ?_)
        · refine lv_aload_n hx hb dX0_awaitNotice_61 rfl (lv_at hl 1 rfl) ?_
          refine gx_calli (wf := gw0_ cI cZ h q) (u := u) (f := pd_takeFlag u) (As := []) (rest := []) 0 hx hb hml hown hts hK hA G rfl rfl (kd_takeFlag l dC dI cI cZ h q _ u  hfl) gX0_awaitNotice_X0_takeFlag rfl rfl rfl hd_X0_takeFlag ⟨Nat.le_of_ble_eq_true rfl, Nat.le_of_ble_eq_true rfl⟩ rfl hl.1 rfl (Nat.le_of_ble_eq_true rfl) dX0_awaitNotice_62 (Nat.zero_le _) (Nat.zero_le _) (fun H locs G => ?_)
          refine lv_if_eq (tgt := 76) hx hb dX0_awaitNotice_65 (by decide) (fun c_65 => ?_) (fun c_65 => ?_)
          · refine lv_bipush (v := (-2)) hx hb dX0_awaitNotice_76 (by decide) ?_
            exact gx_iret (wf := gw0_ cI cZ h q) (u1 := (pd_takeFlag u).2) hx hb hr hlocks hsz hK hAe G dX0_awaitNotice_78 (by unfold pd_awaitNotice; rw [if_neg c_3, if_neg c_23, if_pos c_33, if_neg c_52, if_pos c_65])
          · refine lv_aload_n hx hb dX0_awaitNotice_68 rfl (lv_at hl 1 rfl) ?_
            refine lv_iconst (v := 4) hx hb dX0_awaitNotice_69 (by decide) ?_
            refine gx_calli (wf := gw0_ cI cZ h q) (u := (pd_takeFlag u).2) (f := pd_raise ((pd_takeFlag u).2) 4) (As := [.int 4]) (rest := []) 1 hx hb hml hown hts hK hA G rfl rfl (kd_raise l dC dI cI cZ h q _ ((pd_takeFlag u).2) 4 ) gX0_awaitNotice_X0_raise rfl rfl rfl hd_X0_raise ⟨Nat.le_of_ble_eq_true rfl, Nat.le_of_ble_eq_true rfl⟩ rfl hl.1 rfl (Nat.le_of_ble_eq_true rfl) dX0_awaitNotice_70 (Nat.zero_le _) (Nat.zero_le _) (fun H locs G => ?_)
            refine lv_goto (tgt := 78) hx hb dX0_awaitNotice_73 (by decide) ?_
            exact gx_iret (wf := gw0_ cI cZ h q) (u1 := (pd_raise ((pd_takeFlag u).2) 4).2) hx hb hr hlocks hsz hK hAe G dX0_awaitNotice_78 (by unfold pd_awaitNotice; rw [if_neg c_3, if_neg c_23, if_pos c_33, if_neg c_52, if_neg c_65])
        · refine lv_aload_n hx hb dX0_awaitNotice_55 rfl (lv_at hl 1 rfl) ?_
          refine lv_iconst (v := 2) hx hb dX0_awaitNotice_56 (by decide) ?_
          refine gx_calli (wf := gw0_ cI cZ h q) (u := u) (f := pd_raise u 2) (As := [.int 2]) (rest := []) 1 hx hb hml hown hts hK hA G rfl rfl (kd_raise l dC dI cI cZ h q _ u 2 ) gX0_awaitNotice_X0_raise rfl rfl rfl hd_X0_raise ⟨Nat.le_of_ble_eq_true rfl, Nat.le_of_ble_eq_true rfl⟩ rfl hl.1 rfl (Nat.le_of_ble_eq_true rfl) dX0_awaitNotice_57 (Nat.zero_le _) (Nat.zero_le _) (fun H locs G => ?_)
          exact gx_iret (wf := gw0_ cI cZ h q) (u1 := (pd_raise u 2).2) hx hb hr hlocks hsz hK hAe G dX0_awaitNotice_60 (by unfold pd_awaitNotice; rw [if_neg c_3, if_neg c_23, if_pos c_33, if_pos c_52])
      · refine lv_aload_n hx hb dX0_awaitNotice_36 rfl (lv_at hl 1 rfl) ?_
        refine lv_iconst (v := 3) hx hb dX0_awaitNotice_37 (by decide) ?_
        refine gx_calli (wf := gw0_ cI cZ h q) (u := u) (f := pd_raise u 3) (As := [.int 3]) (rest := []) 1 hx hb hml hown hts hK hA G rfl rfl (kd_raise l dC dI cI cZ h q _ u 3 ) gX0_awaitNotice_X0_raise rfl rfl rfl hd_X0_raise ⟨Nat.le_of_ble_eq_true rfl, Nat.le_of_ble_eq_true rfl⟩ rfl hl.1 rfl (Nat.le_of_ble_eq_true rfl) dX0_awaitNotice_38 (Nat.zero_le _) (Nat.zero_le _) (fun H locs G => ?_)
        exact gx_iret (wf := gw0_ cI cZ h q) (u1 := (pd_raise u 3).2) hx hb hr hlocks hsz hK hAe G dX0_awaitNotice_41 (by unfold pd_awaitNotice; rw [if_neg c_3, if_neg c_23, if_neg c_33])
    · refine lv_aload_n hx hb dX0_awaitNotice_26 rfl (lv_at hl 1 rfl) ?_
      refine lv_iconst (v := 1) hx hb dX0_awaitNotice_27 (by decide) ?_
      refine gx_calli (wf := gw0_ cI cZ h q) (u := u) (f := pd_raise u 1) (As := [.int 1]) (rest := []) 1 hx hb hml hown hts hK hA G rfl rfl (kd_raise l dC dI cI cZ h q _ u 1 ) gX0_awaitNotice_X0_raise rfl rfl rfl hd_X0_raise ⟨Nat.le_of_ble_eq_true rfl, Nat.le_of_ble_eq_true rfl⟩ rfl hl.1 rfl (Nat.le_of_ble_eq_true rfl) dX0_awaitNotice_28 (Nat.zero_le _) (Nat.zero_le _) (fun H locs G => ?_)
      exact gx_iret (wf := gw0_ cI cZ h q) (u1 := (pd_raise u 1).2) hx hb hr hlocks hsz hK hAe G dX0_awaitNotice_31 (by unfold pd_awaitNotice; rw [if_neg c_3, if_pos c_23])
  · refine lv_iconst (v := 0) hx hb dX0_awaitNotice_6 (by decide) ?_
    refine lv_goto (tgt := 16) hx hb dX0_awaitNotice_7 (by decide) ?_
    refine lv_istore_n (lv' := [(2, .int 0), (0, .ref h), (1, .int p0)]) hx hb dX0_awaitNotice_16 rfl hl (by decide) rfl (fun ls hl => ?_)
    refine lv_aload_n hx hb dX0_awaitNotice_17 rfl (lv_at hl 1 rfl) ?_
    refine gg0_get (v := .ref (q 0)) hx hb hts hin hown hK G 0 (by decide) (index := 9) (by decide +kernel) rfl dX0_awaitNotice_18 ?_
    refine lv_iload_n hx hb dX0_awaitNotice_21 rfl (lv_at hl 0 rfl) ?_
    refine gg0_ld0 hx hb hK G (i := 0) (in_z (by decide)) dX0_awaitNotice_22 ?_
    refine lv_if_ne (tgt := 32) hx hb dX0_awaitNotice_23 (by decide) (fun c_23 => ?_) (fun c_23 => ?_)
    · refine lv_iload_n hx hb dX0_awaitNotice_32 rfl (lv_at hl 2 rfl) ?_
      refine lv_if_ge (tgt := 42) hx hb dX0_awaitNotice_33 (by decide) (fun z => absurd z (by rw [c_3]; decide)) (fun _ => ?_)
      refine lv_aload_n hx hb dX0_awaitNotice_36 rfl (lv_at hl 1 rfl) ?_
      refine lv_iconst (v := 3) hx hb dX0_awaitNotice_37 (by decide) ?_
      refine gx_calli (wf := gw0_ cI cZ h q) (u := u) (f := pd_raise u 3) (As := [.int 3]) (rest := []) 1 hx hb hml hown hts hK hA G rfl rfl (kd_raise l dC dI cI cZ h q _ u 3 ) gX0_awaitNotice_X0_raise rfl rfl rfl hd_X0_raise ⟨Nat.le_of_ble_eq_true rfl, Nat.le_of_ble_eq_true rfl⟩ rfl hl.1 rfl (Nat.le_of_ble_eq_true rfl) dX0_awaitNotice_38 (Nat.zero_le _) (Nat.zero_le _) (fun H locs G => ?_)
      exact gx_iret (wf := gw0_ cI cZ h q) (u1 := (pd_raise u 3).2) hx hb hr hlocks hsz hK hAe G dX0_awaitNotice_41 (by unfold pd_awaitNotice; rw [if_pos c_3, if_neg c_23])
    · refine lv_aload_n hx hb dX0_awaitNotice_26 rfl (lv_at hl 1 rfl) ?_
      refine lv_iconst (v := 1) hx hb dX0_awaitNotice_27 (by decide) ?_
      refine gx_calli (wf := gw0_ cI cZ h q) (u := u) (f := pd_raise u 1) (As := [.int 1]) (rest := []) 1 hx hb hml hown hts hK hA G rfl rfl (kd_raise l dC dI cI cZ h q _ u 1 ) gX0_awaitNotice_X0_raise rfl rfl rfl hd_X0_raise ⟨Nat.le_of_ble_eq_true rfl, Nat.le_of_ble_eq_true rfl⟩ rfl hl.1 rfl (Nat.le_of_ble_eq_true rfl) dX0_awaitNotice_28 (Nat.zero_le _) (Nat.zero_le _) (fun H locs G => ?_)
      exact gx_iret (wf := gw0_ cI cZ h q) (u1 := (pd_raise u 1).2) hx hb hr hlocks hsz hK hAe G dX0_awaitNotice_31 (by unfold pd_awaitNotice; rw [if_pos c_3, if_pos c_23])
theorem hd_X0_awaitNotice : yX0_awaitNotice.cls = RX0 ∧ yX0_awaitNotice.cls ≠ "java/lang/invoke/MethodHandle" ∧ yX0_awaitNotice.cls ≠ "java/lang/invoke/VarHandle" ∧ (parseMethodDescriptor yX0_awaitNotice.desc).map (fun d => d.parameters.length) = some 1 := by decide +kernel
def pd_sleep (u : st_T) (p0 : Int32) : Int32 × st_T :=
  if 0 ≤ p0 then
    if (pd_takeFlag u).1 = 0 then
      (0, (pd_takeFlag u).2)
    else
      ((pd_raise ((pd_takeFlag u).2) 4).1, (pd_raise ((pd_takeFlag u).2) 4).2)
  else
    ((pd_raise u 3).1, (pd_raise u 3).2)
set_option maxHeartbeats 4000000 in
set_option maxRecDepth 100000 in
theorem kd_sleep (l : Launch) (dC : Nat → ClassId) (dI : Nat → Nat → Nat) (cI cZ : ClassId) (h : Nat) (q : Nat → Nat) (sz : Nat) (u : st_T) (p0 : Int32) (hfl : u.1 4 = 0 ∨ u.1 4 = 1) : gx_Mi l yX0_sleep wsX0_sleep { frames := 1, cells := 0, slots := 0, locals := 21 } [.ref h, .int p0] (dC, dI) cI cZ (gw0_ cI cZ h q) u sz (pd_sleep u p0) := by
  refine gx_met (cc := cX0_sleep) (maxL := 2) (ret := (some .int)) (by decide +kernel) rfl (Nat.le_of_ble_eq_true rfl) (fun p e s m args below meth c A ls hsz hx hb hr hlocks hts hown hml hK hAe hA G hl => ?_)
  have hown : s.vm.findClass RX0 = some m.cls := hown
  have hin : ∀ w ∈ wsX00, w ∈ wsX0_sleep := gx_in
  have hl : lv_has ls 2 [(0, .ref h), (1, .int p0)] := hl
  refine lv_iload_n hx hb dX0_sleep_0 rfl (lv_at hl 1 rfl) ?_
  refine lv_if_ge (tgt := 10) hx hb dX0_sleep_1 (by decide) (fun c_1 => ?_) (fun c_1 => ?_)
  · refine lv_aload_n hx hb dX0_sleep_10 rfl (lv_at hl 0 rfl) ?_
    refine gx_calli (wf := gw0_ cI cZ h q) (u := u) (f := pd_takeFlag u) (As := []) (rest := []) 0 hx hb hml hown hts hK hA G rfl rfl (kd_takeFlag l dC dI cI cZ h q _ u  hfl) gX0_sleep_X0_takeFlag rfl rfl rfl hd_X0_takeFlag ⟨Nat.le_of_ble_eq_true rfl, Nat.le_of_ble_eq_true rfl⟩ rfl hl.1 rfl (Nat.le_of_ble_eq_true rfl) dX0_sleep_11 (Nat.zero_le _) (Nat.zero_le _) (fun H locs G => ?_)
    refine lv_if_eq (tgt := 25) hx hb dX0_sleep_14 (by decide) (fun c_14 => ?_) (fun c_14 => ?_)
    · refine lv_iconst (v := 0) hx hb dX0_sleep_25 (by decide) ?_
      exact gx_iret (wf := gw0_ cI cZ h q) (u1 := (pd_takeFlag u).2) hx hb hr hlocks hsz hK hAe G dX0_sleep_26 (by unfold pd_sleep; rw [if_pos c_1, if_pos c_14])
    · refine lv_aload_n hx hb dX0_sleep_17 rfl (lv_at hl 0 rfl) ?_
      refine lv_iconst (v := 4) hx hb dX0_sleep_18 (by decide) ?_
      refine gx_calli (wf := gw0_ cI cZ h q) (u := (pd_takeFlag u).2) (f := pd_raise ((pd_takeFlag u).2) 4) (As := [.int 4]) (rest := []) 1 hx hb hml hown hts hK hA G rfl rfl (kd_raise l dC dI cI cZ h q _ ((pd_takeFlag u).2) 4 ) gX0_sleep_X0_raise rfl rfl rfl hd_X0_raise ⟨Nat.le_of_ble_eq_true rfl, Nat.le_of_ble_eq_true rfl⟩ rfl hl.1 rfl (Nat.le_of_ble_eq_true rfl) dX0_sleep_19 (Nat.zero_le _) (Nat.zero_le _) (fun H locs G => ?_)
      refine lv_goto (tgt := 26) hx hb dX0_sleep_22 (by decide) ?_
      exact gx_iret (wf := gw0_ cI cZ h q) (u1 := (pd_raise ((pd_takeFlag u).2) 4).2) hx hb hr hlocks hsz hK hAe G dX0_sleep_26 (by unfold pd_sleep; rw [if_pos c_1, if_neg c_14])
  · refine lv_aload_n hx hb dX0_sleep_4 rfl (lv_at hl 0 rfl) ?_
    refine lv_iconst (v := 3) hx hb dX0_sleep_5 (by decide) ?_
    refine gx_calli (wf := gw0_ cI cZ h q) (u := u) (f := pd_raise u 3) (As := [.int 3]) (rest := []) 1 hx hb hml hown hts hK hA G rfl rfl (kd_raise l dC dI cI cZ h q _ u 3 ) gX0_sleep_X0_raise rfl rfl rfl hd_X0_raise ⟨Nat.le_of_ble_eq_true rfl, Nat.le_of_ble_eq_true rfl⟩ rfl hl.1 rfl (Nat.le_of_ble_eq_true rfl) dX0_sleep_6 (Nat.zero_le _) (Nat.zero_le _) (fun H locs G => ?_)
    exact gx_iret (wf := gw0_ cI cZ h q) (u1 := (pd_raise u 3).2) hx hb hr hlocks hsz hK hAe G dX0_sleep_9 (by unfold pd_sleep; rw [if_neg c_1])
theorem hd_X0_sleep : yX0_sleep.cls = RX0 ∧ yX0_sleep.cls ≠ "java/lang/invoke/MethodHandle" ∧ yX0_sleep.cls ≠ "java/lang/invoke/VarHandle" ∧ (parseMethodDescriptor yX0_sleep.desc).map (fun d => d.parameters.length) = some 1 := by decide +kernel
def pd_start (u : st_T) (p0 : Int32) : Int32 × st_T :=
  if u.2 2 (ix p0) = 0 then
    (0, st_si (st_sa u 2 (ix p0) 1) 3 ((u.1 3) + (p0 + 1)))
  else
    ((pd_raise u 5).1, (pd_raise u 5).2)
set_option maxHeartbeats 4000000 in
set_option maxRecDepth 100000 in
theorem kd_start (l : Launch) (dC : Nat → ClassId) (dI : Nat → Nat → Nat) (cI cZ : ClassId) (h : Nat) (q : Nat → Nat) (sz : Nat) (u : st_T) (p0 : Int32) (hp0 : vp_in p0 4) : gx_Mi l yX0_start wsX0_start { frames := 1, cells := 0, slots := 0, locals := 21 } [.ref h, .int p0] (dC, dI) cI cZ (gw0_ cI cZ h q) u sz (pd_start u p0) := by
  refine gx_met (cc := cX0_start) (maxL := 2) (ret := (some .int)) (by decide +kernel) rfl (Nat.le_of_ble_eq_true rfl) (fun p e s m args below meth c A ls hsz hx hb hr hlocks hts hown hml hK hAe hA G hl => ?_)
  have hown : s.vm.findClass RX0 = some m.cls := hown
  have hin : ∀ w ∈ wsX00, w ∈ wsX0_start := gx_in
  have hl : lv_has ls 2 [(0, .ref h), (1, .int p0)] := hl
  refine lv_aload_n hx hb dX0_start_0 rfl (lv_at hl 0 rfl) ?_
  refine gg0_get (v := .ref (q 2)) hx hb hts hin hown hK G 2 (by decide) (index := 17) (by decide +kernel) rfl dX0_start_1 ?_
  refine lv_iload_n hx hb dX0_start_4 rfl (lv_at hl 1 rfl) ?_
  refine gg0_ld2 hx hb hK G (i := p0) hp0 dX0_start_5 ?_
  refine lv_if_eq (tgt := 15) hx hb dX0_start_6 (by decide) (fun c_6 => ?_) (fun c_6 => ?_)
  · refine lv_aload_n hx hb dX0_start_15 rfl (lv_at hl 0 rfl) ?_
    refine gg0_get (v := .ref (q 2)) hx hb hts hin hown hK G 2 (by decide) (index := 17) (by decide +kernel) rfl dX0_start_16 ?_
    refine lv_iload_n hx hb dX0_start_19 rfl (lv_at hl 1 rfl) ?_
    refine lv_iconst (v := 1) hx hb dX0_start_20 (by decide) ?_
    refine gg0_st2 hx hb hK G (i := p0) (x := 1) hp0 rfl dX0_start_21 (fun H locs G => ?_)
    refine lv_aload_n hx hb dX0_start_22 rfl (lv_at hl 0 rfl) ?_
    refine lv_dup hx hb dX0_start_23 rfl ?_
    refine gg0_get (v := .int (u.1 3)) hx hb hts hin hown hK G 3 (by decide) (index := 21) (by decide +kernel) rfl dX0_start_24 ?_
    refine lv_iload_n hx hb dX0_start_27 rfl (lv_at hl 1 rfl) ?_
    refine lv_iconst (v := 1) hx hb dX0_start_28 (by decide) ?_
    refine lv_iadd hx hb dX0_start_29 ?_
    refine lv_iadd hx hb dX0_start_30 ?_
    refine gg0_put3 (v := (u.1 3) + (p0 + 1)) hx hb hts hin hown hK G (index := 21) (by decide +kernel) dX0_start_31 (fun H locs G => ?_)
    refine lv_iconst (v := 0) hx hb dX0_start_34 (by decide) ?_
    exact gx_iret (wf := gw0_ cI cZ h q) (u1 := st_si (st_sa u 2 (ix p0) 1) 3 ((u.1 3) + (p0 + 1))) hx hb hr hlocks hsz hK hAe G dX0_start_35 (by unfold pd_start; rw [if_pos c_6])
  · refine lv_aload_n hx hb dX0_start_9 rfl (lv_at hl 0 rfl) ?_
    refine lv_iconst (v := 5) hx hb dX0_start_10 (by decide) ?_
    refine gx_calli (wf := gw0_ cI cZ h q) (u := u) (f := pd_raise u 5) (As := [.int 5]) (rest := []) 1 hx hb hml hown hts hK hA G rfl rfl (kd_raise l dC dI cI cZ h q _ u 5 ) gX0_start_X0_raise rfl rfl rfl hd_X0_raise ⟨Nat.le_of_ble_eq_true rfl, Nat.le_of_ble_eq_true rfl⟩ rfl hl.1 rfl (Nat.le_of_ble_eq_true rfl) dX0_start_11 (Nat.zero_le _) (Nat.zero_le _) (fun H locs G => ?_)
    exact gx_iret (wf := gw0_ cI cZ h q) (u1 := (pd_raise u 5).2) hx hb hr hlocks hsz hK hAe G dX0_start_14 (by unfold pd_start; rw [if_neg c_6])
theorem hd_X0_start : yX0_start.cls = RX0 ∧ yX0_start.cls ≠ "java/lang/invoke/MethodHandle" ∧ yX0_start.cls ≠ "java/lang/invoke/VarHandle" ∧ (parseMethodDescriptor yX0_start.desc).map (fun d => d.parameters.length) = some 1 := by decide +kernel
def pd_perform (u : st_T) (p0 : Int32) : Int32 × st_T :=
  if u.2 5 (ix p0) = 0 then
    ((pd_endBlock u (u.2 7 (ix p0))).1, (pd_endBlock u (u.2 7 (ix p0))).2)
  else
    if u.2 5 (ix p0) = 1 then
      ((pd_enter u (pj_floorMod_7cf53 (u.2 6 (ix p0)) 5)).1, (pd_enter u (pj_floorMod_7cf53 (u.2 6 (ix p0)) 5)).2)
    else
      if u.2 5 (ix p0) = 2 then
        (0, u)
      else
        if u.2 5 (ix p0) = 3 then
          ((pd_notifyWaiting u (pj_floorMod_7cf53 (u.2 6 (ix p0)) 5)).1, (pd_notifyWaiting u (pj_floorMod_7cf53 (u.2 6 (ix p0)) 5)).2)
        else
          if u.2 5 (ix p0) = 4 then
            ((pd_notifyWaiting u (pj_floorMod_7cf53 (u.2 6 (ix p0)) 5)).1, (pd_notifyWaiting u (pj_floorMod_7cf53 (u.2 6 (ix p0)) 5)).2)
          else
            if u.2 5 (ix p0) = 5 then
              ((pd_holdsLock u (pj_floorMod_7cf53 (u.2 6 (ix p0)) 5)).1, (pd_holdsLock u (pj_floorMod_7cf53 (u.2 6 (ix p0)) 5)).2)
            else
              if u.2 5 (ix p0) = 6 then
                ((pd_awaitNotice u (u.2 6 (ix p0))).1, (pd_awaitNotice u (u.2 6 (ix p0))).2)
              else
                if u.2 5 (ix p0) = 7 then
                  (0, st_si u 4 1)
                else
                  if u.2 5 (ix p0) = 8 then
                    (pd_asNumber ((pd_takeFlag u).1), (pd_takeFlag u).2)
                  else
                    if u.2 5 (ix p0) = 9 then
                      (pd_asNumber (u.1 4), u)
                    else
                      if u.2 5 (ix p0) = 10 then
                        ((pd_sleep u (u.2 6 (ix p0))).1, (pd_sleep u (u.2 6 (ix p0))).2)
                      else
                        if u.2 5 (ix p0) = 11 then
                          ((pd_raise u (100 + (pj_floorMod_7cf53 (u.2 6 (ix p0)) 100))).1, (pd_raise u (100 + (pj_floorMod_7cf53 (u.2 6 (ix p0)) 100))).2)
                        else
                          if u.2 5 (ix p0) = 12 then
                            ((pd_start u (pj_floorMod_7cf53 (u.2 6 (ix p0)) 4)).1, (pd_start u (pj_floorMod_7cf53 (u.2 6 (ix p0)) 4)).2)
                          else
                            if u.2 5 (ix p0) = 13 then
                              (pd_asNumber (u.2 2 (ix (pj_floorMod_7cf53 (u.2 6 (ix p0)) 4))), u)
                            else
                              if u.2 5 (ix p0) = 14 then
                                (pd_asNumber (u.2 2 (ix (pj_floorMod_7cf53 (u.2 6 (ix p0)) 4))), u)
                              else
                                if u.2 5 (ix p0) = 15 then
                                  ((u.1 3) + (u.2 6 (ix p0)), st_si u 3 ((u.1 3) + (u.2 6 (ix p0))))
                                else
                                  (0, u)
set_option maxHeartbeats 4000000 in
set_option maxRecDepth 100000 in
theorem kd_perform (l : Launch) (dC : Nat → ClassId) (dI : Nat → Nat → Nat) (cI cZ : ClassId) (h : Nat) (q : Nat → Nat) (sz : Nat) (u : st_T) (p0 : Int32) (hp0 : vp_in p0 24) (hfl : u.1 4 = 0 ∨ u.1 4 = 1) (har : u.2 7 (ix p0) = -1 ∨ vp_in (u.2 7 (ix p0)) 24) : gx_Mi l yX0_perform wsX0_perform { frames := 3, cells := 0, slots := 0, locals := 65 } [.ref h, .int p0] (dC, dI) cI cZ (gw0_ cI cZ h q) u sz (pd_perform u p0) := by
  refine gx_met (cc := cX0_perform) (maxL := 5) (ret := (some .int)) (by decide +kernel) rfl (Nat.le_of_ble_eq_true rfl) (fun p e s m args below meth c A ls hsz hx hb hr hlocks hts hown hml hK hAe hA G hl => ?_)
  have hown : s.vm.findClass RX0 = some m.cls := hown
  have hin : ∀ w ∈ wsX00, w ∈ wsX0_perform := gx_in
  have hl : lv_has ls 5 [(0, .ref h), (1, .int p0)] := hl
  refine lv_aload_n hx hb dX0_perform_0 rfl (lv_at hl 0 rfl) ?_
  refine gg0_get (v := .ref (q 6)) hx hb hts hin hown hK G 6 (by decide) (index := 31) (by decide +kernel) rfl dX0_perform_1 ?_
  refine lv_iload_n hx hb dX0_perform_4 rfl (lv_at hl 1 rfl) ?_
  refine gg0_ld6 hx hb hK G (i := p0) hp0 dX0_perform_5 ?_
  refine lv_istore_n (lv' := [(2, .int (u.2 6 (ix p0))), (0, .ref h), (1, .int p0)]) hx hb dX0_perform_6 rfl hl (by decide) rfl (fun ls hl => ?_)
  refine lv_iload_n hx hb dX0_perform_7 rfl (lv_at hl 0 rfl) ?_
  refine lv_iconst (v := 5) hx hb dX0_perform_8 (by decide) ?_
  refine gx_calls (f := pj_floorMod_7cf53 (u.2 6 (ix p0)) 5) (As := [.int (u.2 6 (ix p0)), .int 5]) (rest := []) 2 hx hb hml hown hts (kj_floorMod_7cf53 l (u.2 6 (ix p0)) 5 (by decide)) gX0_perform_J9_floorMod_7cf53 rfl rfl rfl hd_J9_floorMod_7cf53 ⟨Nat.le_of_ble_eq_true rfl, Nat.le_of_ble_eq_true rfl⟩ rfl hl.1 rfl (Nat.le_of_ble_eq_true rfl) dX0_perform_9 (Nat.zero_le _) (Nat.zero_le _) ?_
  refine lv_istore_n (lv' := [(3, .int (pj_floorMod_7cf53 (u.2 6 (ix p0)) 5)), (2, .int (u.2 6 (ix p0))), (0, .ref h), (1, .int p0)]) hx hb dX0_perform_12 rfl hl (by decide) rfl (fun ls hl => ?_)
  refine lv_iload_n hx hb dX0_perform_13 rfl (lv_at hl 1 rfl) ?_
  refine lv_iconst (v := 4) hx hb dX0_perform_14 (by decide) ?_
  refine gx_calls (f := pj_floorMod_7cf53 (u.2 6 (ix p0)) 4) (As := [.int (u.2 6 (ix p0)), .int 4]) (rest := []) 2 hx hb hml hown hts (kj_floorMod_7cf53 l (u.2 6 (ix p0)) 4 (by decide)) gX0_perform_J9_floorMod_7cf53 rfl rfl rfl hd_J9_floorMod_7cf53 ⟨Nat.le_of_ble_eq_true rfl, Nat.le_of_ble_eq_true rfl⟩ rfl hl.1 rfl (Nat.le_of_ble_eq_true rfl) dX0_perform_15 (Nat.zero_le _) (Nat.zero_le _) ?_
  refine lv_istore (lv' := [(4, .int (pj_floorMod_7cf53 (u.2 6 (ix p0)) 4)), (3, .int (pj_floorMod_7cf53 (u.2 6 (ix p0)) 5)), (2, .int (u.2 6 (ix p0))), (0, .ref h), (1, .int p0)]) hx hb dX0_perform_18 hl (by decide) rfl (fun ls hl => ?_)
  refine lv_aload_n hx hb dX0_perform_20 rfl (lv_at hl 3 rfl) ?_
  refine gg0_get (v := .ref (q 5)) hx hb hts hin hown hK G 5 (by decide) (index := 28) (by decide +kernel) rfl dX0_perform_21 ?_
  refine lv_iload_n hx hb dX0_perform_24 rfl (lv_at hl 4 rfl) ?_
  refine gg0_ld5 hx hb hK G (i := p0) hp0 dX0_perform_25 ?_
  by_cases c_26_0 : u.2 5 (ix p0) = 0
  · refine lv_tableIn (tgt := 104) hx hb dX0_perform_26 (by rw [c_26_0]; decide) (by rw [c_26_0]; decide) (by rw [c_26_0]; rfl) (by decide) ?_
    refine lv_aload_n hx hb dX0_perform_104 rfl (lv_at hl 3 rfl) ?_
    refine lv_aload_n hx hb dX0_perform_105 rfl (lv_at hl 3 rfl) ?_
    refine gg0_get (v := .ref (q 7)) hx hb hts hin hown hK G 7 (by decide) (index := 34) (by decide +kernel) rfl dX0_perform_106 ?_
    refine lv_iload_n hx hb dX0_perform_109 rfl (lv_at hl 4 rfl) ?_
    refine gg0_ld7 hx hb hK G (i := p0) hp0 dX0_perform_110 ?_
    refine gx_calli (wf := gw0_ cI cZ h q) (u := u) (f := pd_endBlock u (u.2 7 (ix p0))) (As := [.int (u.2 7 (ix p0))]) (rest := []) 1 hx hb hml hown hts hK hA G rfl rfl (kd_endBlock l dC dI cI cZ h q _ u (u.2 7 (ix p0)) har) gX0_perform_X0_endBlock rfl rfl rfl hd_X0_endBlock ⟨Nat.le_of_ble_eq_true rfl, Nat.le_of_ble_eq_true rfl⟩ rfl hl.1 rfl (Nat.le_of_ble_eq_true rfl) dX0_perform_111 (Nat.zero_le _) (Nat.zero_le _) (fun H locs G => ?_)
    exact gx_iret (wf := gw0_ cI cZ h q) (u1 := (pd_endBlock u (u.2 7 (ix p0))).2) hx hb hr hlocks hsz hK hAe G dX0_perform_114 (by unfold pd_perform; rw [if_pos c_26_0])
  by_cases c_26_1 : u.2 5 (ix p0) = 1
  · refine lv_tableIn (tgt := 115) hx hb dX0_perform_26 (by rw [c_26_1]; decide) (by rw [c_26_1]; decide) (by rw [c_26_1]; rfl) (by decide) ?_
    refine lv_aload_n hx hb dX0_perform_115 rfl (lv_at hl 3 rfl) ?_
    refine lv_iload_n hx hb dX0_perform_116 rfl (lv_at hl 1 rfl) ?_
    refine gx_calli (wf := gw0_ cI cZ h q) (u := u) (f := pd_enter u (pj_floorMod_7cf53 (u.2 6 (ix p0)) 5)) (As := [.int (pj_floorMod_7cf53 (u.2 6 (ix p0)) 5)]) (rest := []) 1 hx hb hml hown hts hK hA G rfl rfl (kd_enter l dC dI cI cZ h q _ u (pj_floorMod_7cf53 (u.2 6 (ix p0)) 5) (fm_in5 _)) gX0_perform_X0_enter rfl rfl rfl hd_X0_enter ⟨Nat.le_of_ble_eq_true rfl, Nat.le_of_ble_eq_true rfl⟩ rfl hl.1 rfl (Nat.le_of_ble_eq_true rfl) dX0_perform_117 (Nat.zero_le _) (Nat.zero_le _) (fun H locs G => ?_)
    exact gx_iret (wf := gw0_ cI cZ h q) (u1 := (pd_enter u (pj_floorMod_7cf53 (u.2 6 (ix p0)) 5)).2) hx hb hr hlocks hsz hK hAe G dX0_perform_120 (by unfold pd_perform; rw [if_neg c_26_0, if_pos c_26_1])
  by_cases c_26_2 : u.2 5 (ix p0) = 2
  · refine lv_tableIn (tgt := 215) hx hb dX0_perform_26 (by rw [c_26_2]; decide) (by rw [c_26_2]; decide) (by rw [c_26_2]; rfl) (by decide) ?_
    refine lv_iconst (v := 0) hx hb dX0_perform_215 (by decide) ?_
    exact gx_iret (wf := gw0_ cI cZ h q) (u1 := u) hx hb hr hlocks hsz hK hAe G dX0_perform_216 (by unfold pd_perform; rw [if_neg c_26_0, if_neg c_26_1, if_pos c_26_2])
  by_cases c_26_3 : u.2 5 (ix p0) = 3
  · refine lv_tableIn (tgt := 121) hx hb dX0_perform_26 (by rw [c_26_3]; decide) (by rw [c_26_3]; decide) (by rw [c_26_3]; rfl) (by decide) ?_
    refine lv_aload_n hx hb dX0_perform_121 rfl (lv_at hl 3 rfl) ?_
    refine lv_iload_n hx hb dX0_perform_122 rfl (lv_at hl 1 rfl) ?_
    refine gx_calli (wf := gw0_ cI cZ h q) (u := u) (f := pd_notifyWaiting u (pj_floorMod_7cf53 (u.2 6 (ix p0)) 5)) (As := [.int (pj_floorMod_7cf53 (u.2 6 (ix p0)) 5)]) (rest := []) 1 hx hb hml hown hts hK hA G rfl rfl (kd_notifyWaiting l dC dI cI cZ h q _ u (pj_floorMod_7cf53 (u.2 6 (ix p0)) 5) (fm_in5 _)) gX0_perform_X0_notifyWaiting rfl rfl rfl hd_X0_notifyWaiting ⟨Nat.le_of_ble_eq_true rfl, Nat.le_of_ble_eq_true rfl⟩ rfl hl.1 rfl (Nat.le_of_ble_eq_true rfl) dX0_perform_123 (Nat.zero_le _) (Nat.zero_le _) (fun H locs G => ?_)
    exact gx_iret (wf := gw0_ cI cZ h q) (u1 := (pd_notifyWaiting u (pj_floorMod_7cf53 (u.2 6 (ix p0)) 5)).2) hx hb hr hlocks hsz hK hAe G dX0_perform_126 (by unfold pd_perform; rw [if_neg c_26_0, if_neg c_26_1, if_neg c_26_2, if_pos c_26_3])
  by_cases c_26_4 : u.2 5 (ix p0) = 4
  · refine lv_tableIn (tgt := 121) hx hb dX0_perform_26 (by rw [c_26_4]; decide) (by rw [c_26_4]; decide) (by rw [c_26_4]; rfl) (by decide) ?_
    refine lv_aload_n hx hb dX0_perform_121 rfl (lv_at hl 3 rfl) ?_
    refine lv_iload_n hx hb dX0_perform_122 rfl (lv_at hl 1 rfl) ?_
    refine gx_calli (wf := gw0_ cI cZ h q) (u := u) (f := pd_notifyWaiting u (pj_floorMod_7cf53 (u.2 6 (ix p0)) 5)) (As := [.int (pj_floorMod_7cf53 (u.2 6 (ix p0)) 5)]) (rest := []) 1 hx hb hml hown hts hK hA G rfl rfl (kd_notifyWaiting l dC dI cI cZ h q _ u (pj_floorMod_7cf53 (u.2 6 (ix p0)) 5) (fm_in5 _)) gX0_perform_X0_notifyWaiting rfl rfl rfl hd_X0_notifyWaiting ⟨Nat.le_of_ble_eq_true rfl, Nat.le_of_ble_eq_true rfl⟩ rfl hl.1 rfl (Nat.le_of_ble_eq_true rfl) dX0_perform_123 (Nat.zero_le _) (Nat.zero_le _) (fun H locs G => ?_)
    exact gx_iret (wf := gw0_ cI cZ h q) (u1 := (pd_notifyWaiting u (pj_floorMod_7cf53 (u.2 6 (ix p0)) 5)).2) hx hb hr hlocks hsz hK hAe G dX0_perform_126 (by unfold pd_perform; rw [if_neg c_26_0, if_neg c_26_1, if_neg c_26_2, if_neg c_26_3, if_pos c_26_4])
  by_cases c_26_5 : u.2 5 (ix p0) = 5
  · refine lv_tableIn (tgt := 127) hx hb dX0_perform_26 (by rw [c_26_5]; decide) (by rw [c_26_5]; decide) (by rw [c_26_5]; rfl) (by decide) ?_
    refine lv_aload_n hx hb dX0_perform_127 rfl (lv_at hl 3 rfl) ?_
    refine lv_iload_n hx hb dX0_perform_128 rfl (lv_at hl 1 rfl) ?_
    refine gx_calli (wf := gw0_ cI cZ h q) (u := u) (f := pd_holdsLock u (pj_floorMod_7cf53 (u.2 6 (ix p0)) 5)) (As := [.int (pj_floorMod_7cf53 (u.2 6 (ix p0)) 5)]) (rest := []) 1 hx hb hml hown hts hK hA G rfl rfl (kd_holdsLock l dC dI cI cZ h q _ u (pj_floorMod_7cf53 (u.2 6 (ix p0)) 5) (fm_in5 _)) gX0_perform_X0_holdsLock rfl rfl rfl hd_X0_holdsLock ⟨Nat.le_of_ble_eq_true rfl, Nat.le_of_ble_eq_true rfl⟩ rfl hl.1 rfl (Nat.le_of_ble_eq_true rfl) dX0_perform_129 (Nat.zero_le _) (Nat.zero_le _) (fun H locs G => ?_)
    exact gx_iret (wf := gw0_ cI cZ h q) (u1 := (pd_holdsLock u (pj_floorMod_7cf53 (u.2 6 (ix p0)) 5)).2) hx hb hr hlocks hsz hK hAe G dX0_perform_132 (by unfold pd_perform; rw [if_neg c_26_0, if_neg c_26_1, if_neg c_26_2, if_neg c_26_3, if_neg c_26_4, if_pos c_26_5])
  by_cases c_26_6 : u.2 5 (ix p0) = 6
  · refine lv_tableIn (tgt := 133) hx hb dX0_perform_26 (by rw [c_26_6]; decide) (by rw [c_26_6]; decide) (by rw [c_26_6]; rfl) (by decide) ?_
    refine lv_aload_n hx hb dX0_perform_133 rfl (lv_at hl 3 rfl) ?_
    refine lv_iload_n hx hb dX0_perform_134 rfl (lv_at hl 2 rfl) ?_
    refine gx_calli (wf := gw0_ cI cZ h q) (u := u) (f := pd_awaitNotice u (u.2 6 (ix p0))) (As := [.int (u.2 6 (ix p0))]) (rest := []) 1 hx hb hml hown hts hK hA G rfl rfl (kd_awaitNotice l dC dI cI cZ h q _ u (u.2 6 (ix p0)) hfl) gX0_perform_X0_awaitNotice rfl rfl rfl hd_X0_awaitNotice ⟨Nat.le_of_ble_eq_true rfl, Nat.le_of_ble_eq_true rfl⟩ rfl hl.1 rfl (Nat.le_of_ble_eq_true rfl) dX0_perform_135 (Nat.zero_le _) (Nat.zero_le _) (fun H locs G => ?_)
    exact gx_iret (wf := gw0_ cI cZ h q) (u1 := (pd_awaitNotice u (u.2 6 (ix p0))).2) hx hb hr hlocks hsz hK hAe G dX0_perform_138 (by unfold pd_perform; rw [if_neg c_26_0, if_neg c_26_1, if_neg c_26_2, if_neg c_26_3, if_neg c_26_4, if_neg c_26_5, if_pos c_26_6])
  by_cases c_26_7 : u.2 5 (ix p0) = 7
  · refine lv_tableIn (tgt := 139) hx hb dX0_perform_26 (by rw [c_26_7]; decide) (by rw [c_26_7]; decide) (by rw [c_26_7]; rfl) (by decide) ?_
    refine lv_aload_n hx hb dX0_perform_139 rfl (lv_at hl 3 rfl) ?_
    refine lv_iconst (v := 1) hx hb dX0_perform_140 (by decide) ?_
    refine gg0_put4 (v := 1) hx hb hts hin hown hK G (index := 24) (by decide +kernel) rfl rfl dX0_perform_141 (fun H locs G => ?_)
    refine lv_iconst (v := 0) hx hb dX0_perform_144 (by decide) ?_
    exact gx_iret (wf := gw0_ cI cZ h q) (u1 := st_si u 4 1) hx hb hr hlocks hsz hK hAe G dX0_perform_145 (by unfold pd_perform; rw [if_neg c_26_0, if_neg c_26_1, if_neg c_26_2, if_neg c_26_3, if_neg c_26_4, if_neg c_26_5, if_neg c_26_6, if_pos c_26_7])
  by_cases c_26_8 : u.2 5 (ix p0) = 8
  · refine lv_tableIn (tgt := 146) hx hb dX0_perform_26 (by rw [c_26_8]; decide) (by rw [c_26_8]; decide) (by rw [c_26_8]; rfl) (by decide) ?_
    refine lv_aload_n hx hb dX0_perform_146 rfl (lv_at hl 3 rfl) ?_
    refine gx_calli (wf := gw0_ cI cZ h q) (u := u) (f := pd_takeFlag u) (As := []) (rest := []) 0 hx hb hml hown hts hK hA G rfl rfl (kd_takeFlag l dC dI cI cZ h q _ u  hfl) gX0_perform_X0_takeFlag rfl rfl rfl hd_X0_takeFlag ⟨Nat.le_of_ble_eq_true rfl, Nat.le_of_ble_eq_true rfl⟩ rfl hl.1 rfl (Nat.le_of_ble_eq_true rfl) dX0_perform_147 (Nat.zero_le _) (Nat.zero_le _) (fun H locs G => ?_)
    refine gx_calls (f := pd_asNumber ((pd_takeFlag u).1)) (As := [.int ((pd_takeFlag u).1)]) (rest := []) 1 hx hb hml hown hts (kd_asNumber l ((pd_takeFlag u).1) ) gX0_perform_X0_asNumber rfl rfl rfl hd_X0_asNumber ⟨Nat.le_of_ble_eq_true rfl, Nat.le_of_ble_eq_true rfl⟩ rfl hl.1 rfl (Nat.le_of_ble_eq_true rfl) dX0_perform_150 (Nat.zero_le _) (Nat.zero_le _) ?_
    exact gx_iret (wf := gw0_ cI cZ h q) (u1 := (pd_takeFlag u).2) hx hb hr hlocks hsz hK hAe G dX0_perform_153 (by unfold pd_perform; rw [if_neg c_26_0, if_neg c_26_1, if_neg c_26_2, if_neg c_26_3, if_neg c_26_4, if_neg c_26_5, if_neg c_26_6, if_neg c_26_7, if_pos c_26_8])
  by_cases c_26_9 : u.2 5 (ix p0) = 9
  · refine lv_tableIn (tgt := 154) hx hb dX0_perform_26 (by rw [c_26_9]; decide) (by rw [c_26_9]; decide) (by rw [c_26_9]; rfl) (by decide) ?_
    refine lv_aload_n hx hb dX0_perform_154 rfl (lv_at hl 3 rfl) ?_
    refine gg0_get (v := .int (u.1 4)) hx hb hts hin hown hK G 4 (by decide) (index := 24) (by decide +kernel) rfl dX0_perform_155 ?_
    refine gx_calls (f := pd_asNumber (u.1 4)) (As := [.int (u.1 4)]) (rest := []) 1 hx hb hml hown hts (kd_asNumber l (u.1 4) ) gX0_perform_X0_asNumber rfl rfl rfl hd_X0_asNumber ⟨Nat.le_of_ble_eq_true rfl, Nat.le_of_ble_eq_true rfl⟩ rfl hl.1 rfl (Nat.le_of_ble_eq_true rfl) dX0_perform_158 (Nat.zero_le _) (Nat.zero_le _) ?_
    exact gx_iret (wf := gw0_ cI cZ h q) (u1 := u) hx hb hr hlocks hsz hK hAe G dX0_perform_161 (by unfold pd_perform; rw [if_neg c_26_0, if_neg c_26_1, if_neg c_26_2, if_neg c_26_3, if_neg c_26_4, if_neg c_26_5, if_neg c_26_6, if_neg c_26_7, if_neg c_26_8, if_pos c_26_9])
  by_cases c_26_10 : u.2 5 (ix p0) = 10
  · refine lv_tableIn (tgt := 162) hx hb dX0_perform_26 (by rw [c_26_10]; decide) (by rw [c_26_10]; decide) (by rw [c_26_10]; rfl) (by decide) ?_
    refine lv_aload_n hx hb dX0_perform_162 rfl (lv_at hl 3 rfl) ?_
    refine lv_iload_n hx hb dX0_perform_163 rfl (lv_at hl 2 rfl) ?_
    refine gx_calli (wf := gw0_ cI cZ h q) (u := u) (f := pd_sleep u (u.2 6 (ix p0))) (As := [.int (u.2 6 (ix p0))]) (rest := []) 1 hx hb hml hown hts hK hA G rfl rfl (kd_sleep l dC dI cI cZ h q _ u (u.2 6 (ix p0)) hfl) gX0_perform_X0_sleep rfl rfl rfl hd_X0_sleep ⟨Nat.le_of_ble_eq_true rfl, Nat.le_of_ble_eq_true rfl⟩ rfl hl.1 rfl (Nat.le_of_ble_eq_true rfl) dX0_perform_164 (Nat.zero_le _) (Nat.zero_le _) (fun H locs G => ?_)
    exact gx_iret (wf := gw0_ cI cZ h q) (u1 := (pd_sleep u (u.2 6 (ix p0))).2) hx hb hr hlocks hsz hK hAe G dX0_perform_167 (by unfold pd_perform; rw [if_neg c_26_0, if_neg c_26_1, if_neg c_26_2, if_neg c_26_3, if_neg c_26_4, if_neg c_26_5, if_neg c_26_6, if_neg c_26_7, if_neg c_26_8, if_neg c_26_9, if_pos c_26_10])
  by_cases c_26_11 : u.2 5 (ix p0) = 11
  · refine lv_tableIn (tgt := 168) hx hb dX0_perform_26 (by rw [c_26_11]; decide) (by rw [c_26_11]; decide) (by rw [c_26_11]; rfl) (by decide) ?_
    refine lv_aload_n hx hb dX0_perform_168 rfl (lv_at hl 3 rfl) ?_
    refine lv_bipush (v := 100) hx hb dX0_perform_169 (by decide) ?_
    refine lv_iload_n hx hb dX0_perform_171 rfl (lv_at hl 2 rfl) ?_
    refine lv_bipush (v := 100) hx hb dX0_perform_172 (by decide) ?_
    refine gx_calls (f := pj_floorMod_7cf53 (u.2 6 (ix p0)) 100) (As := [.int (u.2 6 (ix p0)), .int 100]) (rest := [.int 100, .ref h]) 2 hx hb hml hown hts (kj_floorMod_7cf53 l (u.2 6 (ix p0)) 100 (by decide)) gX0_perform_J9_floorMod_7cf53 rfl rfl rfl hd_J9_floorMod_7cf53 ⟨Nat.le_of_ble_eq_true rfl, Nat.le_of_ble_eq_true rfl⟩ rfl hl.1 rfl (Nat.le_of_ble_eq_true rfl) dX0_perform_174 (Nat.zero_le _) (Nat.zero_le _) ?_
    refine lv_iadd hx hb dX0_perform_177 ?_
    refine gx_calli (wf := gw0_ cI cZ h q) (u := u) (f := pd_raise u (100 + (pj_floorMod_7cf53 (u.2 6 (ix p0)) 100))) (As := [.int (100 + (pj_floorMod_7cf53 (u.2 6 (ix p0)) 100))]) (rest := []) 1 hx hb hml hown hts hK hA G rfl rfl (kd_raise l dC dI cI cZ h q _ u (100 + (pj_floorMod_7cf53 (u.2 6 (ix p0)) 100)) ) gX0_perform_X0_raise rfl rfl rfl hd_X0_raise ⟨Nat.le_of_ble_eq_true rfl, Nat.le_of_ble_eq_true rfl⟩ rfl hl.1 rfl (Nat.le_of_ble_eq_true rfl) dX0_perform_178 (Nat.zero_le _) (Nat.zero_le _) (fun H locs G => ?_)
    exact gx_iret (wf := gw0_ cI cZ h q) (u1 := (pd_raise u (100 + (pj_floorMod_7cf53 (u.2 6 (ix p0)) 100))).2) hx hb hr hlocks hsz hK hAe G dX0_perform_181 (by unfold pd_perform; rw [if_neg c_26_0, if_neg c_26_1, if_neg c_26_2, if_neg c_26_3, if_neg c_26_4, if_neg c_26_5, if_neg c_26_6, if_neg c_26_7, if_neg c_26_8, if_neg c_26_9, if_neg c_26_10, if_pos c_26_11])
  by_cases c_26_12 : u.2 5 (ix p0) = 12
  · refine lv_tableIn (tgt := 182) hx hb dX0_perform_26 (by rw [c_26_12]; decide) (by rw [c_26_12]; decide) (by rw [c_26_12]; rfl) (by decide) ?_
    refine lv_aload_n hx hb dX0_perform_182 rfl (lv_at hl 3 rfl) ?_
    refine lv_iload hx hb dX0_perform_183 (lv_at hl 0 rfl) ?_
    refine gx_calli (wf := gw0_ cI cZ h q) (u := u) (f := pd_start u (pj_floorMod_7cf53 (u.2 6 (ix p0)) 4)) (As := [.int (pj_floorMod_7cf53 (u.2 6 (ix p0)) 4)]) (rest := []) 1 hx hb hml hown hts hK hA G rfl rfl (kd_start l dC dI cI cZ h q _ u (pj_floorMod_7cf53 (u.2 6 (ix p0)) 4) (fm_in4 _)) gX0_perform_X0_start rfl rfl rfl hd_X0_start ⟨Nat.le_of_ble_eq_true rfl, Nat.le_of_ble_eq_true rfl⟩ rfl hl.1 rfl (Nat.le_of_ble_eq_true rfl) dX0_perform_185 (Nat.zero_le _) (Nat.zero_le _) (fun H locs G => ?_)
    exact gx_iret (wf := gw0_ cI cZ h q) (u1 := (pd_start u (pj_floorMod_7cf53 (u.2 6 (ix p0)) 4)).2) hx hb hr hlocks hsz hK hAe G dX0_perform_188 (by unfold pd_perform; rw [if_neg c_26_0, if_neg c_26_1, if_neg c_26_2, if_neg c_26_3, if_neg c_26_4, if_neg c_26_5, if_neg c_26_6, if_neg c_26_7, if_neg c_26_8, if_neg c_26_9, if_neg c_26_10, if_neg c_26_11, if_pos c_26_12])
  by_cases c_26_13 : u.2 5 (ix p0) = 13
  · refine lv_tableIn (tgt := 189) hx hb dX0_perform_26 (by rw [c_26_13]; decide) (by rw [c_26_13]; decide) (by rw [c_26_13]; rfl) (by decide) ?_
    refine lv_aload_n hx hb dX0_perform_189 rfl (lv_at hl 3 rfl) ?_
    refine gg0_get (v := .ref (q 2)) hx hb hts hin hown hK G 2 (by decide) (index := 17) (by decide +kernel) rfl dX0_perform_190 ?_
    refine lv_iload hx hb dX0_perform_193 (lv_at hl 0 rfl) ?_
    refine gg0_ld2 hx hb hK G (i := pj_floorMod_7cf53 (u.2 6 (ix p0)) 4) (fm_in4 _) dX0_perform_195 ?_
    refine gx_calls (f := pd_asNumber (u.2 2 (ix (pj_floorMod_7cf53 (u.2 6 (ix p0)) 4)))) (As := [.int (u.2 2 (ix (pj_floorMod_7cf53 (u.2 6 (ix p0)) 4)))]) (rest := []) 1 hx hb hml hown hts (kd_asNumber l (u.2 2 (ix (pj_floorMod_7cf53 (u.2 6 (ix p0)) 4))) ) gX0_perform_X0_asNumber rfl rfl rfl hd_X0_asNumber ⟨Nat.le_of_ble_eq_true rfl, Nat.le_of_ble_eq_true rfl⟩ rfl hl.1 rfl (Nat.le_of_ble_eq_true rfl) dX0_perform_196 (Nat.zero_le _) (Nat.zero_le _) ?_
    exact gx_iret (wf := gw0_ cI cZ h q) (u1 := u) hx hb hr hlocks hsz hK hAe G dX0_perform_199 (by unfold pd_perform; rw [if_neg c_26_0, if_neg c_26_1, if_neg c_26_2, if_neg c_26_3, if_neg c_26_4, if_neg c_26_5, if_neg c_26_6, if_neg c_26_7, if_neg c_26_8, if_neg c_26_9, if_neg c_26_10, if_neg c_26_11, if_neg c_26_12, if_pos c_26_13])
  by_cases c_26_14 : u.2 5 (ix p0) = 14
  · refine lv_tableIn (tgt := 189) hx hb dX0_perform_26 (by rw [c_26_14]; decide) (by rw [c_26_14]; decide) (by rw [c_26_14]; rfl) (by decide) ?_
    refine lv_aload_n hx hb dX0_perform_189 rfl (lv_at hl 3 rfl) ?_
    refine gg0_get (v := .ref (q 2)) hx hb hts hin hown hK G 2 (by decide) (index := 17) (by decide +kernel) rfl dX0_perform_190 ?_
    refine lv_iload hx hb dX0_perform_193 (lv_at hl 0 rfl) ?_
    refine gg0_ld2 hx hb hK G (i := pj_floorMod_7cf53 (u.2 6 (ix p0)) 4) (fm_in4 _) dX0_perform_195 ?_
    refine gx_calls (f := pd_asNumber (u.2 2 (ix (pj_floorMod_7cf53 (u.2 6 (ix p0)) 4)))) (As := [.int (u.2 2 (ix (pj_floorMod_7cf53 (u.2 6 (ix p0)) 4)))]) (rest := []) 1 hx hb hml hown hts (kd_asNumber l (u.2 2 (ix (pj_floorMod_7cf53 (u.2 6 (ix p0)) 4))) ) gX0_perform_X0_asNumber rfl rfl rfl hd_X0_asNumber ⟨Nat.le_of_ble_eq_true rfl, Nat.le_of_ble_eq_true rfl⟩ rfl hl.1 rfl (Nat.le_of_ble_eq_true rfl) dX0_perform_196 (Nat.zero_le _) (Nat.zero_le _) ?_
    exact gx_iret (wf := gw0_ cI cZ h q) (u1 := u) hx hb hr hlocks hsz hK hAe G dX0_perform_199 (by unfold pd_perform; rw [if_neg c_26_0, if_neg c_26_1, if_neg c_26_2, if_neg c_26_3, if_neg c_26_4, if_neg c_26_5, if_neg c_26_6, if_neg c_26_7, if_neg c_26_8, if_neg c_26_9, if_neg c_26_10, if_neg c_26_11, if_neg c_26_12, if_neg c_26_13, if_pos c_26_14])
  by_cases c_26_15 : u.2 5 (ix p0) = 15
  · refine lv_tableIn (tgt := 200) hx hb dX0_perform_26 (by rw [c_26_15]; decide) (by rw [c_26_15]; decide) (by rw [c_26_15]; rfl) (by decide) ?_
    refine lv_aload_n hx hb dX0_perform_200 rfl (lv_at hl 3 rfl) ?_
    refine lv_dup hx hb dX0_perform_201 rfl ?_
    refine gg0_get (v := .int (u.1 3)) hx hb hts hin hown hK G 3 (by decide) (index := 21) (by decide +kernel) rfl dX0_perform_202 ?_
    refine lv_iload_n hx hb dX0_perform_205 rfl (lv_at hl 2 rfl) ?_
    refine lv_iadd hx hb dX0_perform_206 ?_
    refine gg0_put3 (v := (u.1 3) + (u.2 6 (ix p0))) hx hb hts hin hown hK G (index := 21) (by decide +kernel) dX0_perform_207 (fun H locs G => ?_)
    refine lv_aload_n hx hb dX0_perform_210 rfl (lv_at hl 3 rfl) ?_
    refine gg0_get (v := .int ((u.1 3) + (u.2 6 (ix p0)))) hx hb hts hin hown hK G 3 (by decide) (index := 21) (by decide +kernel) rfl dX0_perform_211 ?_
    exact gx_iret (wf := gw0_ cI cZ h q) (u1 := st_si u 3 ((u.1 3) + (u.2 6 (ix p0)))) hx hb hr hlocks hsz hK hAe G dX0_perform_214 (by unfold pd_perform; rw [if_neg c_26_0, if_neg c_26_1, if_neg c_26_2, if_neg c_26_3, if_neg c_26_4, if_neg c_26_5, if_neg c_26_6, if_neg c_26_7, if_neg c_26_8, if_neg c_26_9, if_neg c_26_10, if_neg c_26_11, if_neg c_26_12, if_neg c_26_13, if_neg c_26_14, if_pos c_26_15])
  refine lv_tableOut (tgt := 215) hx hb dX0_perform_26 (by have z := (u.2 5 (ix p0)).toInt; have z0 := lv_neT c_26_0 (a := 0) (by decide); have z1 := lv_neT c_26_1 (a := 1) (by decide); have z2 := lv_neT c_26_2 (a := 2) (by decide); have z3 := lv_neT c_26_3 (a := 3) (by decide); have z4 := lv_neT c_26_4 (a := 4) (by decide); have z5 := lv_neT c_26_5 (a := 5) (by decide); have z6 := lv_neT c_26_6 (a := 6) (by decide); have z7 := lv_neT c_26_7 (a := 7) (by decide); have z8 := lv_neT c_26_8 (a := 8) (by decide); have z9 := lv_neT c_26_9 (a := 9) (by decide); have z10 := lv_neT c_26_10 (a := 10) (by decide); have z11 := lv_neT c_26_11 (a := 11) (by decide); have z12 := lv_neT c_26_12 (a := 12) (by decide); have z13 := lv_neT c_26_13 (a := 13) (by decide); have z14 := lv_neT c_26_14 (a := 14) (by decide); have z15 := lv_neT c_26_15 (a := 15) (by decide); omega) (by decide) ?_
  refine lv_iconst (v := 0) hx hb dX0_perform_215 (by decide) ?_
  exact gx_iret (wf := gw0_ cI cZ h q) (u1 := u) hx hb hr hlocks hsz hK hAe G dX0_perform_216 (by unfold pd_perform; rw [if_neg c_26_0, if_neg c_26_1, if_neg c_26_2, if_neg c_26_3, if_neg c_26_4, if_neg c_26_5, if_neg c_26_6, if_neg c_26_7, if_neg c_26_8, if_neg c_26_9, if_neg c_26_10, if_neg c_26_11, if_neg c_26_12, if_neg c_26_13, if_neg c_26_14, if_neg c_26_15])
theorem hd_X0_perform : yX0_perform.cls = RX0 ∧ yX0_perform.cls ≠ "java/lang/invoke/MethodHandle" ∧ yX0_perform.cls ≠ "java/lang/invoke/VarHandle" ∧ (parseMethodDescriptor yX0_perform.desc).map (fun d => d.parameters.length) = some 1 := by decide +kernel
def pd_lb : Nat → st_T → Int32 → Int32 → Int32 × st_T
  | 0, u, b, _ => (b, u)
  | n + 1, u, b, k => if k ≤ 0 then (b, u) else if pd_isEnter u b = 0 then (b, u) else pd_lb n (pd_giveBack u b).2 ((pd_giveBack u b).2.2 7 (ix b)) (k + (-1))
def pd_lt (u : st_T) (b : Int32) : st_T := if b = -1 then st_si (st_si u 13 (u.1 15)) 16 (u.1 9) else st_si (st_sa u 12 (ix b) (u.1 15)) 16 (u.2 8 (ix b) + 1)
def pd_leaveBlocks (u : st_T) (p0 : Int32) : st_T := pd_lt (pd_lb 9 u (u.2 7 (ix p0)) 8).2 (pd_lb 9 u (u.2 7 (ix p0)) 8).1
theorem pd_lb_s (n : Nat) (u : st_T) (b k : Int32) : pd_lb (n + 1) u b k = if k ≤ 0 then (b, u) else if pd_isEnter u b = 0 then (b, u) else pd_lb n (pd_giveBack u b).2 ((pd_giveBack u b).2.2 7 (ix b)) (k + (-1)) := rfl
theorem ie_in {u : st_T} {b : Int32} (h : b = -1 ∨ vp_in b 24) (h2 : ¬ pd_isEnter u b = 0) : vp_in b 24 := by
  rcases h with rfl | h
  · exact absurd (by unfold pd_isEnter; rw [if_pos rfl]) h2
  · exact h
set_option maxHeartbeats 4000000 in
set_option maxRecDepth 100000 in
theorem kd_leaveBlocks (l : Launch) (dC : Nat → ClassId) (dI : Nat → Nat → Nat) (cI cZ : ClassId) (h : Nat) (q : Nat → Nat) (sz : Nat) (u : st_T) (p0 : Int32) (hp0 : vp_in p0 24) (har : ∀ j : Nat, j < 24 → u.2 7 j = -1 ∨ vp_in (u.2 7 j) 24) : gx_Mv l yX0_leaveBlocks wsX0_leaveBlocks { frames := 2, cells := 0, slots := 0, locals := 44 } [.ref h, .int p0] (dC, dI) cI cZ (gw0_ cI cZ h q) u sz (pd_leaveBlocks u p0) := by
  refine gx_met (cc := cX0_leaveBlocks) (maxL := 4) (ret := none) (by decide +kernel) rfl (Nat.le_of_ble_eq_true rfl) (fun p e s m args below meth c A ls hsz hx hb hr hlocks hts hown hml hK hAe hA G hl => ?_)
  have hown : s.vm.findClass RX0 = some m.cls := hown
  have hin : ∀ w ∈ wsX00, w ∈ wsX0_leaveBlocks := gx_in
  have hl : lv_has ls 4 [(0, .ref h), (1, .int p0)] := hl
  have tail : ∀ (v : st_T) (b k : Int32), pd_lb 9 u (u.2 7 (ix p0)) 8 = (b, v) → (b = -1 ∨ vp_in b 24) → ∀ (H : Heap) (locs : List Loc) (ls : Array Slot), gx_ (dC, dI) A s.heap H locs (gw0_ cI cZ h q v) → lv_has ls 4 [(3, .int k), (2, .int b), (0, .ref h), (1, .int p0)] → W p l e { frames := 2, cells := 0, slots := 0, locals := 44 } s m args below meth c H locs 0 0 (MQ below (va_Qv (fun u1 => u1 = pd_leaveBlocks u p0) (gx_O (dC, dI) cI cZ (gw0_ cI cZ h q) (gw0_ cI cZ h q u) sz) (va_A (gw0_ cI cZ h q u) sz)) args s 0 0 (va_A (gw0_ cI cZ h q u) sz)) (F0 m 41 ls []) := by
    intro v b k hf hb2 H locs ls G hl
    have hf : (b, v) = pd_lb 9 u (u.2 7 (ix p0)) 8 := hf.symm
    refine lv_iload_n hx hb dX0_leaveBlocks_41 rfl (lv_at hl 1 rfl) ?_
    refine lv_iconst (v := (-1)) hx hb dX0_leaveBlocks_42 (by decide) ?_
    refine lv_icmp_ne (tgt := 65) hx hb dX0_leaveBlocks_43 (by decide) (fun c_43 => ?_) (fun c_43 => ?_)
    · refine lv_aload_n hx hb dX0_leaveBlocks_65 rfl (lv_at hl 2 rfl) ?_
      refine gg0_get (v := .ref (q 12)) hx hb hts hin hown hK G 12 (by decide) (index := 49) (by decide +kernel) rfl dX0_leaveBlocks_66 ?_
      refine lv_iload_n hx hb dX0_leaveBlocks_69 rfl (lv_at hl 1 rfl) ?_
      refine lv_aload_n hx hb dX0_leaveBlocks_70 rfl (lv_at hl 2 rfl) ?_
      refine gg0_get (v := .int (v.1 15)) hx hb hts hin hown hK G 15 (by decide) (index := 58) (by decide +kernel) rfl dX0_leaveBlocks_71 ?_
      refine gg0_st12 hx hb hK G (i := b) (x := v.1 15) (hb2.resolve_left c_43) dX0_leaveBlocks_74 (fun H locs G => ?_)
      refine lv_aload_n hx hb dX0_leaveBlocks_75 rfl (lv_at hl 2 rfl) ?_
      refine lv_aload_n hx hb dX0_leaveBlocks_76 rfl (lv_at hl 2 rfl) ?_
      refine gg0_get (v := .ref (q 8)) hx hb hts hin hown hK G 8 (by decide) (index := 37) (by decide +kernel) rfl dX0_leaveBlocks_77 ?_
      refine lv_iload_n hx hb dX0_leaveBlocks_80 rfl (lv_at hl 1 rfl) ?_
      refine gg0_ld8 hx hb hK G (i := b) (hb2.resolve_left c_43) dX0_leaveBlocks_81 ?_
      refine gx_is (y := v.2 8 (ix b)) (congrFun (st_sa_2 _ _ _ (by decide)) _) ?_
      refine lv_iconst (v := 1) hx hb dX0_leaveBlocks_82 (by decide) ?_
      refine lv_iadd hx hb dX0_leaveBlocks_83 ?_
      refine gg0_put16 (v := (v.2 8 (ix b)) + 1) hx hb hts hin hown hK G (index := 61) (by decide +kernel) dX0_leaveBlocks_84 (fun H locs G => ?_)
      exact gx_vret (wf := gw0_ cI cZ h q) (u1 := st_si (st_sa v 12 (ix b) (v.1 15)) 16 ((v.2 8 (ix b)) + 1)) hx hb hr hlocks hsz hK hAe G dX0_leaveBlocks_87 (by unfold pd_leaveBlocks; rw [← hf]; unfold pd_lt; rw [if_neg c_43])
    · refine lv_aload_n hx hb dX0_leaveBlocks_46 rfl (lv_at hl 2 rfl) ?_
      refine lv_aload_n hx hb dX0_leaveBlocks_47 rfl (lv_at hl 2 rfl) ?_
      refine gg0_get (v := .int (v.1 15)) hx hb hts hin hown hK G 15 (by decide) (index := 58) (by decide +kernel) rfl dX0_leaveBlocks_48 ?_
      refine gg0_put13 (v := v.1 15) hx hb hts hin hown hK G (index := 52) (by decide +kernel) dX0_leaveBlocks_51 (fun H locs G => ?_)
      refine lv_aload_n hx hb dX0_leaveBlocks_54 rfl (lv_at hl 2 rfl) ?_
      refine lv_aload_n hx hb dX0_leaveBlocks_55 rfl (lv_at hl 2 rfl) ?_
      refine gg0_get (v := .int (v.1 9)) hx hb hts hin hown hK G 9 (by decide) (index := 40) (by decide +kernel) rfl dX0_leaveBlocks_56 ?_
      refine gg0_put16 (v := v.1 9) hx hb hts hin hown hK G (index := 61) (by decide +kernel) dX0_leaveBlocks_59 (fun H locs G => ?_)
      refine lv_goto (tgt := 87) hx hb dX0_leaveBlocks_62 (by decide) ?_
      exact gx_vret (wf := gw0_ cI cZ h q) (u1 := st_si (st_si v 13 (v.1 15)) 16 (v.1 9)) hx hb hr hlocks hsz hK hAe G dX0_leaveBlocks_87 (by unfold pd_leaveBlocks; rw [← hf]; unfold pd_lt; rw [if_pos c_43])
  have loop : ∀ (n : Nat) (v : st_T) (b k : Int32), 0 ≤ k.toInt → k.toInt < 100 → k.toInt < n → pd_lb 9 u (u.2 7 (ix p0)) 8 = pd_lb n v b k → v.2 7 = u.2 7 → (b = -1 ∨ vp_in b 24) → ∀ (H : Heap) (locs : List Loc) (ls : Array Slot), gx_ (dC, dI) A s.heap H locs (gw0_ cI cZ h q v) → lv_has ls 4 [(3, .int k), (2, .int b), (0, .ref h), (1, .int p0)] → W p l e { frames := 2, cells := 0, slots := 0, locals := 44 } s m args below meth c H locs 0 0 (MQ below (va_Qv (fun u1 => u1 = pd_leaveBlocks u p0) (gx_O (dC, dI) cI cZ (gw0_ cI cZ h q) (gw0_ cI cZ h q u) sz) (va_A (gw0_ cI cZ h q u) sz)) args s 0 0 (va_A (gw0_ cI cZ h q u) sz)) (F0 m 10 ls []) := by
    intro n
    induction n with
    | zero => intro v b k h1 h1b h2; exact absurd h2 (by omega)
    | succ n ih =>
      intro v b k hk0 hk1 hkn hf hv7 hb1 H locs ls G hl
      rw [pd_lb_s n v b k] at hf
      refine lv_iload_n hx hb dX0_leaveBlocks_10 rfl (lv_at hl 0 rfl) ?_
      refine lv_if_le (tgt := 41) hx hb dX0_leaveBlocks_11 (by decide) (fun c_11 => ?_) (fun c_11 => ?_)
      · exact tail v b k (by rw [hf, if_pos c_11]) hb1 H locs ls G (lv_sub hl [0, 1, 2, 3] rfl)
      · refine lv_aload_n hx hb dX0_leaveBlocks_14 rfl (lv_at hl 2 rfl) ?_
        refine lv_iload_n hx hb dX0_leaveBlocks_15 rfl (lv_at hl 1 rfl) ?_
        refine gx_callr (wf := gw0_ cI cZ h q) (u := v) (f := pd_isEnter v b) (As := [.int b]) (rest := []) 1 hx hb hml hown hts hK hA G rfl rfl (kd_isEnter l dC dI cI cZ h q _ v b hb1) gX0_leaveBlocks_X0_isEnter rfl rfl rfl hd_X0_isEnter ⟨Nat.le_of_ble_eq_true rfl, Nat.le_of_ble_eq_true rfl⟩ rfl hl.1 rfl (Nat.le_of_ble_eq_true rfl) dX0_leaveBlocks_16 (Nat.zero_le _) (Nat.zero_le _) (fun H locs G => ?_)
        refine lv_if_eq (tgt := 41) hx hb dX0_leaveBlocks_19 (by decide) (fun c_19 => ?_) (fun c_19 => ?_)
        · exact tail v b k (by rw [hf, if_neg c_11, if_pos c_19]) hb1 H locs ls G (lv_sub hl [0, 1, 2, 3] rfl)
        · refine lv_aload_n hx hb dX0_leaveBlocks_22 rfl (lv_at hl 2 rfl) ?_
          refine lv_iload_n hx hb dX0_leaveBlocks_23 rfl (lv_at hl 1 rfl) ?_
          refine gx_calli (wf := gw0_ cI cZ h q) (u := v) (f := pd_giveBack v b) (As := [.int b]) (rest := []) 1 hx hb hml hown hts hK hA G rfl rfl (kd_giveBack l dC dI cI cZ h q _ v b (ie_in hb1 c_19)) gX0_leaveBlocks_X0_giveBack rfl rfl rfl hd_X0_giveBack ⟨Nat.le_of_ble_eq_true rfl, Nat.le_of_ble_eq_true rfl⟩ rfl hl.1 rfl (Nat.le_of_ble_eq_true rfl) dX0_leaveBlocks_24 (Nat.zero_le _) (Nat.zero_le _) (fun H locs G => ?_)
          refine lv_pop hx hb dX0_leaveBlocks_27 rfl ?_
          refine lv_aload_n hx hb dX0_leaveBlocks_28 rfl (lv_at hl 2 rfl) ?_
          refine gg0_get (v := .ref (q 7)) hx hb hts hin hown hK G 7 (by decide) (index := 34) (by decide +kernel) rfl dX0_leaveBlocks_29 ?_
          refine lv_iload_n hx hb dX0_leaveBlocks_32 rfl (lv_at hl 1 rfl) ?_
          refine gg0_ld7 hx hb hK G (i := b) (ie_in hb1 c_19) dX0_leaveBlocks_33 ?_
          refine lv_istore_n (lv' := [(2, .int (((pd_giveBack v b).2).2 7 (ix b))), (3, .int k), (0, .ref h), (1, .int p0)]) hx hb dX0_leaveBlocks_34 rfl hl (by decide) rfl (fun ls hl => ?_)
          refine lv_iinc (v := k + (-1)) (lv' := [(3, .int (k + (-1))), (2, .int (((pd_giveBack v b).2).2 7 (ix b))), (0, .ref h), (1, .int p0)]) hx hb dX0_leaveBlocks_35 hl (k := 1) rfl (congrArg (fun z => k + z) (by decide)) (by decide) rfl (fun ls hl => ?_)
          refine lv_goto (tgt := 10) hx hb dX0_leaveBlocks_38 (by decide) ?_
          have q4 := c_11
          rw [Int32.le_iff_toInt_le, Int32.toInt_zero] at q4
          have q5 : (k + (-1)).toInt = k.toInt - 1 := by
            rw [Jvm.Kit.i32_add (by simp; omega) (by simp; omega)]; simp; omega
          have hbi := ie_in hb1 c_19
          exact ih (pd_giveBack v b).2 ((pd_giveBack v b).2.2 7 (ix b)) (k + (-1)) (by omega) (by omega) (by omega) (by rw [hf, if_neg c_11, if_neg c_19]) hv7 (by show v.2 7 (ix b) = -1 ∨ vp_in (v.2 7 (ix b)) 24; rw [hv7]; exact har _ (by have z := vp_in_iff.mp hbi; show b.toInt.toNat < 24; omega)) H locs ls G (lv_sub hl [0, 1, 2, 3] rfl)
  refine lv_aload_n hx hb dX0_leaveBlocks_0 rfl (lv_at hl 0 rfl) ?_
  refine gg0_get (v := .ref (q 7)) hx hb hts hin hown hK G 7 (by decide) (index := 34) (by decide +kernel) rfl dX0_leaveBlocks_1 ?_
  refine lv_iload_n hx hb dX0_leaveBlocks_4 rfl (lv_at hl 1 rfl) ?_
  refine gg0_ld7 hx hb hK G (i := p0) hp0 dX0_leaveBlocks_5 ?_
  refine lv_istore_n (lv' := [(2, .int (u.2 7 (ix p0))), (0, .ref h), (1, .int p0)]) hx hb dX0_leaveBlocks_6 rfl hl (by decide) rfl (fun ls hl => ?_)
  refine lv_bipush (v := 8) hx hb dX0_leaveBlocks_7 (by decide) ?_
  refine lv_istore_n (lv' := [(3, .int 8), (2, .int (u.2 7 (ix p0))), (0, .ref h), (1, .int p0)]) hx hb dX0_leaveBlocks_9 rfl hl (by decide) rfl (fun ls hl => ?_)
  exact loop 9 u _ 8 (by decide) (by decide) (by decide) rfl rfl (har _ (by have z := vp_in_iff.mp hp0; show p0.toInt.toNat < 24; omega)) _ _ ls G hl
theorem hd_X0_leaveBlocks : yX0_leaveBlocks.cls = RX0 ∧ yX0_leaveBlocks.cls ≠ "java/lang/invoke/MethodHandle" ∧ yX0_leaveBlocks.cls ≠ "java/lang/invoke/VarHandle" ∧ (parseMethodDescriptor yX0_leaveBlocks.desc).map (fun d => d.parameters.length) = some 1 := by decide +kernel
def pd_doStep (u : st_T) (p0 : Int32) : st_T :=
  if ((pd_perform (st_si u 15 0) p0).2).1 15 = 0 then
    st_sa ((pd_perform (st_si u 15 0) p0).2) 12 (ix p0) ((pd_perform (st_si u 15 0) p0).1)
  else
    pd_leaveBlocks (st_sa ((pd_perform (st_si u 15 0) p0).2) 12 (ix p0) ((((pd_perform (st_si u 15 0) p0).2).1 15) + (-1000))) p0
set_option maxHeartbeats 4000000 in
set_option maxRecDepth 100000 in
theorem kd_doStep (l : Launch) (dC : Nat → ClassId) (dI : Nat → Nat → Nat) (cI cZ : ClassId) (h : Nat) (q : Nat → Nat) (sz : Nat) (u : st_T) (p0 : Int32) (hp0 : vp_in p0 24) (hfl : u.1 4 = 0 ∨ u.1 4 = 1) (har : u.2 7 (ix p0) = -1 ∨ vp_in (u.2 7 (ix p0)) 24) (har2 : ∀ j : Nat, j < 24 → (pd_perform (st_si u 15 0) p0).2.2 7 j = -1 ∨ vp_in ((pd_perform (st_si u 15 0) p0).2.2 7 j) 24) : gx_Mv l yX0_doStep wsX0_doStep { frames := 4, cells := 0, slots := 0, locals := 89 } [.ref h, .int p0] (dC, dI) cI cZ (gw0_ cI cZ h q) u sz (pd_doStep u p0) := by
  refine gx_met (cc := cX0_doStep) (maxL := 3) (ret := none) (by decide +kernel) rfl (Nat.le_of_ble_eq_true rfl) (fun p e s m args below meth c A ls hsz hx hb hr hlocks hts hown hml hK hAe hA G hl => ?_)
  have hown : s.vm.findClass RX0 = some m.cls := hown
  have hin : ∀ w ∈ wsX00, w ∈ wsX0_doStep := gx_in
  have hl : lv_has ls 3 [(0, .ref h), (1, .int p0)] := hl
  refine lv_aload_n hx hb dX0_doStep_0 rfl (lv_at hl 0 rfl) ?_
  refine lv_iconst (v := 0) hx hb dX0_doStep_1 (by decide) ?_
  refine gg0_put15 (v := 0) hx hb hts hin hown hK G (index := 58) (by decide +kernel) dX0_doStep_2 (fun H locs G => ?_)
  refine lv_aload_n hx hb dX0_doStep_5 rfl (lv_at hl 0 rfl) ?_
  refine lv_iload_n hx hb dX0_doStep_6 rfl (lv_at hl 1 rfl) ?_
  refine gx_calli (wf := gw0_ cI cZ h q) (u := st_si u 15 0) (f := pd_perform (st_si u 15 0) p0) (As := [.int p0]) (rest := []) 1 hx hb hml hown hts hK hA G rfl rfl (kd_perform l dC dI cI cZ h q _ (st_si u 15 0) p0 hp0 hfl har) gX0_doStep_X0_perform rfl rfl rfl hd_X0_perform ⟨Nat.le_of_ble_eq_true rfl, Nat.le_of_ble_eq_true rfl⟩ rfl hl.1 rfl (Nat.le_of_ble_eq_true rfl) dX0_doStep_7 (Nat.zero_le _) (Nat.zero_le _) (fun H locs G => ?_)
  refine lv_istore_n (lv' := [(2, .int ((pd_perform (st_si u 15 0) p0).1)), (0, .ref h), (1, .int p0)]) hx hb dX0_doStep_10 rfl hl (by decide) rfl (fun ls hl => ?_)
  refine lv_aload_n hx hb dX0_doStep_11 rfl (lv_at hl 1 rfl) ?_
  refine gg0_get (v := .int (((pd_perform (st_si u 15 0) p0).2).1 15)) hx hb hts hin hown hK G 15 (by decide) (index := 58) (by decide +kernel) rfl dX0_doStep_12 ?_
  refine lv_if_ne (tgt := 28) hx hb dX0_doStep_15 (by decide) (fun c_15 => ?_) (fun c_15 => ?_)
  · refine lv_aload_n hx hb dX0_doStep_28 rfl (lv_at hl 1 rfl) ?_
    refine gg0_get (v := .ref (q 12)) hx hb hts hin hown hK G 12 (by decide) (index := 49) (by decide +kernel) rfl dX0_doStep_29 ?_
    refine lv_iload_n hx hb dX0_doStep_32 rfl (lv_at hl 2 rfl) ?_
    refine lv_aload_n hx hb dX0_doStep_33 rfl (lv_at hl 1 rfl) ?_
    refine gg0_get (v := .int (((pd_perform (st_si u 15 0) p0).2).1 15)) hx hb hts hin hown hK G 15 (by decide) (index := 58) (by decide +kernel) rfl dX0_doStep_34 ?_
    refine lv_sipush (v := (-1000)) hx hb dX0_doStep_37 (by decide) ?_
    refine lv_iadd hx hb dX0_doStep_40 ?_
    refine gg0_st12 hx hb hK G (i := p0) (x := (((pd_perform (st_si u 15 0) p0).2).1 15) + (-1000)) hp0 dX0_doStep_41 (fun H locs G => ?_)
    refine lv_aload_n hx hb dX0_doStep_42 rfl (lv_at hl 1 rfl) ?_
    refine lv_iload_n hx hb dX0_doStep_43 rfl (lv_at hl 2 rfl) ?_
    refine gx_callv (wf := gw0_ cI cZ h q) (u := st_sa ((pd_perform (st_si u 15 0) p0).2) 12 (ix p0) ((((pd_perform (st_si u 15 0) p0).2).1 15) + (-1000))) (f := pd_leaveBlocks (st_sa ((pd_perform (st_si u 15 0) p0).2) 12 (ix p0) ((((pd_perform (st_si u 15 0) p0).2).1 15) + (-1000))) p0) (As := [.int p0]) (rest := []) 1 hx hb hml hown hts hK hA G rfl rfl (kd_leaveBlocks l dC dI cI cZ h q _ (st_sa ((pd_perform (st_si u 15 0) p0).2) 12 (ix p0) ((((pd_perform (st_si u 15 0) p0).2).1 15) + (-1000))) p0 hp0 har2) gX0_doStep_X0_leaveBlocks rfl rfl rfl hd_X0_leaveBlocks ⟨Nat.le_of_ble_eq_true rfl, Nat.le_of_ble_eq_true rfl⟩ rfl hl.1 rfl (Nat.le_of_ble_eq_true rfl) dX0_doStep_44 (Nat.zero_le _) (Nat.zero_le _) (fun H locs G => ?_)
    exact gx_vret (wf := gw0_ cI cZ h q) (u1 := pd_leaveBlocks (st_sa ((pd_perform (st_si u 15 0) p0).2) 12 (ix p0) ((((pd_perform (st_si u 15 0) p0).2).1 15) + (-1000))) p0) hx hb hr hlocks hsz hK hAe G dX0_doStep_47 (by unfold pd_doStep; rw [if_neg c_15])
  · refine lv_aload_n hx hb dX0_doStep_18 rfl (lv_at hl 1 rfl) ?_
    refine gg0_get (v := .ref (q 12)) hx hb hts hin hown hK G 12 (by decide) (index := 49) (by decide +kernel) rfl dX0_doStep_19 ?_
    refine lv_iload_n hx hb dX0_doStep_22 rfl (lv_at hl 2 rfl) ?_
    refine lv_iload_n hx hb dX0_doStep_23 rfl (lv_at hl 0 rfl) ?_
    refine gg0_st12 hx hb hK G (i := p0) (x := (pd_perform (st_si u 15 0) p0).1) hp0 dX0_doStep_24 (fun H locs G => ?_)
    refine lv_goto (tgt := 47) hx hb dX0_doStep_25 (by decide) ?_
    exact gx_vret (wf := gw0_ cI cZ h q) (u1 := st_sa ((pd_perform (st_si u 15 0) p0).2) 12 (ix p0) ((pd_perform (st_si u 15 0) p0).1)) hx hb hr hlocks hsz hK hAe G dX0_doStep_47 (by unfold pd_doStep; rw [if_pos c_15])
theorem hd_X0_doStep : yX0_doStep.cls = RX0 ∧ yX0_doStep.cls ≠ "java/lang/invoke/MethodHandle" ∧ yX0_doStep.cls ≠ "java/lang/invoke/VarHandle" ∧ (parseMethodDescriptor yX0_doStep.desc).map (fun d => d.parameters.length) = some 1 := by decide +kernel
