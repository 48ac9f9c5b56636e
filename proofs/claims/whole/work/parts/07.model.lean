/-! the reference: a pure function and a contract for each method -/
theorem pi_in {x M : Int32} {n : Nat} (hM : M.toInt = n) (h : ¬ pm_in x M = 0) : vp_in x n := by
  by_cases h1 : x < 0
  · exact absurd (by unfold pm_in; rw [if_pos h1]) h
  · by_cases h2 : M ≤ x
    · exact absurd (by unfold pm_in; rw [if_neg h1, if_pos h2]) h
    · exact in_1 hM h1 h2
theorem ix_lt {x : Int32} {n : Nat} (h : vp_in x n) : ix x < n := by
  have z := vp_in_iff.mp h
  show x.toInt.toNat < n
  omega
def pm_hold (u : st_T) (p0 p1 : Int32) : Int32 × st_T :=
  if pm_in p0 5 = 0 then
    ((-1), u)
  else
    if p1 < (-2) then
      ((-1), u)
    else
      if p1 ≤ 4 then
        if p1 = (-2) then
          (0, st_sa (st_si u 2 ((u.1 2) + 1)) 0 (ix p0) ((u.1 2) + 1))
        else
          if p1 = (-1) then
            (0, st_sa u 0 (ix p0) 0)
          else
            (0, st_sa u 0 (ix p0) (u.2 0 (ix p1)))
      else
        ((-1), u)
set_option maxHeartbeats 4000000 in
set_option maxRecDepth 100000 in
theorem km_hold (l : Launch) (dC : Nat → ClassId) (dI : Nat → Nat → Nat) (cI cZ : ClassId) (h : Nat) (q : Nat → Nat) (sz : Nat) (u : st_T) (p0 p1 : Int32) : gx_Mi l yX1_hold wsX1_hold { frames := 1, cells := 0, slots := 0, locals := 21 } [.ref h, .int p0, .int p1] (dC, dI) cI cZ (gw1_ cI cZ h q) u sz (pm_hold u p0 p1) := by
  refine gx_met (cc := cX1_hold) (maxL := 3) (ret := (some .int)) (by decide +kernel) rfl (Nat.le_of_ble_eq_true rfl) (fun p e s m args below meth c A ls hsz hx hb hr hlocks hts hown hml hK hAe hA G hl => ?_)
  have hown : s.vm.findClass RX1 = some m.cls := hown
  have hin : ∀ w ∈ wsX10, w ∈ wsX1_hold := gx_in
  have hl : lv_has ls 3 [(0, .ref h), (1, .int p0), (2, .int p1)] := hl
  refine lv_iload_n hx hb dX1_hold_0 rfl (lv_at hl 1 rfl) ?_
  refine lv_iconst (v := 5) hx hb dX1_hold_1 (by decide) ?_
  refine gx_calls (f := pm_in p0 5) (As := [.int p0, .int 5]) (rest := []) 2 hx hb hml hown hts (km_in l p0 5 ) gX1_hold_X1_in rfl rfl rfl hd_X1_in ⟨Nat.le_of_ble_eq_true rfl, Nat.le_of_ble_eq_true rfl⟩ rfl hl.1 rfl (Nat.le_of_ble_eq_true rfl) dX1_hold_2 (Nat.zero_le _) (Nat.zero_le _) ?_
  refine lv_if_eq (tgt := 19) hx hb dX1_hold_5 (by decide) (fun c_5 => ?_) (fun c_5 => ?_)
  · refine lv_iconst (v := (-1)) hx hb dX1_hold_19 (by decide) ?_
    exact gx_iret (wf := gw1_ cI cZ h q) (u1 := u) hx hb hr hlocks hsz hK hAe G dX1_hold_20 (by unfold pm_hold; rw [if_pos c_5])
  · refine lv_iload_n hx hb dX1_hold_8 rfl (lv_at hl 2 rfl) ?_
    refine lv_bipush (v := (-2)) hx hb dX1_hold_9 (by decide) ?_
    refine lv_icmp_lt (tgt := 19) hx hb dX1_hold_11 (by decide) (fun c_11 => ?_) (fun c_11 => ?_)
    · refine lv_iconst (v := (-1)) hx hb dX1_hold_19 (by decide) ?_
      exact gx_iret (wf := gw1_ cI cZ h q) (u1 := u) hx hb hr hlocks hsz hK hAe G dX1_hold_20 (by unfold pm_hold; rw [if_neg c_5, if_pos c_11])
    · refine lv_iload_n hx hb dX1_hold_14 rfl (lv_at hl 2 rfl) ?_
      refine lv_iconst (v := 4) hx hb dX1_hold_15 (by decide) ?_
      refine lv_icmp_le (tgt := 21) hx hb dX1_hold_16 (by decide) (fun c_16 => ?_) (fun c_16 => ?_)
      · refine lv_iload_n hx hb dX1_hold_21 rfl (lv_at hl 2 rfl) ?_
        refine lv_bipush (v := (-2)) hx hb dX1_hold_22 (by decide) ?_
        refine lv_icmp_ne (tgt := 50) hx hb dX1_hold_24 (by decide) (fun c_24 => ?_) (fun c_24 => ?_)
        · refine lv_aload_n hx hb dX1_hold_50 rfl (lv_at hl 0 rfl) ?_
          refine gg1_get (v := .ref (q 0)) hx hb hts hin hown hK G 0 (by decide) (index := 7) (by decide +kernel) rfl dX1_hold_51 ?_
          refine lv_iload_n hx hb dX1_hold_54 rfl (lv_at hl 1 rfl) ?_
          refine lv_iload_n hx hb dX1_hold_55 rfl (lv_at hl 2 rfl) ?_
          refine lv_iconst (v := (-1)) hx hb dX1_hold_56 (by decide) ?_
          refine lv_icmp_ne (tgt := 64) hx hb dX1_hold_57 (by decide) (fun c_57 => ?_) (fun c_57 => ?_)
          · refine lv_aload_n hx hb dX1_hold_64 rfl (lv_at hl 0 rfl) ?_
            refine gg1_get (v := .ref (q 0)) hx hb hts hin hown hK G 0 (by decide) (index := 7) (by decide +kernel) rfl dX1_hold_65 ?_
            refine lv_iload_n hx hb dX1_hold_68 rfl (lv_at hl 2 rfl) ?_
            refine gg1_ld0 hx hb hK G (i := p1) (in_4 c_11 c_16 c_24 c_57) dX1_hold_69 ?_
            refine gg1_st0 hx hb hK G (i := p0) (x := u.2 0 (ix p1)) (pi_in (M := 5) (by decide) c_5) dX1_hold_70 (fun H locs G => ?_)
            refine lv_iconst (v := 0) hx hb dX1_hold_71 (by decide) ?_
            exact gx_iret (wf := gw1_ cI cZ h q) (u1 := st_sa u 0 (ix p0) (u.2 0 (ix p1))) hx hb hr hlocks hsz hK hAe G dX1_hold_72 (by unfold pm_hold; rw [if_neg c_5, if_neg c_11, if_pos c_16, if_neg c_24, if_neg c_57])
          · refine lv_iconst (v := 0) hx hb dX1_hold_60 (by decide) ?_
            refine lv_goto (tgt := 70) hx hb dX1_hold_61 (by decide) ?_
            refine gg1_st0 hx hb hK G (i := p0) (x := 0) (pi_in (M := 5) (by decide) c_5) dX1_hold_70 (fun H locs G => ?_)
            refine lv_iconst (v := 0) hx hb dX1_hold_71 (by decide) ?_
            exact gx_iret (wf := gw1_ cI cZ h q) (u1 := st_sa u 0 (ix p0) 0) hx hb hr hlocks hsz hK hAe G dX1_hold_72 (by unfold pm_hold; rw [if_neg c_5, if_neg c_11, if_pos c_16, if_neg c_24, if_pos c_57])
        · refine lv_aload_n hx hb dX1_hold_27 rfl (lv_at hl 0 rfl) ?_
          refine lv_dup hx hb dX1_hold_28 rfl ?_
          refine gg1_get (v := .int (u.1 2)) hx hb hts hin hown hK G 2 (by decide) (index := 36) (by decide +kernel) rfl dX1_hold_29 ?_
          refine lv_iconst (v := 1) hx hb dX1_hold_32 (by decide) ?_
          refine lv_iadd hx hb dX1_hold_33 ?_
          refine gg1_put2 (v := (u.1 2) + 1) hx hb hts hin hown hK G (index := 36) (by decide +kernel) dX1_hold_34 (fun H locs G => ?_)
          refine lv_aload_n hx hb dX1_hold_37 rfl (lv_at hl 0 rfl) ?_
          refine gg1_get (v := .ref (q 0)) hx hb hts hin hown hK G 0 (by decide) (index := 7) (by decide +kernel) rfl dX1_hold_38 ?_
          refine lv_iload_n hx hb dX1_hold_41 rfl (lv_at hl 1 rfl) ?_
          refine lv_aload_n hx hb dX1_hold_42 rfl (lv_at hl 0 rfl) ?_
          refine gg1_get (v := .int ((u.1 2) + 1)) hx hb hts hin hown hK G 2 (by decide) (index := 36) (by decide +kernel) rfl dX1_hold_43 ?_
          refine gg1_st0 hx hb hK G (i := p0) (x := (u.1 2) + 1) (pi_in (M := 5) (by decide) c_5) dX1_hold_46 (fun H locs G => ?_)
          refine lv_goto (tgt := 71) hx hb dX1_hold_47 (by decide) ?_
          refine lv_iconst (v := 0) hx hb dX1_hold_71 (by decide) ?_
          exact gx_iret (wf := gw1_ cI cZ h q) (u1 := st_sa (st_si u 2 ((u.1 2) + 1)) 0 (ix p0) ((u.1 2) + 1)) hx hb hr hlocks hsz hK hAe G dX1_hold_72 (by unfold pm_hold; rw [if_neg c_5, if_neg c_11, if_pos c_16, if_pos c_24])
      · refine lv_iconst (v := (-1)) hx hb dX1_hold_19 (by decide) ?_
        exact gx_iret (wf := gw1_ cI cZ h q) (u1 := u) hx hb hr hlocks hsz hK hAe G dX1_hold_20 (by unfold pm_hold; rw [if_neg c_5, if_neg c_11, if_neg c_16])
theorem hd_X1_hold : yX1_hold.cls = RX1 ∧ yX1_hold.cls ≠ "java/lang/invoke/MethodHandle" ∧ yX1_hold.cls ≠ "java/lang/invoke/VarHandle" ∧ (parseMethodDescriptor yX1_hold.desc).map (fun d => d.parameters.length) = some 2 := by decide +kernel
def pm_step (u : st_T) (p0 p1 : Int32) : Int32 × st_T :=
  if pm_in p0 16 = 0 then
    ((-1), u)
  else
    if u.1 8 = 24 then
      ((-1), u)
    else
      if p0 = 1 then
        if u.1 9 = 8 then
          ((-1), u)
        else
          ((u.1 8) + 1, st_si (st_si (st_sa (st_sa u 6 (ix (u.1 8)) p0) 7 (ix (u.1 8)) p1) 8 ((u.1 8) + 1)) 9 ((u.1 9) + 1))
      else
        if p0 = 2 then
          if u.1 9 = 8 then
            ((-1), u)
          else
            ((u.1 8) + 1, st_si (st_si (st_sa (st_sa u 6 (ix (u.1 8)) p0) 7 (ix (u.1 8)) p1) 8 ((u.1 8) + 1)) 9 ((u.1 9) + 1))
        else
          if p0 = 0 then
            if u.1 9 = 0 then
              ((-1), u)
            else
              ((u.1 8) + 1, st_si (st_si (st_sa (st_sa u 6 (ix (u.1 8)) p0) 7 (ix (u.1 8)) p1) 8 ((u.1 8) + 1)) 9 ((u.1 9) - 1))
          else
            ((u.1 8) + 1, st_si (st_sa (st_sa u 6 (ix (u.1 8)) p0) 7 (ix (u.1 8)) p1) 8 ((u.1 8) + 1))
set_option maxHeartbeats 4000000 in
set_option maxRecDepth 100000 in
theorem km_step (l : Launch) (dC : Nat → ClassId) (dI : Nat → Nat → Nat) (cI cZ : ClassId) (h : Nat) (q : Nat → Nat) (sz : Nat) (u : st_T) (p0 p1 : Int32) (hs : u.1 8 = 24 ∨ vp_in (u.1 8) 24) : gx_Mi l yX1_step wsX1_step { frames := 1, cells := 0, slots := 0, locals := 21 } [.ref h, .int p0, .int p1] (dC, dI) cI cZ (gw1_ cI cZ h q) u sz (pm_step u p0 p1) := by
  refine gx_met (cc := cX1_step) (maxL := 4) (ret := (some .int)) (by decide +kernel) rfl (Nat.le_of_ble_eq_true rfl) (fun p e s m args below meth c A ls hsz hx hb hr hlocks hts hown hml hK hAe hA G hl => ?_)
  have hown : s.vm.findClass RX1 = some m.cls := hown
  have hin : ∀ w ∈ wsX10, w ∈ wsX1_step := gx_in
  have hl : lv_has ls 4 [(0, .ref h), (1, .int p0), (2, .int p1)] := hl
  refine lv_iload_n hx hb dX1_step_0 rfl (lv_at hl 1 rfl) ?_
  refine lv_bipush (v := 16) hx hb dX1_step_1 (by decide) ?_
  refine gx_calls (f := pm_in p0 16) (As := [.int p0, .int 16]) (rest := []) 2 hx hb hml hown hts (km_in l p0 16 ) gX1_step_X1_in rfl rfl rfl hd_X1_in ⟨Nat.le_of_ble_eq_true rfl, Nat.le_of_ble_eq_true rfl⟩ rfl hl.1 rfl (Nat.le_of_ble_eq_true rfl) dX1_step_3 (Nat.zero_le _) (Nat.zero_le _) ?_
  refine lv_if_eq (tgt := 18) hx hb dX1_step_6 (by decide) (fun c_6 => ?_) (fun c_6 => ?_)
  · refine lv_iconst (v := (-1)) hx hb dX1_step_18 (by decide) ?_
    exact gx_iret (wf := gw1_ cI cZ h q) (u1 := u) hx hb hr hlocks hsz hK hAe G dX1_step_19 (by unfold pm_step; rw [if_pos c_6])
  · refine lv_aload_n hx hb dX1_step_9 rfl (lv_at hl 0 rfl) ?_
    refine gg1_get (v := .int (u.1 8)) hx hb hts hin hown hK G 8 (by decide) (index := 40) (by decide +kernel) rfl dX1_step_10 ?_
    refine lv_bipush (v := 24) hx hb dX1_step_13 (by decide) ?_
    refine lv_icmp_ne (tgt := 20) hx hb dX1_step_15 (by decide) (fun c_15 => ?_) (fun c_15 => ?_)
    · refine lv_iload_n hx hb dX1_step_20 rfl (lv_at hl 1 rfl) ?_
      refine lv_iconst (v := 1) hx hb dX1_step_21 (by decide) ?_
      refine lv_icmp_eq (tgt := 30) hx hb dX1_step_22 (by decide) (fun c_22 => ?_) (fun c_22 => ?_)
      · refine lv_iconst (v := 1) hx hb dX1_step_30 (by decide) ?_
        refine lv_goto (tgt := 35) hx hb dX1_step_31 (by decide) ?_
        refine lv_istore_n (lv' := [(3, .int 1), (0, .ref h), (1, .int p0), (2, .int p1)]) hx hb dX1_step_35 rfl hl (by decide) rfl (fun ls hl => ?_)
        refine lv_iload_n hx hb dX1_step_36 rfl (lv_at hl 2 rfl) ?_
        refine lv_if_ne (tgt := 47) hx hb dX1_step_37 (by decide) (fun _ => ?_) (fun z => absurd z (by rw [c_22]; decide))
        refine lv_iload_n hx hb dX1_step_47 rfl (lv_at hl 0 rfl) ?_
        refine lv_if_eq (tgt := 62) hx hb dX1_step_48 (by decide) (fun z => absurd z (by decide)) (fun _ => ?_)
        refine lv_aload_n hx hb dX1_step_51 rfl (lv_at hl 1 rfl) ?_
        refine gg1_get (v := .int (u.1 9)) hx hb hts hin hown hK G 9 (by decide) (index := 43) (by decide +kernel) rfl dX1_step_52 ?_
        refine lv_bipush (v := 8) hx hb dX1_step_55 (by decide) ?_
        refine lv_icmp_ne (tgt := 62) hx hb dX1_step_57 (by decide) (fun c_57 => ?_) (fun c_57 => ?_)
        · refine lv_aload_n hx hb dX1_step_62 rfl (lv_at hl 1 rfl) ?_
          refine gg1_get (v := .ref (q 6)) hx hb hts hin hown hK G 6 (by decide) (index := 20) (by decide +kernel) rfl dX1_step_63 ?_
          refine lv_aload_n hx hb dX1_step_66 rfl (lv_at hl 1 rfl) ?_
          refine gg1_get (v := .int (u.1 8)) hx hb hts hin hown hK G 8 (by decide) (index := 40) (by decide +kernel) rfl dX1_step_67 ?_
          refine lv_iload_n hx hb dX1_step_70 rfl (lv_at hl 2 rfl) ?_
          refine gg1_st6 hx hb hK G (i := u.1 8) (x := p0) (hs.resolve_left c_15) dX1_step_71 (fun H locs G => ?_)
          refine lv_aload_n hx hb dX1_step_72 rfl (lv_at hl 1 rfl) ?_
          refine gg1_get (v := .ref (q 7)) hx hb hts hin hown hK G 7 (by decide) (index := 23) (by decide +kernel) rfl dX1_step_73 ?_
          refine lv_aload_n hx hb dX1_step_76 rfl (lv_at hl 1 rfl) ?_
          refine gg1_get (v := .int (u.1 8)) hx hb hts hin hown hK G 8 (by decide) (index := 40) (by decide +kernel) rfl dX1_step_77 ?_
          refine lv_iload_n hx hb dX1_step_80 rfl (lv_at hl 3 rfl) ?_
          refine gg1_st7 hx hb hK G (i := u.1 8) (x := p1) (hs.resolve_left c_15) dX1_step_81 (fun H locs G => ?_)
          refine lv_aload_n hx hb dX1_step_82 rfl (lv_at hl 1 rfl) ?_
          refine lv_dup hx hb dX1_step_83 rfl ?_
          refine gg1_get (v := .int (u.1 8)) hx hb hts hin hown hK G 8 (by decide) (index := 40) (by decide +kernel) rfl dX1_step_84 ?_
          refine lv_iconst (v := 1) hx hb dX1_step_87 (by decide) ?_
          refine lv_iadd hx hb dX1_step_88 ?_
          refine gg1_put8 (v := (u.1 8) + 1) hx hb hts hin hown hK G (index := 40) (by decide +kernel) dX1_step_89 (fun H locs G => ?_)
          refine lv_iload_n hx hb dX1_step_92 rfl (lv_at hl 0 rfl) ?_
          refine lv_if_eq (tgt := 106) hx hb dX1_step_93 (by decide) (fun z => absurd z (by decide)) (fun _ => ?_)
          refine lv_aload_n hx hb dX1_step_96 rfl (lv_at hl 1 rfl) ?_
          refine lv_dup hx hb dX1_step_97 rfl ?_
          refine gg1_get (v := .int (u.1 9)) hx hb hts hin hown hK G 9 (by decide) (index := 43) (by decide +kernel) rfl dX1_step_98 ?_
          refine lv_iconst (v := 1) hx hb dX1_step_101 (by decide) ?_
          refine lv_iadd hx hb dX1_step_102 ?_
          refine gg1_put9 (v := (u.1 9) + 1) hx hb hts hin hown hK G (index := 43) (by decide +kernel) dX1_step_103 (fun H locs G => ?_)
          refine lv_iload_n hx hb dX1_step_106 rfl (lv_at hl 2 rfl) ?_
          refine lv_if_ne (tgt := 120) hx hb dX1_step_107 (by decide) (fun _ => ?_) (fun z => absurd z (by rw [c_22]; decide))
          refine lv_aload_n hx hb dX1_step_120 rfl (lv_at hl 1 rfl) ?_
          refine gg1_get (v := .int ((u.1 8) + 1)) hx hb hts hin hown hK G 8 (by decide) (index := 40) (by decide +kernel) rfl dX1_step_121 ?_
          exact gx_iret (wf := gw1_ cI cZ h q) (u1 := st_si (st_si (st_sa (st_sa u 6 (ix (u.1 8)) p0) 7 (ix (u.1 8)) p1) 8 ((u.1 8) + 1)) 9 ((u.1 9) + 1)) hx hb hr hlocks hsz hK hAe G dX1_step_124 (by unfold pm_step; rw [if_neg c_6, if_neg c_15, if_pos c_22, if_neg c_57])
        · refine lv_iconst (v := (-1)) hx hb dX1_step_60 (by decide) ?_
          exact gx_iret (wf := gw1_ cI cZ h q) (u1 := u) hx hb hr hlocks hsz hK hAe G dX1_step_61 (by unfold pm_step; rw [if_neg c_6, if_neg c_15, if_pos c_22, if_pos c_57])
      · refine lv_iload_n hx hb dX1_step_25 rfl (lv_at hl 1 rfl) ?_
        refine lv_iconst (v := 2) hx hb dX1_step_26 (by decide) ?_
        refine lv_icmp_ne (tgt := 34) hx hb dX1_step_27 (by decide) (fun c_27 => ?_) (fun c_27 => ?_)
        · refine lv_iconst (v := 0) hx hb dX1_step_34 (by decide) ?_
          refine lv_istore_n (lv' := [(3, .int 0), (0, .ref h), (1, .int p0), (2, .int p1)]) hx hb dX1_step_35 rfl hl (by decide) rfl (fun ls hl => ?_)
          refine lv_iload_n hx hb dX1_step_36 rfl (lv_at hl 2 rfl) ?_
          refine lv_if_ne (tgt := 47) hx hb dX1_step_37 (by decide) (fun c_37 => ?_) (fun c_37 => ?_)
          · refine lv_iload_n hx hb dX1_step_47 rfl (lv_at hl 0 rfl) ?_
            refine lv_if_eq (tgt := 62) hx hb dX1_step_48 (by decide) (fun _ => ?_) (fun z => absurd (by decide) z)
            refine lv_aload_n hx hb dX1_step_62 rfl (lv_at hl 1 rfl) ?_
            refine gg1_get (v := .ref (q 6)) hx hb hts hin hown hK G 6 (by decide) (index := 20) (by decide +kernel) rfl dX1_step_63 ?_
            refine lv_aload_n hx hb dX1_step_66 rfl (lv_at hl 1 rfl) ?_
            refine gg1_get (v := .int (u.1 8)) hx hb hts hin hown hK G 8 (by decide) (index := 40) (by decide +kernel) rfl dX1_step_67 ?_
            refine lv_iload_n hx hb dX1_step_70 rfl (lv_at hl 2 rfl) ?_
            refine gg1_st6 hx hb hK G (i := u.1 8) (x := p0) (hs.resolve_left c_15) dX1_step_71 (fun H locs G => ?_)
            refine lv_aload_n hx hb dX1_step_72 rfl (lv_at hl 1 rfl) ?_
            refine gg1_get (v := .ref (q 7)) hx hb hts hin hown hK G 7 (by decide) (index := 23) (by decide +kernel) rfl dX1_step_73 ?_
            refine lv_aload_n hx hb dX1_step_76 rfl (lv_at hl 1 rfl) ?_
            refine gg1_get (v := .int (u.1 8)) hx hb hts hin hown hK G 8 (by decide) (index := 40) (by decide +kernel) rfl dX1_step_77 ?_
            refine lv_iload_n hx hb dX1_step_80 rfl (lv_at hl 3 rfl) ?_
            refine gg1_st7 hx hb hK G (i := u.1 8) (x := p1) (hs.resolve_left c_15) dX1_step_81 (fun H locs G => ?_)
            refine lv_aload_n hx hb dX1_step_82 rfl (lv_at hl 1 rfl) ?_
            refine lv_dup hx hb dX1_step_83 rfl ?_
            refine gg1_get (v := .int (u.1 8)) hx hb hts hin hown hK G 8 (by decide) (index := 40) (by decide +kernel) rfl dX1_step_84 ?_
            refine lv_iconst (v := 1) hx hb dX1_step_87 (by decide) ?_
            refine lv_iadd hx hb dX1_step_88 ?_
            refine gg1_put8 (v := (u.1 8) + 1) hx hb hts hin hown hK G (index := 40) (by decide +kernel) dX1_step_89 (fun H locs G => ?_)
            refine lv_iload_n hx hb dX1_step_92 rfl (lv_at hl 0 rfl) ?_
            refine lv_if_eq (tgt := 106) hx hb dX1_step_93 (by decide) (fun _ => ?_) (fun z => absurd (by decide) z)
            refine lv_iload_n hx hb dX1_step_106 rfl (lv_at hl 2 rfl) ?_
            refine lv_if_ne (tgt := 120) hx hb dX1_step_107 (by decide) (fun _ => ?_) (fun z => absurd z c_37)
            refine lv_aload_n hx hb dX1_step_120 rfl (lv_at hl 1 rfl) ?_
            refine gg1_get (v := .int ((u.1 8) + 1)) hx hb hts hin hown hK G 8 (by decide) (index := 40) (by decide +kernel) rfl dX1_step_121 ?_
            exact gx_iret (wf := gw1_ cI cZ h q) (u1 := st_si (st_sa (st_sa u 6 (ix (u.1 8)) p0) 7 (ix (u.1 8)) p1) 8 ((u.1 8) + 1)) hx hb hr hlocks hsz hK hAe G dX1_step_124 (by unfold pm_step; rw [if_neg c_6, if_neg c_15, if_neg c_22, if_neg c_27, if_neg c_37])
          · refine lv_aload_n hx hb dX1_step_40 rfl (lv_at hl 1 rfl) ?_
            refine gg1_get (v := .int (u.1 9)) hx hb hts hin hown hK G 9 (by decide) (index := 43) (by decide +kernel) rfl dX1_step_41 ?_
            refine lv_if_eq (tgt := 60) hx hb dX1_step_44 (by decide) (fun c_44 => ?_) (fun c_44 => ?_)
            · refine lv_iconst (v := (-1)) hx hb dX1_step_60 (by decide) ?_
              exact gx_iret (wf := gw1_ cI cZ h q) (u1 := u) hx hb hr hlocks hsz hK hAe G dX1_step_61 (by unfold pm_step; rw [if_neg c_6, if_neg c_15, if_neg c_22, if_neg c_27, if_pos c_37, if_pos c_44])
            · refine lv_iload_n hx hb dX1_step_47 rfl (lv_at hl 0 rfl) ?_
              refine lv_if_eq (tgt := 62) hx hb dX1_step_48 (by decide) (fun _ => ?_) (fun z => absurd (by decide) z)
              refine lv_aload_n hx hb dX1_step_62 rfl (lv_at hl 1 rfl) ?_
              refine gg1_get (v := .ref (q 6)) hx hb hts hin hown hK G 6 (by decide) (index := 20) (by decide +kernel) rfl dX1_step_63 ?_
              refine lv_aload_n hx hb dX1_step_66 rfl (lv_at hl 1 rfl) ?_
              refine gg1_get (v := .int (u.1 8)) hx hb hts hin hown hK G 8 (by decide) (index := 40) (by decide +kernel) rfl dX1_step_67 ?_
              refine lv_iload_n hx hb dX1_step_70 rfl (lv_at hl 2 rfl) ?_
              refine gg1_st6 hx hb hK G (i := u.1 8) (x := p0) (hs.resolve_left c_15) dX1_step_71 (fun H locs G => ?_)
              refine lv_aload_n hx hb dX1_step_72 rfl (lv_at hl 1 rfl) ?_
              refine gg1_get (v := .ref (q 7)) hx hb hts hin hown hK G 7 (by decide) (index := 23) (by decide +kernel) rfl dX1_step_73 ?_
              refine lv_aload_n hx hb dX1_step_76 rfl (lv_at hl 1 rfl) ?_
              refine gg1_get (v := .int (u.1 8)) hx hb hts hin hown hK G 8 (by decide) (index := 40) (by decide +kernel) rfl dX1_step_77 ?_
              refine lv_iload_n hx hb dX1_step_80 rfl (lv_at hl 3 rfl) ?_
              refine gg1_st7 hx hb hK G (i := u.1 8) (x := p1) (hs.resolve_left c_15) dX1_step_81 (fun H locs G => ?_)
              refine lv_aload_n hx hb dX1_step_82 rfl (lv_at hl 1 rfl) ?_
              refine lv_dup hx hb dX1_step_83 rfl ?_
              refine gg1_get (v := .int (u.1 8)) hx hb hts hin hown hK G 8 (by decide) (index := 40) (by decide +kernel) rfl dX1_step_84 ?_
              refine lv_iconst (v := 1) hx hb dX1_step_87 (by decide) ?_
              refine lv_iadd hx hb dX1_step_88 ?_
              refine gg1_put8 (v := (u.1 8) + 1) hx hb hts hin hown hK G (index := 40) (by decide +kernel) dX1_step_89 (fun H locs G => ?_)
              refine lv_iload_n hx hb dX1_step_92 rfl (lv_at hl 0 rfl) ?_
              refine lv_if_eq (tgt := 106) hx hb dX1_step_93 (by decide) (fun _ => ?_) (fun z => absurd (by decide) z)
              refine lv_iload_n hx hb dX1_step_106 rfl (lv_at hl 2 rfl) ?_
              refine lv_if_ne (tgt := 120) hx hb dX1_step_107 (by decide) (fun z => absurd c_37 z) (fun _ => ?_)
              refine lv_aload_n hx hb dX1_step_110 rfl (lv_at hl 1 rfl) ?_
              refine lv_dup hx hb dX1_step_111 rfl ?_
              refine gg1_get (v := .int (u.1 9)) hx hb hts hin hown hK G 9 (by decide) (index := 43) (by decide +kernel) rfl dX1_step_112 ?_
              refine lv_iconst (v := 1) hx hb dX1_step_115 (by decide) ?_
              refine lv_isub hx hb dX1_step_116 ?_
              refine gg1_put9 (v := (u.1 9) - 1) hx hb hts hin hown hK G (index := 43) (by decide +kernel) dX1_step_117 (fun H locs G => ?_)
              refine lv_aload_n hx hb dX1_step_120 rfl (lv_at hl 1 rfl) ?_
              refine gg1_get (v := .int ((u.1 8) + 1)) hx hb hts hin hown hK G 8 (by decide) (index := 40) (by decide +kernel) rfl dX1_step_121 ?_
              exact gx_iret (wf := gw1_ cI cZ h q) (u1 := st_si (st_si (st_sa (st_sa u 6 (ix (u.1 8)) p0) 7 (ix (u.1 8)) p1) 8 ((u.1 8) + 1)) 9 ((u.1 9) - 1)) hx hb hr hlocks hsz hK hAe G dX1_step_124 (by unfold pm_step; rw [if_neg c_6, if_neg c_15, if_neg c_22, if_neg c_27, if_pos c_37, if_neg c_44])
        · refine lv_iconst (v := 1) hx hb dX1_step_30 (by decide) ?_
          refine lv_goto (tgt := 35) hx hb dX1_step_31 (by decide) ?_
          refine lv_istore_n (lv' := [(3, .int 1), (0, .ref h), (1, .int p0), (2, .int p1)]) hx hb dX1_step_35 rfl hl (by decide) rfl (fun ls hl => ?_)
          refine lv_iload_n hx hb dX1_step_36 rfl (lv_at hl 2 rfl) ?_
          refine lv_if_ne (tgt := 47) hx hb dX1_step_37 (by decide) (fun _ => ?_) (fun z => absurd z (by rw [c_27]; decide))
          refine lv_iload_n hx hb dX1_step_47 rfl (lv_at hl 0 rfl) ?_
          refine lv_if_eq (tgt := 62) hx hb dX1_step_48 (by decide) (fun z => absurd z (by decide)) (fun _ => ?_)
          refine lv_aload_n hx hb dX1_step_51 rfl (lv_at hl 1 rfl) ?_
          refine gg1_get (v := .int (u.1 9)) hx hb hts hin hown hK G 9 (by decide) (index := 43) (by decide +kernel) rfl dX1_step_52 ?_
          refine lv_bipush (v := 8) hx hb dX1_step_55 (by decide) ?_
          refine lv_icmp_ne (tgt := 62) hx hb dX1_step_57 (by decide) (fun c_57 => ?_) (fun c_57 => ?_)
          · refine lv_aload_n hx hb dX1_step_62 rfl (lv_at hl 1 rfl) ?_
            refine gg1_get (v := .ref (q 6)) hx hb hts hin hown hK G 6 (by decide) (index := 20) (by decide +kernel) rfl dX1_step_63 ?_
            refine lv_aload_n hx hb dX1_step_66 rfl (lv_at hl 1 rfl) ?_
            refine gg1_get (v := .int (u.1 8)) hx hb hts hin hown hK G 8 (by decide) (index := 40) (by decide +kernel) rfl dX1_step_67 ?_
            refine lv_iload_n hx hb dX1_step_70 rfl (lv_at hl 2 rfl) ?_
            refine gg1_st6 hx hb hK G (i := u.1 8) (x := p0) (hs.resolve_left c_15) dX1_step_71 (fun H locs G => ?_)
            refine lv_aload_n hx hb dX1_step_72 rfl (lv_at hl 1 rfl) ?_
            refine gg1_get (v := .ref (q 7)) hx hb hts hin hown hK G 7 (by decide) (index := 23) (by decide +kernel) rfl dX1_step_73 ?_
            refine lv_aload_n hx hb dX1_step_76 rfl (lv_at hl 1 rfl) ?_
            refine gg1_get (v := .int (u.1 8)) hx hb hts hin hown hK G 8 (by decide) (index := 40) (by decide +kernel) rfl dX1_step_77 ?_
            refine lv_iload_n hx hb dX1_step_80 rfl (lv_at hl 3 rfl) ?_
            refine gg1_st7 hx hb hK G (i := u.1 8) (x := p1) (hs.resolve_left c_15) dX1_step_81 (fun H locs G => ?_)
            refine lv_aload_n hx hb dX1_step_82 rfl (lv_at hl 1 rfl) ?_
            refine lv_dup hx hb dX1_step_83 rfl ?_
            refine gg1_get (v := .int (u.1 8)) hx hb hts hin hown hK G 8 (by decide) (index := 40) (by decide +kernel) rfl dX1_step_84 ?_
            refine lv_iconst (v := 1) hx hb dX1_step_87 (by decide) ?_
            refine lv_iadd hx hb dX1_step_88 ?_
            refine gg1_put8 (v := (u.1 8) + 1) hx hb hts hin hown hK G (index := 40) (by decide +kernel) dX1_step_89 (fun H locs G => ?_)
            refine lv_iload_n hx hb dX1_step_92 rfl (lv_at hl 0 rfl) ?_
            refine lv_if_eq (tgt := 106) hx hb dX1_step_93 (by decide) (fun z => absurd z (by decide)) (fun _ => ?_)
            refine lv_aload_n hx hb dX1_step_96 rfl (lv_at hl 1 rfl) ?_
            refine lv_dup hx hb dX1_step_97 rfl ?_
            refine gg1_get (v := .int (u.1 9)) hx hb hts hin hown hK G 9 (by decide) (index := 43) (by decide +kernel) rfl dX1_step_98 ?_
            refine lv_iconst (v := 1) hx hb dX1_step_101 (by decide) ?_
            refine lv_iadd hx hb dX1_step_102 ?_
            refine gg1_put9 (v := (u.1 9) + 1) hx hb hts hin hown hK G (index := 43) (by decide +kernel) dX1_step_103 (fun H locs G => ?_)
            refine lv_iload_n hx hb dX1_step_106 rfl (lv_at hl 2 rfl) ?_
            refine lv_if_ne (tgt := 120) hx hb dX1_step_107 (by decide) (fun _ => ?_) (fun z => absurd z (by rw [c_27]; decide))
            refine lv_aload_n hx hb dX1_step_120 rfl (lv_at hl 1 rfl) ?_
            refine gg1_get (v := .int ((u.1 8) + 1)) hx hb hts hin hown hK G 8 (by decide) (index := 40) (by decide +kernel) rfl dX1_step_121 ?_
            exact gx_iret (wf := gw1_ cI cZ h q) (u1 := st_si (st_si (st_sa (st_sa u 6 (ix (u.1 8)) p0) 7 (ix (u.1 8)) p1) 8 ((u.1 8) + 1)) 9 ((u.1 9) + 1)) hx hb hr hlocks hsz hK hAe G dX1_step_124 (by unfold pm_step; rw [if_neg c_6, if_neg c_15, if_neg c_22, if_pos c_27, if_neg c_57])
          · refine lv_iconst (v := (-1)) hx hb dX1_step_60 (by decide) ?_
            exact gx_iret (wf := gw1_ cI cZ h q) (u1 := u) hx hb hr hlocks hsz hK hAe G dX1_step_61 (by unfold pm_step; rw [if_neg c_6, if_neg c_15, if_neg c_22, if_pos c_27, if_pos c_57])
    · refine lv_iconst (v := (-1)) hx hb dX1_step_18 (by decide) ?_
      exact gx_iret (wf := gw1_ cI cZ h q) (u1 := u) hx hb hr hlocks hsz hK hAe G dX1_step_19 (by unfold pm_step; rw [if_neg c_6, if_pos c_15])
theorem hd_X1_step : yX1_step.cls = RX1 ∧ yX1_step.cls ≠ "java/lang/invoke/MethodHandle" ∧ yX1_step.cls ≠ "java/lang/invoke/VarHandle" ∧ (parseMethodDescriptor yX1_step.desc).map (fun d => d.parameters.length) = some 2 := by decide +kernel
def pm_clear (u : st_T) : Int32 × st_T :=
  (u.1 8, st_si (st_si u 8 0) 9 0)
set_option maxHeartbeats 4000000 in
set_option maxRecDepth 100000 in
theorem km_clear (l : Launch) (dC : Nat → ClassId) (dI : Nat → Nat → Nat) (cI cZ : ClassId) (h : Nat) (q : Nat → Nat) (sz : Nat) (u : st_T) : gx_Mi l yX1_clear wsX1_clear { frames := 0, cells := 0, slots := 0, locals := 0 } [.ref h] (dC, dI) cI cZ (gw1_ cI cZ h q) u sz (pm_clear u) := by
  refine gx_met (cc := cX1_clear) (maxL := 2) (ret := (some .int)) (by decide +kernel) rfl (Nat.le_of_ble_eq_true rfl) (fun p e s m args below meth c A ls hsz hx hb hr hlocks hts hown hml hK hAe hA G hl => ?_)
  have hown : s.vm.findClass RX1 = some m.cls := hown
  have hin : ∀ w ∈ wsX10, w ∈ wsX1_clear := gx_in
  have hl : lv_has ls 2 [(0, .ref h)] := hl
  refine lv_aload_n hx hb dX1_clear_0 rfl (lv_at hl 0 rfl) ?_
  refine gg1_get (v := .int (u.1 8)) hx hb hts hin hown hK G 8 (by decide) (index := 40) (by decide +kernel) rfl dX1_clear_1 ?_
  refine lv_istore_n (lv' := [(1, .int (u.1 8)), (0, .ref h)]) hx hb dX1_clear_4 rfl hl (by decide) rfl (fun ls hl => ?_)
  refine lv_aload_n hx hb dX1_clear_5 rfl (lv_at hl 1 rfl) ?_
  refine lv_iconst (v := 0) hx hb dX1_clear_6 (by decide) ?_
  refine gg1_put8 (v := 0) hx hb hts hin hown hK G (index := 40) (by decide +kernel) dX1_clear_7 (fun H locs G => ?_)
  refine lv_aload_n hx hb dX1_clear_10 rfl (lv_at hl 1 rfl) ?_
  refine lv_iconst (v := 0) hx hb dX1_clear_11 (by decide) ?_
  refine gg1_put9 (v := 0) hx hb hts hin hown hK G (index := 43) (by decide +kernel) dX1_clear_12 (fun H locs G => ?_)
  refine lv_iload_n hx hb dX1_clear_15 rfl (lv_at hl 0 rfl) ?_
  exact gx_iret (wf := gw1_ cI cZ h q) (u1 := st_si (st_si u 8 0) 9 0) hx hb hr hlocks hsz hK hAe G dX1_clear_16 (by unfold pm_clear; rfl)
theorem hd_X1_clear : yX1_clear.cls = RX1 ∧ yX1_clear.cls ≠ "java/lang/invoke/MethodHandle" ∧ yX1_clear.cls ≠ "java/lang/invoke/VarHandle" ∧ (parseMethodDescriptor yX1_clear.desc).map (fun d => d.parameters.length) = some 0 := by decide +kernel
def pm_lockOf (u : st_T) (p0 : Int32) : Int32 :=
  u.2 0 (ix (pm_modulo (u.2 7 (ix p0)) 5))
set_option maxHeartbeats 4000000 in
set_option maxRecDepth 100000 in
theorem km_lockOf (l : Launch) (dC : Nat → ClassId) (dI : Nat → Nat → Nat) (cI cZ : ClassId) (h : Nat) (q : Nat → Nat) (sz : Nat) (u : st_T) (p0 : Int32) (hst : vp_in p0 24) : gx_Mi l yX1_lockOf wsX1_lockOf { frames := 1, cells := 0, slots := 0, locals := 21 } [.ref h, .int p0] (dC, dI) cI cZ (gw1_ cI cZ h q) u sz (pm_lockOf u p0, u) := by
  refine gx_met (cc := cX1_lockOf) (maxL := 2) (ret := (some .int)) (by decide +kernel) rfl (Nat.le_of_ble_eq_true rfl) (fun p e s m args below meth c A ls hsz hx hb hr hlocks hts hown hml hK hAe hA G hl => ?_)
  have hown : s.vm.findClass RX1 = some m.cls := hown
  have hin : ∀ w ∈ wsX10, w ∈ wsX1_lockOf := gx_in
  have hl : lv_has ls 2 [(0, .ref h), (1, .int p0)] := hl
  refine lv_aload_n hx hb dX1_lockOf_0 rfl (lv_at hl 0 rfl) ?_
  refine gg1_get (v := .ref (q 0)) hx hb hts hin hown hK G 0 (by decide) (index := 7) (by decide +kernel) rfl dX1_lockOf_1 ?_
  refine lv_aload_n hx hb dX1_lockOf_4 rfl (lv_at hl 0 rfl) ?_
  refine gg1_get (v := .ref (q 7)) hx hb hts hin hown hK G 7 (by decide) (index := 23) (by decide +kernel) rfl dX1_lockOf_5 ?_
  refine lv_iload_n hx hb dX1_lockOf_8 rfl (lv_at hl 1 rfl) ?_
  refine gg1_ld7 hx hb hK G (i := p0) hst dX1_lockOf_9 ?_
  refine lv_iconst (v := 5) hx hb dX1_lockOf_10 (by decide) ?_
  refine gx_calls (f := pm_modulo (u.2 7 (ix p0)) 5) (As := [.int (u.2 7 (ix p0)), .int 5]) (rest := [.ref (q 0)]) 2 hx hb hml hown hts (km_modulo l (u.2 7 (ix p0)) 5 (by decide)) gX1_lockOf_X1_modulo rfl rfl rfl hd_X1_modulo ⟨Nat.le_of_ble_eq_true rfl, Nat.le_of_ble_eq_true rfl⟩ rfl hl.1 rfl (Nat.le_of_ble_eq_true rfl) dX1_lockOf_11 (Nat.zero_le _) (Nat.zero_le _) ?_
  refine gg1_ld0 hx hb hK G (i := pm_modulo (u.2 7 (ix p0)) 5) (mo_in5 _) dX1_lockOf_14 ?_
  exact gx_iret (wf := gw1_ cI cZ h q) (u1 := u) hx hb hr hlocks hsz hK hAe G dX1_lockOf_15 (congrArg (fun z => (z, u)) (by unfold pm_lockOf; rfl))
theorem hd_X1_lockOf : yX1_lockOf.cls = RX1 ∧ yX1_lockOf.cls ≠ "java/lang/invoke/MethodHandle" ∧ yX1_lockOf.cls ≠ "java/lang/invoke/VarHandle" ∧ (parseMethodDescriptor yX1_lockOf.desc).map (fun d => d.parameters.length) = some 1 := by decide +kernel
theorem lo_in {u : st_T} {b : Int32} (hlk : ∀ j : Nat, j < 5 → vp_in (u.2 0 j) 520) : vp_in (pm_lockOf u b) 520 := hlk _ (ix_lt (mo_in5 _))
def pm_monitor (u : st_T) (p0 p1 : Int32) : Int32 × st_T :=
  if pm_lockOf u p0 = 0 then
    (pm_lockOf u p0, st_si u 14 1)
  else
    if p1 = 0 then
      if u.2 1 (ix (pm_lockOf u p0)) = 0 then
        (pm_lockOf u p0, st_si u 14 2)
      else
        (pm_lockOf u p0, u)
    else
      (pm_lockOf u p0, u)
set_option maxHeartbeats 4000000 in
set_option maxRecDepth 100000 in
theorem km_monitor (l : Launch) (dC : Nat → ClassId) (dI : Nat → Nat → Nat) (cI cZ : ClassId) (h : Nat) (q : Nat → Nat) (sz : Nat) (u : st_T) (p0 p1 : Int32) (hst : vp_in p0 24) (hlk : ∀ j : Nat, j < 5 → vp_in (u.2 0 j) 520) : gx_Mi l yX1_monitor wsX1_monitor { frames := 2, cells := 0, slots := 0, locals := 42 } [.ref h, .int p0, .int p1] (dC, dI) cI cZ (gw1_ cI cZ h q) u sz (pm_monitor u p0 p1) := by
  refine gx_met (cc := cX1_monitor) (maxL := 4) (ret := (some .int)) (by decide +kernel) rfl (Nat.le_of_ble_eq_true rfl) (fun p e s m args below meth c A ls hsz hx hb hr hlocks hts hown hml hK hAe hA G hl => ?_)
  have hown : s.vm.findClass RX1 = some m.cls := hown
  have hin : ∀ w ∈ wsX10, w ∈ wsX1_monitor := gx_in
  have hl : lv_has ls 4 [(0, .ref h), (1, .int p0), (2, .int p1)] := hl
  refine lv_aload_n hx hb dX1_monitor_0 rfl (lv_at hl 0 rfl) ?_
  refine lv_iload_n hx hb dX1_monitor_1 rfl (lv_at hl 1 rfl) ?_
  refine gx_callr (wf := gw1_ cI cZ h q) (u := u) (f := pm_lockOf u p0) (As := [.int p0]) (rest := []) 1 hx hb hml hown hts hK hA G rfl rfl (km_lockOf l dC dI cI cZ h q _ u p0 hst) gX1_monitor_X1_lockOf rfl rfl rfl hd_X1_lockOf ⟨Nat.le_of_ble_eq_true rfl, Nat.le_of_ble_eq_true rfl⟩ rfl hl.1 rfl (Nat.le_of_ble_eq_true rfl) dX1_monitor_2 (Nat.zero_le _) (Nat.zero_le _) (fun H locs G => ?_)
  refine lv_istore_n (lv' := [(3, .int (pm_lockOf u p0)), (0, .ref h), (1, .int p0), (2, .int p1)]) hx hb dX1_monitor_5 rfl hl (by decide) rfl (fun ls hl => ?_)
  refine lv_iload_n hx hb dX1_monitor_6 rfl (lv_at hl 0 rfl) ?_
  refine lv_if_ne (tgt := 18) hx hb dX1_monitor_7 (by decide) (fun c_7 => ?_) (fun c_7 => ?_)
  · refine lv_iload_n hx hb dX1_monitor_18 rfl (lv_at hl 3 rfl) ?_
    refine lv_if_ne (tgt := 36) hx hb dX1_monitor_19 (by decide) (fun c_19 => ?_) (fun c_19 => ?_)
    · refine lv_iload_n hx hb dX1_monitor_36 rfl (lv_at hl 0 rfl) ?_
      exact gx_iret (wf := gw1_ cI cZ h q) (u1 := u) hx hb hr hlocks hsz hK hAe G dX1_monitor_37 (by unfold pm_monitor; rw [if_neg c_7, if_neg c_19])
    · refine lv_aload_n hx hb dX1_monitor_22 rfl (lv_at hl 1 rfl) ?_
      refine gg1_get (v := .ref (q 1)) hx hb hts hin hown hK G 1 (by decide) (index := 13) (by decide +kernel) rfl dX1_monitor_23 ?_
      refine lv_iload_n hx hb dX1_monitor_26 rfl (lv_at hl 0 rfl) ?_
      refine gg1_ld1 hx hb hK G (i := pm_lockOf u p0) (lo_in hlk) dX1_monitor_27 ?_
      refine lv_if_ne (tgt := 36) hx hb dX1_monitor_28 (by decide) (fun c_28 => ?_) (fun c_28 => ?_)
      · refine lv_iload_n hx hb dX1_monitor_36 rfl (lv_at hl 0 rfl) ?_
        exact gx_iret (wf := gw1_ cI cZ h q) (u1 := u) hx hb hr hlocks hsz hK hAe G dX1_monitor_37 (by unfold pm_monitor; rw [if_neg c_7, if_pos c_19, if_neg c_28])
      · refine lv_aload_n hx hb dX1_monitor_31 rfl (lv_at hl 1 rfl) ?_
        refine lv_iconst (v := 2) hx hb dX1_monitor_32 (by decide) ?_
        refine gg1_put14 (v := 2) hx hb hts hin hown hK G (index := 54) (by decide +kernel) dX1_monitor_33 (fun H locs G => ?_)
        refine lv_iload_n hx hb dX1_monitor_36 rfl (lv_at hl 0 rfl) ?_
        exact gx_iret (wf := gw1_ cI cZ h q) (u1 := st_si u 14 2) hx hb hr hlocks hsz hK hAe G dX1_monitor_37 (by unfold pm_monitor; rw [if_neg c_7, if_pos c_19, if_pos c_28])
  · refine lv_aload_n hx hb dX1_monitor_10 rfl (lv_at hl 1 rfl) ?_
    refine lv_iconst (v := 1) hx hb dX1_monitor_11 (by decide) ?_
    refine gg1_put14 (v := 1) hx hb hts hin hown hK G (index := 54) (by decide +kernel) dX1_monitor_12 (fun H locs G => ?_)
    refine lv_goto (tgt := 36) hx hb dX1_monitor_15 (by decide) ?_
    refine lv_iload_n hx hb dX1_monitor_36 rfl (lv_at hl 0 rfl) ?_
    exact gx_iret (wf := gw1_ cI cZ h q) (u1 := st_si u 14 1) hx hb hr hlocks hsz hK hAe G dX1_monitor_37 (by unfold pm_monitor; rw [if_pos c_7])
theorem hd_X1_monitor : yX1_monitor.cls = RX1 ∧ yX1_monitor.cls ≠ "java/lang/invoke/MethodHandle" ∧ yX1_monitor.cls ≠ "java/lang/invoke/VarHandle" ∧ (parseMethodDescriptor yX1_monitor.desc).map (fun d => d.parameters.length) = some 2 := by decide +kernel
theorem mn_1 (u : st_T) (a b : Int32) : (pm_monitor u a b).1 = pm_lockOf u a := by
  unfold pm_monitor
  split
  · rfl
  · split
    · split
      · rfl
      · rfl
    · rfl
theorem mn_13 (u : st_T) (a b : Int32) : (pm_monitor u a b).2.1 13 = u.1 13 := by
  unfold pm_monitor
  split
  · rfl
  · split
    · split
      · rfl
      · rfl
    · rfl
theorem mn_in {u : st_T} {a b : Int32} (hlk : ∀ j : Nat, j < 5 → vp_in (u.2 0 j) 520) : vp_in (pm_monitor u a b).1 520 := by
  rw [mn_1]
  exact lo_in hlk
def pm_interrupted (u : st_T) : st_T :=
  if u.1 5 = 0 then
    st_si u 5 0
  else
    st_si (st_si u 14 4) 5 0
set_option maxHeartbeats 4000000 in
set_option maxRecDepth 100000 in
theorem km_interrupted (l : Launch) (dC : Nat → ClassId) (dI : Nat → Nat → Nat) (cI cZ : ClassId) (h : Nat) (q : Nat → Nat) (sz : Nat) (u : st_T) : gx_Mv l yX1_interrupted wsX1_interrupted { frames := 0, cells := 0, slots := 0, locals := 0 } [.ref h] (dC, dI) cI cZ (gw1_ cI cZ h q) u sz (pm_interrupted u) := by
  refine gx_met (cc := cX1_interrupted) (maxL := 1) (ret := none) (by decide +kernel) rfl (Nat.le_of_ble_eq_true rfl) (fun p e s m args below meth c A ls hsz hx hb hr hlocks hts hown hml hK hAe hA G hl => ?_)
  have hown : s.vm.findClass RX1 = some m.cls := hown
  have hin : ∀ w ∈ wsX10, w ∈ wsX1_interrupted := gx_in
  have hl : lv_has ls 1 [(0, .ref h)] := hl
  refine lv_aload_n hx hb dX1_interrupted_0 rfl (lv_at hl 0 rfl) ?_
  refine gg1_get (v := .int (u.1 5)) hx hb hts hin hown hK G 5 (by decide) (index := 61) (by decide +kernel) rfl dX1_interrupted_1 ?_
  refine lv_if_eq (tgt := 12) hx hb dX1_interrupted_4 (by decide) (fun c_4 => ?_) (fun c_4 => ?_)
  · refine lv_aload_n hx hb dX1_interrupted_12 rfl (lv_at hl 0 rfl) ?_
    refine lv_iconst (v := 0) hx hb dX1_interrupted_13 (by decide) ?_
    refine gg1_put5 (v := 0) hx hb hts hin hown hK G (index := 61) (by decide +kernel) rfl rfl dX1_interrupted_14 (fun H locs G => ?_)
    exact gx_vret (wf := gw1_ cI cZ h q) (u1 := st_si u 5 0) hx hb hr hlocks hsz hK hAe G dX1_interrupted_17 (by unfold pm_interrupted; rw [if_pos c_4])
  · refine lv_aload_n hx hb dX1_interrupted_7 rfl (lv_at hl 0 rfl) ?_
    refine lv_iconst (v := 4) hx hb dX1_interrupted_8 (by decide) ?_
    refine gg1_put14 (v := 4) hx hb hts hin hown hK G (index := 54) (by decide +kernel) dX1_interrupted_9 (fun H locs G => ?_)
    refine lv_aload_n hx hb dX1_interrupted_12 rfl (lv_at hl 0 rfl) ?_
    refine lv_iconst (v := 0) hx hb dX1_interrupted_13 (by decide) ?_
    refine gg1_put5 (v := 0) hx hb hts hin hown hK G (index := 61) (by decide +kernel) rfl rfl dX1_interrupted_14 (fun H locs G => ?_)
    exact gx_vret (wf := gw1_ cI cZ h q) (u1 := st_si (st_si u 14 4) 5 0) hx hb hr hlocks hsz hK hAe G dX1_interrupted_17 (by unfold pm_interrupted; rw [if_neg c_4])
theorem hd_X1_interrupted : yX1_interrupted.cls = RX1 ∧ yX1_interrupted.cls ≠ "java/lang/invoke/MethodHandle" ∧ yX1_interrupted.cls ≠ "java/lang/invoke/VarHandle" ∧ (parseMethodDescriptor yX1_interrupted.desc).map (fun d => d.parameters.length) = some 0 := by decide +kernel
theorem it_2 (u : st_T) : (pm_interrupted u).2 = u.2 := by
  unfold pm_interrupted
  split <;> rfl
def pm_pause (u : st_T) (p0 : Int32) : Int32 × st_T :=
  if u.2 7 (ix p0) = (-2147483648) then
    if u.2 0 (ix (0 - 0 / 5 * 5)) = 0 then
      ((-2), st_si u 14 1)
    else
      ((-2), st_si u 14 3)
  else
    if 0 ≤ u.2 7 (ix p0) then
      if u.2 0 (ix ((u.2 7 (ix p0)) - (u.2 7 (ix p0)) / 5 * 5)) = 0 then
        ((-2), st_si u 14 1)
      else
        if u.2 1 (ix (u.2 0 (ix ((u.2 7 (ix p0)) - (u.2 7 (ix p0)) / 5 * 5)))) = 0 then
          ((-2), st_si u 14 2)
        else
          ((-2), pm_interrupted u)
    else
      if u.2 0 (ix ((-(u.2 7 (ix p0))) - (-(u.2 7 (ix p0))) / 5 * 5)) = 0 then
        ((-2), st_si u 14 1)
      else
        ((-2), st_si u 14 3)
set_option maxHeartbeats 4000000 in
set_option maxRecDepth 100000 in
theorem km_pause (l : Launch) (dC : Nat → ClassId) (dI : Nat → Nat → Nat) (cI cZ : ClassId) (h : Nat) (q : Nat → Nat) (sz : Nat) (u : st_T) (p0 : Int32) (hst : vp_in p0 24) (hlk : ∀ j : Nat, j < 5 → vp_in (u.2 0 j) 520) : gx_Mi l yX1_pause wsX1_pause { frames := 1, cells := 0, slots := 0, locals := 20 } [.ref h, .int p0] (dC, dI) cI cZ (gw1_ cI cZ h q) u sz (pm_pause u p0) := by
  refine gx_met (cc := cX1_pause) (maxL := 5) (ret := (some .int)) (by decide +kernel) rfl (Nat.le_of_ble_eq_true rfl) (fun p e s m args below meth c A ls hsz hx hb hr hlocks hts hown hml hK hAe hA G hl => ?_)
  have hown : s.vm.findClass RX1 = some m.cls := hown
  have hin : ∀ w ∈ wsX10, w ∈ wsX1_pause := gx_in
  have hl : lv_has ls 5 [(0, .ref h), (1, .int p0)] := hl
  refine lv_aload_n hx hb dX1_pause_0 rfl (lv_at hl 0 rfl) ?_
  refine gg1_get (v := .ref (q 7)) hx hb hts hin hown hK G 7 (by decide) (index := 23) (by decide +kernel) rfl dX1_pause_1 ?_
  refine lv_iload_n hx hb dX1_pause_4 rfl (lv_at hl 1 rfl) ?_
  refine gg1_ld7 hx hb hK G (i := p0) hst dX1_pause_5 ?_
  refine lv_istore_n (lv' := [(2, .int (u.2 7 (ix p0))), (0, .ref h), (1, .int p0)]) hx hb dX1_pause_6 rfl hl (by decide) rfl (fun ls hl => ?_)
  refine lv_iload_n hx hb dX1_pause_7 rfl (lv_at hl 0 rfl) ?_
  refine lv_ldc (v := (-2147483648)) hx hb hown (hts (.constant RX1 57 (-2147483648)) (by decide +kernel)) dX1_pause_8 ?_
  refine lv_icmp_ne (tgt := 17) hx hb dX1_pause_10 (by decide) (fun c_10 => ?_) (fun c_10 => ?_)
  · refine lv_iload_n hx hb dX1_pause_17 rfl (lv_at hl 0 rfl) ?_
    refine lv_if_ge (tgt := 26) hx hb dX1_pause_18 (by decide) (fun c_18 => ?_) (fun c_18 => ?_)
    · refine lv_iload_n hx hb dX1_pause_26 rfl (lv_at hl 0 rfl) ?_
      refine lv_istore_n (lv' := [(3, .int (u.2 7 (ix p0))), (2, .int (u.2 7 (ix p0))), (0, .ref h), (1, .int p0)]) hx hb dX1_pause_27 rfl hl (by decide) rfl (fun ls hl => ?_)
      refine lv_aload_n hx hb dX1_pause_28 rfl (lv_at hl 2 rfl) ?_
      refine gg1_get (v := .ref (q 0)) hx hb hts hin hown hK G 0 (by decide) (index := 7) (by decide +kernel) rfl dX1_pause_29 ?_
      refine lv_iload_n hx hb dX1_pause_32 rfl (lv_at hl 0 rfl) ?_
      refine lv_iconst (v := 5) hx hb dX1_pause_33 (by decide) ?_
      refine lv_irem hx hb dX1_pause_34 (by decide) ?_
      refine gg1_ld0 hx hb hK G (i := (u.2 7 (ix p0)) - (u.2 7 (ix p0)) / 5 * 5) (wt_p c_18) dX1_pause_35 ?_
      refine lv_istore (lv' := [(4, .int (u.2 0 (ix ((u.2 7 (ix p0)) - (u.2 7 (ix p0)) / 5 * 5)))), (3, .int (u.2 7 (ix p0))), (2, .int (u.2 7 (ix p0))), (0, .ref h), (1, .int p0)]) hx hb dX1_pause_36 hl (by decide) rfl (fun ls hl => ?_)
      refine lv_iload hx hb dX1_pause_38 (lv_at hl 0 rfl) ?_
      refine lv_if_ne (tgt := 51) hx hb dX1_pause_40 (by decide) (fun c_40 => ?_) (fun c_40 => ?_)
      · refine lv_iload_n hx hb dX1_pause_51 rfl (lv_at hl 2 rfl) ?_
        refine lv_if_ge (tgt := 63) hx hb dX1_pause_52 (by decide) (fun _ => ?_) (fun z => absurd c_18 z)
        refine lv_aload_n hx hb dX1_pause_63 rfl (lv_at hl 3 rfl) ?_
        refine gg1_get (v := .ref (q 1)) hx hb hts hin hown hK G 1 (by decide) (index := 13) (by decide +kernel) rfl dX1_pause_64 ?_
        refine lv_iload hx hb dX1_pause_67 (lv_at hl 0 rfl) ?_
        refine gg1_ld1 hx hb hK G (i := u.2 0 (ix ((u.2 7 (ix p0)) - (u.2 7 (ix p0)) / 5 * 5))) (hlk _ (ix_lt (wt_p c_18))) dX1_pause_69 ?_
        refine lv_if_ne (tgt := 81) hx hb dX1_pause_70 (by decide) (fun c_70 => ?_) (fun c_70 => ?_)
        · refine lv_aload_n hx hb dX1_pause_81 rfl (lv_at hl 3 rfl) ?_
          refine gx_callv (wf := gw1_ cI cZ h q) (u := u) (f := pm_interrupted u) (As := []) (rest := []) 0 hx hb hml hown hts hK hA G rfl rfl (km_interrupted l dC dI cI cZ h q _ u  ) gX1_pause_X1_interrupted rfl rfl rfl hd_X1_interrupted ⟨Nat.le_of_ble_eq_true rfl, Nat.le_of_ble_eq_true rfl⟩ rfl hl.1 rfl (Nat.le_of_ble_eq_true rfl) dX1_pause_82 (Nat.zero_le _) (Nat.zero_le _) (fun H locs G => ?_)
          refine lv_bipush (v := (-2)) hx hb dX1_pause_85 (by decide) ?_
          exact gx_iret (wf := gw1_ cI cZ h q) (u1 := pm_interrupted u) hx hb hr hlocks hsz hK hAe G dX1_pause_87 (by unfold pm_pause; rw [if_neg c_10, if_pos c_18, if_neg c_40, if_neg c_70])
        · refine lv_aload_n hx hb dX1_pause_73 rfl (lv_at hl 3 rfl) ?_
          refine lv_iconst (v := 2) hx hb dX1_pause_74 (by decide) ?_
          refine gg1_put14 (v := 2) hx hb hts hin hown hK G (index := 54) (by decide +kernel) dX1_pause_75 (fun H locs G => ?_)
          refine lv_goto (tgt := 85) hx hb dX1_pause_78 (by decide) ?_
          refine lv_bipush (v := (-2)) hx hb dX1_pause_85 (by decide) ?_
          exact gx_iret (wf := gw1_ cI cZ h q) (u1 := st_si u 14 2) hx hb hr hlocks hsz hK hAe G dX1_pause_87 (by unfold pm_pause; rw [if_neg c_10, if_pos c_18, if_neg c_40, if_pos c_70])
      · refine lv_aload_n hx hb dX1_pause_43 rfl (lv_at hl 3 rfl) ?_
        refine lv_iconst (v := 1) hx hb dX1_pause_44 (by decide) ?_
        refine gg1_put14 (v := 1) hx hb hts hin hown hK G (index := 54) (by decide +kernel) dX1_pause_45 (fun H locs G => ?_)
        refine lv_goto (tgt := 85) hx hb dX1_pause_48 (by decide) ?_
        refine lv_bipush (v := (-2)) hx hb dX1_pause_85 (by decide) ?_
        exact gx_iret (wf := gw1_ cI cZ h q) (u1 := st_si u 14 1) hx hb hr hlocks hsz hK hAe G dX1_pause_87 (by unfold pm_pause; rw [if_neg c_10, if_pos c_18, if_pos c_40])
    · refine lv_iload_n hx hb dX1_pause_21 rfl (lv_at hl 0 rfl) ?_
      refine lv_ineg hx hb dX1_pause_22 ?_
      refine lv_goto (tgt := 27) hx hb dX1_pause_23 (by decide) ?_
      refine lv_istore_n (lv' := [(3, .int (-(u.2 7 (ix p0)))), (2, .int (u.2 7 (ix p0))), (0, .ref h), (1, .int p0)]) hx hb dX1_pause_27 rfl hl (by decide) rfl (fun ls hl => ?_)
      refine lv_aload_n hx hb dX1_pause_28 rfl (lv_at hl 2 rfl) ?_
      refine gg1_get (v := .ref (q 0)) hx hb hts hin hown hK G 0 (by decide) (index := 7) (by decide +kernel) rfl dX1_pause_29 ?_
      refine lv_iload_n hx hb dX1_pause_32 rfl (lv_at hl 0 rfl) ?_
      refine lv_iconst (v := 5) hx hb dX1_pause_33 (by decide) ?_
      refine lv_irem hx hb dX1_pause_34 (by decide) ?_
      refine gg1_ld0 hx hb hK G (i := (-(u.2 7 (ix p0))) - (-(u.2 7 (ix p0))) / 5 * 5) (wt_n c_10 c_18) dX1_pause_35 ?_
      refine lv_istore (lv' := [(4, .int (u.2 0 (ix ((-(u.2 7 (ix p0))) - (-(u.2 7 (ix p0))) / 5 * 5)))), (3, .int (-(u.2 7 (ix p0)))), (2, .int (u.2 7 (ix p0))), (0, .ref h), (1, .int p0)]) hx hb dX1_pause_36 hl (by decide) rfl (fun ls hl => ?_)
      refine lv_iload hx hb dX1_pause_38 (lv_at hl 0 rfl) ?_
      refine lv_if_ne (tgt := 51) hx hb dX1_pause_40 (by decide) (fun c_40 => ?_) (fun c_40 => ?_)
      · refine lv_iload_n hx hb dX1_pause_51 rfl (lv_at hl 2 rfl) ?_
        refine lv_if_ge (tgt := 63) hx hb dX1_pause_52 (by decide) (fun z => absurd z c_18) (fun _ => ?_)
        refine lv_aload_n hx hb dX1_pause_55 rfl (lv_at hl 3 rfl) ?_
        refine lv_iconst (v := 3) hx hb dX1_pause_56 (by decide) ?_
        refine gg1_put14 (v := 3) hx hb hts hin hown hK G (index := 54) (by decide +kernel) dX1_pause_57 (fun H locs G => ?_)
        refine lv_goto (tgt := 85) hx hb dX1_pause_60 (by decide) ?_
        refine lv_bipush (v := (-2)) hx hb dX1_pause_85 (by decide) ?_
        exact gx_iret (wf := gw1_ cI cZ h q) (u1 := st_si u 14 3) hx hb hr hlocks hsz hK hAe G dX1_pause_87 (by unfold pm_pause; rw [if_neg c_10, if_neg c_18, if_neg c_40])
      · refine lv_aload_n hx hb dX1_pause_43 rfl (lv_at hl 3 rfl) ?_
        refine lv_iconst (v := 1) hx hb dX1_pause_44 (by decide) ?_
        refine gg1_put14 (v := 1) hx hb hts hin hown hK G (index := 54) (by decide +kernel) dX1_pause_45 (fun H locs G => ?_)
        refine lv_goto (tgt := 85) hx hb dX1_pause_48 (by decide) ?_
        refine lv_bipush (v := (-2)) hx hb dX1_pause_85 (by decide) ?_
        exact gx_iret (wf := gw1_ cI cZ h q) (u1 := st_si u 14 1) hx hb hr hlocks hsz hK hAe G dX1_pause_87 (by unfold pm_pause; rw [if_neg c_10, if_neg c_18, if_pos c_40])
  · refine lv_iconst (v := 0) hx hb dX1_pause_13 (by decide) ?_
    refine lv_goto (tgt := 27) hx hb dX1_pause_14 (by decide) ?_
    refine lv_istore_n (lv' := [(3, .int 0), (2, .int (u.2 7 (ix p0))), (0, .ref h), (1, .int p0)]) hx hb dX1_pause_27 rfl hl (by decide) rfl (fun ls hl => ?_)
    refine lv_aload_n hx hb dX1_pause_28 rfl (lv_at hl 2 rfl) ?_
    refine gg1_get (v := .ref (q 0)) hx hb hts hin hown hK G 0 (by decide) (index := 7) (by decide +kernel) rfl dX1_pause_29 ?_
    refine lv_iload_n hx hb dX1_pause_32 rfl (lv_at hl 0 rfl) ?_
    refine lv_iconst (v := 5) hx hb dX1_pause_33 (by decide) ?_
    refine lv_irem hx hb dX1_pause_34 (by decide) ?_
    refine gg1_ld0 hx hb hK G (i := 0 - 0 / 5 * 5) (re_in (x := 0) (by decide)) dX1_pause_35 ?_
    refine lv_istore (lv' := [(4, .int (u.2 0 (ix (0 - 0 / 5 * 5)))), (3, .int 0), (2, .int (u.2 7 (ix p0))), (0, .ref h), (1, .int p0)]) hx hb dX1_pause_36 hl (by decide) rfl (fun ls hl => ?_)
    refine lv_iload hx hb dX1_pause_38 (lv_at hl 0 rfl) ?_
    refine lv_if_ne (tgt := 51) hx hb dX1_pause_40 (by decide) (fun c_40 => ?_) (fun c_40 => ?_)
    · refine lv_iload_n hx hb dX1_pause_51 rfl (lv_at hl 2 rfl) ?_
      refine lv_if_ge (tgt := 63) hx hb dX1_pause_52 (by decide) (fun z => absurd z (by rw [c_10]; decide)) (fun _ => ?_)
      refine lv_aload_n hx hb dX1_pause_55 rfl (lv_at hl 3 rfl) ?_
      refine lv_iconst (v := 3) hx hb dX1_pause_56 (by decide) ?_
      refine gg1_put14 (v := 3) hx hb hts hin hown hK G (index := 54) (by decide +kernel) dX1_pause_57 (fun H locs G => ?_)
      refine lv_goto (tgt := 85) hx hb dX1_pause_60 (by decide) ?_
      refine lv_bipush (v := (-2)) hx hb dX1_pause_85 (by decide) ?_
      exact gx_iret (wf := gw1_ cI cZ h q) (u1 := st_si u 14 3) hx hb hr hlocks hsz hK hAe G dX1_pause_87 (by unfold pm_pause; rw [if_pos c_10, if_neg c_40])
    · refine lv_aload_n hx hb dX1_pause_43 rfl (lv_at hl 3 rfl) ?_
      refine lv_iconst (v := 1) hx hb dX1_pause_44 (by decide) ?_
      refine gg1_put14 (v := 1) hx hb hts hin hown hK G (index := 54) (by decide +kernel) dX1_pause_45 (fun H locs G => ?_)
      refine lv_goto (tgt := 85) hx hb dX1_pause_48 (by decide) ?_
      refine lv_bipush (v := (-2)) hx hb dX1_pause_85 (by decide) ?_
      exact gx_iret (wf := gw1_ cI cZ h q) (u1 := st_si u 14 1) hx hb hr hlocks hsz hK hAe G dX1_pause_87 (by unfold pm_pause; rw [if_pos c_10, if_pos c_40])
theorem hd_X1_pause : yX1_pause.cls = RX1 ∧ yX1_pause.cls ≠ "java/lang/invoke/MethodHandle" ∧ yX1_pause.cls ≠ "java/lang/invoke/VarHandle" ∧ (parseMethodDescriptor yX1_pause.desc).map (fun d => d.parameters.length) = some 1 := by decide +kernel
def pm_close (u : st_T) : Int32 × st_T :=
  if u.2 6 (ix (u.2 12 (ix ((u.1 13) - 1)))) = 2 then
    (0, st_si u 13 ((u.1 13) - 1))
  else
    ((st_sa (st_si u 13 ((u.1 13) - 1)) 1 (ix (pm_lockOf (st_si u 13 ((u.1 13) - 1)) (u.2 12 (ix ((u.1 13) - 1))))) ((u.2 1 (ix (pm_lockOf (st_si u 13 ((u.1 13) - 1)) (u.2 12 (ix ((u.1 13) - 1)))))) - 1)).2 1 (ix (pm_lockOf (st_si u 13 ((u.1 13) - 1)) (u.2 12 (ix ((u.1 13) - 1))))), st_sa (st_si u 13 ((u.1 13) - 1)) 1 (ix (pm_lockOf (st_si u 13 ((u.1 13) - 1)) (u.2 12 (ix ((u.1 13) - 1))))) ((u.2 1 (ix (pm_lockOf (st_si u 13 ((u.1 13) - 1)) (u.2 12 (ix ((u.1 13) - 1)))))) - 1))
set_option maxHeartbeats 4000000 in
set_option maxRecDepth 100000 in
theorem km_close (l : Launch) (dC : Nat → ClassId) (dI : Nat → Nat → Nat) (cI cZ : ClassId) (h : Nat) (q : Nat → Nat) (sz : Nat) (u : st_T) (hdp : vp_in (u.1 13 - 1) 8) (hbk : ∀ j : Nat, j < 8 → vp_in (u.2 12 j) 24) (hlk : ∀ j : Nat, j < 5 → vp_in (u.2 0 j) 520) : gx_Mi l yX1_close wsX1_close { frames := 2, cells := 0, slots := 0, locals := 42 } [.ref h] (dC, dI) cI cZ (gw1_ cI cZ h q) u sz (pm_close u) := by
  refine gx_met (cc := cX1_close) (maxL := 3) (ret := (some .int)) (by decide +kernel) rfl (Nat.le_of_ble_eq_true rfl) (fun p e s m args below meth c A ls hsz hx hb hr hlocks hts hown hml hK hAe hA G hl => ?_)
  have hown : s.vm.findClass RX1 = some m.cls := hown
  have hin : ∀ w ∈ wsX10, w ∈ wsX1_close := gx_in
  have hl : lv_has ls 3 [(0, .ref h)] := hl
  refine lv_aload_n hx hb dX1_close_0 rfl (lv_at hl 0 rfl) ?_
  refine lv_dup hx hb dX1_close_1 rfl ?_
  refine gg1_get (v := .int (u.1 13)) hx hb hts hin hown hK G 13 (by decide) (index := 65) (by decide +kernel) rfl dX1_close_2 ?_
  refine lv_iconst (v := 1) hx hb dX1_close_5 (by decide) ?_
  refine lv_isub hx hb dX1_close_6 ?_
  refine gg1_put13 (v := (u.1 13) - 1) hx hb hts hin hown hK G (index := 65) (by decide +kernel) dX1_close_7 (fun H locs G => ?_)
  refine lv_aload_n hx hb dX1_close_10 rfl (lv_at hl 0 rfl) ?_
  refine gg1_get (v := .ref (q 12)) hx hb hts hin hown hK G 12 (by decide) (index := 29) (by decide +kernel) rfl dX1_close_11 ?_
  refine lv_aload_n hx hb dX1_close_14 rfl (lv_at hl 0 rfl) ?_
  refine gg1_get (v := .int ((u.1 13) - 1)) hx hb hts hin hown hK G 13 (by decide) (index := 65) (by decide +kernel) rfl dX1_close_15 ?_
  refine gg1_ld12 hx hb hK G (i := (u.1 13) - 1) hdp dX1_close_18 ?_
  refine gx_is (y := u.2 12 (ix ((u.1 13) - 1))) (congrFun (st_si_2 _ _ _ _) _) ?_
  refine lv_istore_n (lv' := [(1, .int (u.2 12 (ix ((u.1 13) - 1)))), (0, .ref h)]) hx hb dX1_close_19 rfl hl (by decide) rfl (fun ls hl => ?_)
  refine lv_aload_n hx hb dX1_close_20 rfl (lv_at hl 1 rfl) ?_
  refine gg1_get (v := .ref (q 6)) hx hb hts hin hown hK G 6 (by decide) (index := 20) (by decide +kernel) rfl dX1_close_21 ?_
  refine lv_iload_n hx hb dX1_close_24 rfl (lv_at hl 0 rfl) ?_
  refine gg1_ld6 hx hb hK G (i := u.2 12 (ix ((u.1 13) - 1))) (hbk _ (ix_lt hdp)) dX1_close_25 ?_
  refine gx_is (y := u.2 6 (ix (u.2 12 (ix ((u.1 13) - 1))))) (congrFun (st_si_2 _ _ _ _) _) ?_
  refine lv_iconst (v := 2) hx hb dX1_close_26 (by decide) ?_
  refine lv_icmp_ne (tgt := 32) hx hb dX1_close_27 (by decide) (fun c_27 => ?_) (fun c_27 => ?_)
  · refine lv_aload_n hx hb dX1_close_32 rfl (lv_at hl 1 rfl) ?_
    refine lv_iload_n hx hb dX1_close_33 rfl (lv_at hl 0 rfl) ?_
    refine gx_callr (wf := gw1_ cI cZ h q) (u := st_si u 13 ((u.1 13) - 1)) (f := pm_lockOf (st_si u 13 ((u.1 13) - 1)) (u.2 12 (ix ((u.1 13) - 1)))) (As := [.int (u.2 12 (ix ((u.1 13) - 1)))]) (rest := []) 1 hx hb hml hown hts hK hA G rfl rfl (km_lockOf l dC dI cI cZ h q _ (st_si u 13 ((u.1 13) - 1)) (u.2 12 (ix ((u.1 13) - 1))) (hbk _ (ix_lt hdp))) gX1_close_X1_lockOf rfl rfl rfl hd_X1_lockOf ⟨Nat.le_of_ble_eq_true rfl, Nat.le_of_ble_eq_true rfl⟩ rfl hl.1 rfl (Nat.le_of_ble_eq_true rfl) dX1_close_34 (Nat.zero_le _) (Nat.zero_le _) (fun H locs G => ?_)
    refine lv_istore_n (lv' := [(2, .int (pm_lockOf (st_si u 13 ((u.1 13) - 1)) (u.2 12 (ix ((u.1 13) - 1))))), (1, .int (u.2 12 (ix ((u.1 13) - 1)))), (0, .ref h)]) hx hb dX1_close_37 rfl hl (by decide) rfl (fun ls hl => ?_)
    refine lv_aload_n hx hb dX1_close_38 rfl (lv_at hl 2 rfl) ?_
    refine gg1_get (v := .ref (q 1)) hx hb hts hin hown hK G 1 (by decide) (index := 13) (by decide +kernel) rfl dX1_close_39 ?_
    refine lv_iload_n hx hb dX1_close_42 rfl (lv_at hl 0 rfl) ?_
    refine lv_dup2_11 hx hb dX1_close_43 rfl rfl ?_
    refine gg1_ld1 hx hb hK G (i := pm_lockOf (st_si u 13 ((u.1 13) - 1)) (u.2 12 (ix ((u.1 13) - 1)))) (lo_in hlk) dX1_close_44 ?_
    refine gx_is (y := u.2 1 (ix (pm_lockOf (st_si u 13 ((u.1 13) - 1)) (u.2 12 (ix ((u.1 13) - 1)))))) (congrFun (st_si_2 _ _ _ _) _) ?_
    refine lv_iconst (v := 1) hx hb dX1_close_45 (by decide) ?_
    refine lv_isub hx hb dX1_close_46 ?_
    refine gg1_st1 hx hb hK G (i := pm_lockOf (st_si u 13 ((u.1 13) - 1)) (u.2 12 (ix ((u.1 13) - 1)))) (x := (u.2 1 (ix (pm_lockOf (st_si u 13 ((u.1 13) - 1)) (u.2 12 (ix ((u.1 13) - 1)))))) - 1) (lo_in hlk) dX1_close_47 (fun H locs G => ?_)
    refine lv_aload_n hx hb dX1_close_48 rfl (lv_at hl 2 rfl) ?_
    refine gg1_get (v := .ref (q 1)) hx hb hts hin hown hK G 1 (by decide) (index := 13) (by decide +kernel) rfl dX1_close_49 ?_
    refine lv_iload_n hx hb dX1_close_52 rfl (lv_at hl 0 rfl) ?_
    refine gg1_ld1 hx hb hK G (i := pm_lockOf (st_si u 13 ((u.1 13) - 1)) (u.2 12 (ix ((u.1 13) - 1)))) (lo_in hlk) dX1_close_53 ?_
    exact gx_iret (wf := gw1_ cI cZ h q) (u1 := st_sa (st_si u 13 ((u.1 13) - 1)) 1 (ix (pm_lockOf (st_si u 13 ((u.1 13) - 1)) (u.2 12 (ix ((u.1 13) - 1))))) ((u.2 1 (ix (pm_lockOf (st_si u 13 ((u.1 13) - 1)) (u.2 12 (ix ((u.1 13) - 1)))))) - 1)) hx hb hr hlocks hsz hK hAe G dX1_close_54 (by unfold pm_close; rw [if_neg c_27])
  · refine lv_iconst (v := 0) hx hb dX1_close_30 (by decide) ?_
    exact gx_iret (wf := gw1_ cI cZ h q) (u1 := st_si u 13 ((u.1 13) - 1)) hx hb hr hlocks hsz hK hAe G dX1_close_31 (by unfold pm_close; rw [if_pos c_27])
theorem hd_X1_close : yX1_close.cls = RX1 ∧ yX1_close.cls ≠ "java/lang/invoke/MethodHandle" ∧ yX1_close.cls ≠ "java/lang/invoke/VarHandle" ∧ (parseMethodDescriptor yX1_close.desc).map (fun d => d.parameters.length) = some 0 := by decide +kernel
def pm_enter (u : st_T) (p0 : Int32) : Int32 × st_T :=
  if ((pm_monitor u p0 1).2).1 14 = 0 then
    ((st_sa ((pm_monitor u p0 1).2) 1 (ix ((pm_monitor u p0 1).1)) ((((pm_monitor u p0 1).2).2 1 (ix ((pm_monitor u p0 1).1))) + 1)).2 1 (ix ((pm_monitor u p0 1).1)), st_si (st_sa (st_sa ((pm_monitor u p0 1).2) 1 (ix ((pm_monitor u p0 1).1)) ((((pm_monitor u p0 1).2).2 1 (ix ((pm_monitor u p0 1).1))) + 1)) 12 (ix (((pm_monitor u p0 1).2).1 13)) p0) 13 ((((pm_monitor u p0 1).2).1 13) + 1))
  else
    (0, (pm_monitor u p0 1).2)
set_option maxHeartbeats 4000000 in
set_option maxRecDepth 100000 in
theorem km_enter (l : Launch) (dC : Nat → ClassId) (dI : Nat → Nat → Nat) (cI cZ : ClassId) (h : Nat) (q : Nat → Nat) (sz : Nat) (u : st_T) (p0 : Int32) (hst : vp_in p0 24) (hlk : ∀ j : Nat, j < 5 → vp_in (u.2 0 j) 520) (hdp : vp_in (u.1 13) 8) : gx_Mi l yX1_enter wsX1_enter { frames := 3, cells := 0, slots := 0, locals := 65 } [.ref h, .int p0] (dC, dI) cI cZ (gw1_ cI cZ h q) u sz (pm_enter u p0) := by
  refine gx_met (cc := cX1_enter) (maxL := 3) (ret := (some .int)) (by decide +kernel) rfl (Nat.le_of_ble_eq_true rfl) (fun p e s m args below meth c A ls hsz hx hb hr hlocks hts hown hml hK hAe hA G hl => ?_)
  have hown : s.vm.findClass RX1 = some m.cls := hown
  have hin : ∀ w ∈ wsX10, w ∈ wsX1_enter := gx_in
  have hl : lv_has ls 3 [(0, .ref h), (1, .int p0)] := hl
  refine lv_aload_n hx hb dX1_enter_0 rfl (lv_at hl 0 rfl) ?_
  refine lv_iload_n hx hb dX1_enter_1 rfl (lv_at hl 1 rfl) ?_
  refine lv_iconst (v := 1) hx hb dX1_enter_2 (by decide) ?_
  refine gx_calli (wf := gw1_ cI cZ h q) (u := u) (f := pm_monitor u p0 1) (As := [.int p0, .int 1]) (rest := []) 2 hx hb hml hown hts hK hA G rfl rfl (km_monitor l dC dI cI cZ h q _ u p0 1 hst hlk) gX1_enter_X1_monitor rfl rfl rfl hd_X1_monitor ⟨Nat.le_of_ble_eq_true rfl, Nat.le_of_ble_eq_true rfl⟩ rfl hl.1 rfl (Nat.le_of_ble_eq_true rfl) dX1_enter_3 (Nat.zero_le _) (Nat.zero_le _) (fun H locs G => ?_)
  refine lv_istore_n (lv' := [(2, .int ((pm_monitor u p0 1).1)), (0, .ref h), (1, .int p0)]) hx hb dX1_enter_6 rfl hl (by decide) rfl (fun ls hl => ?_)
  refine lv_aload_n hx hb dX1_enter_7 rfl (lv_at hl 1 rfl) ?_
  refine gg1_get (v := .int (((pm_monitor u p0 1).2).1 14)) hx hb hts hin hown hK G 14 (by decide) (index := 54) (by decide +kernel) rfl dX1_enter_8 ?_
  refine lv_if_eq (tgt := 16) hx hb dX1_enter_11 (by decide) (fun c_11 => ?_) (fun c_11 => ?_)
  · refine lv_aload_n hx hb dX1_enter_16 rfl (lv_at hl 1 rfl) ?_
    refine gg1_get (v := .ref (q 1)) hx hb hts hin hown hK G 1 (by decide) (index := 13) (by decide +kernel) rfl dX1_enter_17 ?_
    refine lv_iload_n hx hb dX1_enter_20 rfl (lv_at hl 0 rfl) ?_
    refine lv_dup2_11 hx hb dX1_enter_21 rfl rfl ?_
    refine gg1_ld1 hx hb hK G (i := (pm_monitor u p0 1).1) (mn_in hlk) dX1_enter_22 ?_
    refine lv_iconst (v := 1) hx hb dX1_enter_23 (by decide) ?_
    refine lv_iadd hx hb dX1_enter_24 ?_
    refine gg1_st1 hx hb hK G (i := (pm_monitor u p0 1).1) (x := (((pm_monitor u p0 1).2).2 1 (ix ((pm_monitor u p0 1).1))) + 1) (mn_in hlk) dX1_enter_25 (fun H locs G => ?_)
    refine lv_aload_n hx hb dX1_enter_26 rfl (lv_at hl 1 rfl) ?_
    refine gg1_get (v := .ref (q 12)) hx hb hts hin hown hK G 12 (by decide) (index := 29) (by decide +kernel) rfl dX1_enter_27 ?_
    refine lv_aload_n hx hb dX1_enter_30 rfl (lv_at hl 1 rfl) ?_
    refine gg1_get (v := .int (((pm_monitor u p0 1).2).1 13)) hx hb hts hin hown hK G 13 (by decide) (index := 65) (by decide +kernel) rfl dX1_enter_31 ?_
    refine lv_iload_n hx hb dX1_enter_34 rfl (lv_at hl 2 rfl) ?_
    refine gg1_st12 hx hb hK G (i := ((pm_monitor u p0 1).2).1 13) (x := p0) (by rw [mn_13]; exact hdp) dX1_enter_35 (fun H locs G => ?_)
    refine lv_aload_n hx hb dX1_enter_36 rfl (lv_at hl 1 rfl) ?_
    refine lv_dup hx hb dX1_enter_37 rfl ?_
    refine gg1_get (v := .int (((pm_monitor u p0 1).2).1 13)) hx hb hts hin hown hK G 13 (by decide) (index := 65) (by decide +kernel) rfl dX1_enter_38 ?_
    refine lv_iconst (v := 1) hx hb dX1_enter_41 (by decide) ?_
    refine lv_iadd hx hb dX1_enter_42 ?_
    refine gg1_put13 (v := (((pm_monitor u p0 1).2).1 13) + 1) hx hb hts hin hown hK G (index := 65) (by decide +kernel) dX1_enter_43 (fun H locs G => ?_)
    refine lv_aload_n hx hb dX1_enter_46 rfl (lv_at hl 1 rfl) ?_
    refine gg1_get (v := .ref (q 1)) hx hb hts hin hown hK G 1 (by decide) (index := 13) (by decide +kernel) rfl dX1_enter_47 ?_
    refine lv_iload_n hx hb dX1_enter_50 rfl (lv_at hl 0 rfl) ?_
    refine gg1_ld1 hx hb hK G (i := (pm_monitor u p0 1).1) (mn_in hlk) dX1_enter_51 ?_
    refine gx_is (y := (st_sa ((pm_monitor u p0 1).2) 1 (ix ((pm_monitor u p0 1).1)) ((((pm_monitor u p0 1).2).2 1 (ix ((pm_monitor u p0 1).1))) + 1)).2 1 (ix ((pm_monitor u p0 1).1))) (congrFun ((st_si_2 _ _ _ _).trans (st_sa_2 _ _ _ (by decide))) _) ?_
    exact gx_iret (wf := gw1_ cI cZ h q) (u1 := st_si (st_sa (st_sa ((pm_monitor u p0 1).2) 1 (ix ((pm_monitor u p0 1).1)) ((((pm_monitor u p0 1).2).2 1 (ix ((pm_monitor u p0 1).1))) + 1)) 12 (ix (((pm_monitor u p0 1).2).1 13)) p0) 13 ((((pm_monitor u p0 1).2).1 13) + 1)) hx hb hr hlocks hsz hK hAe G dX1_enter_52 (by unfold pm_enter; rw [if_pos c_11])
  · refine lv_iconst (v := 0) hx hb dX1_enter_14 (by decide) ?_
    exact gx_iret (wf := gw1_ cI cZ h q) (u1 := (pm_monitor u p0 1).2) hx hb hr hlocks hsz hK hAe G dX1_enter_15 (by unfold pm_enter; rw [if_neg c_11])
theorem hd_X1_enter : yX1_enter.cls = RX1 ∧ yX1_enter.cls ≠ "java/lang/invoke/MethodHandle" ∧ yX1_enter.cls ≠ "java/lang/invoke/VarHandle" ∧ (parseMethodDescriptor yX1_enter.desc).map (fun d => d.parameters.length) = some 1 := by decide +kernel
def pm_thread (u : st_T) (p0 : Int32) : Int32 × st_T :=
  if u.2 6 (ix p0) ≤ 12 then
    if u.2 3 (ix (pm_modulo (u.2 7 (ix p0)) 4)) = 0 then
      (0, st_si (st_sa u 3 (ix (pm_modulo (u.2 7 (ix p0)) 4)) 1) 4 ((u.1 4) + ((pm_modulo (u.2 7 (ix p0)) 4) + 1)))
    else
      (0, st_si u 14 5)
  else
    if u.2 3 (ix (pm_modulo (u.2 7 (ix p0)) 4)) = 0 then
      (0, u)
    else
      (1, u)
set_option maxHeartbeats 4000000 in
set_option maxRecDepth 100000 in
theorem km_thread (l : Launch) (dC : Nat → ClassId) (dI : Nat → Nat → Nat) (cI cZ : ClassId) (h : Nat) (q : Nat → Nat) (sz : Nat) (u : st_T) (p0 : Int32) (hst : vp_in p0 24) : gx_Mi l yX1_thread wsX1_thread { frames := 1, cells := 0, slots := 0, locals := 21 } [.ref h, .int p0] (dC, dI) cI cZ (gw1_ cI cZ h q) u sz (pm_thread u p0) := by
  refine gx_met (cc := cX1_thread) (maxL := 3) (ret := (some .int)) (by decide +kernel) rfl (Nat.le_of_ble_eq_true rfl) (fun p e s m args below meth c A ls hsz hx hb hr hlocks hts hown hml hK hAe hA G hl => ?_)
  have hown : s.vm.findClass RX1 = some m.cls := hown
  have hin : ∀ w ∈ wsX10, w ∈ wsX1_thread := gx_in
  have hl : lv_has ls 3 [(0, .ref h), (1, .int p0)] := hl
  refine lv_aload_n hx hb dX1_thread_0 rfl (lv_at hl 0 rfl) ?_
  refine gg1_get (v := .ref (q 7)) hx hb hts hin hown hK G 7 (by decide) (index := 23) (by decide +kernel) rfl dX1_thread_1 ?_
  refine lv_iload_n hx hb dX1_thread_4 rfl (lv_at hl 1 rfl) ?_
  refine gg1_ld7 hx hb hK G (i := p0) hst dX1_thread_5 ?_
  refine lv_iconst (v := 4) hx hb dX1_thread_6 (by decide) ?_
  refine gx_calls (f := pm_modulo (u.2 7 (ix p0)) 4) (As := [.int (u.2 7 (ix p0)), .int 4]) (rest := []) 2 hx hb hml hown hts (km_modulo l (u.2 7 (ix p0)) 4 (by decide)) gX1_thread_X1_modulo rfl rfl rfl hd_X1_modulo ⟨Nat.le_of_ble_eq_true rfl, Nat.le_of_ble_eq_true rfl⟩ rfl hl.1 rfl (Nat.le_of_ble_eq_true rfl) dX1_thread_7 (Nat.zero_le _) (Nat.zero_le _) ?_
  refine lv_istore_n (lv' := [(2, .int (pm_modulo (u.2 7 (ix p0)) 4)), (0, .ref h), (1, .int p0)]) hx hb dX1_thread_10 rfl hl (by decide) rfl (fun ls hl => ?_)
  refine lv_aload_n hx hb dX1_thread_11 rfl (lv_at hl 1 rfl) ?_
  refine gg1_get (v := .ref (q 6)) hx hb hts hin hown hK G 6 (by decide) (index := 20) (by decide +kernel) rfl dX1_thread_12 ?_
  refine lv_iload_n hx hb dX1_thread_15 rfl (lv_at hl 2 rfl) ?_
  refine gg1_ld6 hx hb hK G (i := p0) hst dX1_thread_16 ?_
  refine lv_bipush (v := 12) hx hb dX1_thread_17 (by decide) ?_
  refine lv_icmp_le (tgt := 37) hx hb dX1_thread_19 (by decide) (fun c_19 => ?_) (fun c_19 => ?_)
  · refine lv_aload_n hx hb dX1_thread_37 rfl (lv_at hl 1 rfl) ?_
    refine gg1_get (v := .ref (q 3)) hx hb hts hin hown hK G 3 (by decide) (index := 16) (by decide +kernel) rfl dX1_thread_38 ?_
    refine lv_iload_n hx hb dX1_thread_41 rfl (lv_at hl 0 rfl) ?_
    refine gg1_ld3 hx hb hK G (i := pm_modulo (u.2 7 (ix p0)) 4) (mo_in4 _) dX1_thread_42 ?_
    refine lv_if_eq (tgt := 54) hx hb dX1_thread_43 (by decide) (fun c_43 => ?_) (fun c_43 => ?_)
    · refine lv_aload_n hx hb dX1_thread_54 rfl (lv_at hl 1 rfl) ?_
      refine gg1_get (v := .ref (q 3)) hx hb hts hin hown hK G 3 (by decide) (index := 16) (by decide +kernel) rfl dX1_thread_55 ?_
      refine lv_iload_n hx hb dX1_thread_58 rfl (lv_at hl 0 rfl) ?_
      refine lv_iconst (v := 1) hx hb dX1_thread_59 (by decide) ?_
      refine gg1_st3 hx hb hK G (i := pm_modulo (u.2 7 (ix p0)) 4) (x := 1) (mo_in4 _) rfl dX1_thread_60 (fun H locs G => ?_)
      refine lv_aload_n hx hb dX1_thread_61 rfl (lv_at hl 1 rfl) ?_
      refine lv_dup hx hb dX1_thread_62 rfl ?_
      refine gg1_get (v := .int (u.1 4)) hx hb hts hin hown hK G 4 (by decide) (index := 72) (by decide +kernel) rfl dX1_thread_63 ?_
      refine lv_iload_n hx hb dX1_thread_66 rfl (lv_at hl 0 rfl) ?_
      refine lv_iconst (v := 1) hx hb dX1_thread_67 (by decide) ?_
      refine lv_iadd hx hb dX1_thread_68 ?_
      refine lv_iadd hx hb dX1_thread_69 ?_
      refine gg1_put4 (v := (u.1 4) + ((pm_modulo (u.2 7 (ix p0)) 4) + 1)) hx hb hts hin hown hK G (index := 72) (by decide +kernel) dX1_thread_70 (fun H locs G => ?_)
      refine lv_iconst (v := 0) hx hb dX1_thread_73 (by decide) ?_
      exact gx_iret (wf := gw1_ cI cZ h q) (u1 := st_si (st_sa u 3 (ix (pm_modulo (u.2 7 (ix p0)) 4)) 1) 4 ((u.1 4) + ((pm_modulo (u.2 7 (ix p0)) 4) + 1))) hx hb hr hlocks hsz hK hAe G dX1_thread_74 (by unfold pm_thread; rw [if_pos c_19, if_pos c_43])
    · refine lv_aload_n hx hb dX1_thread_46 rfl (lv_at hl 1 rfl) ?_
      refine lv_iconst (v := 5) hx hb dX1_thread_47 (by decide) ?_
      refine gg1_put14 (v := 5) hx hb hts hin hown hK G (index := 54) (by decide +kernel) dX1_thread_48 (fun H locs G => ?_)
      refine lv_goto (tgt := 73) hx hb dX1_thread_51 (by decide) ?_
      refine lv_iconst (v := 0) hx hb dX1_thread_73 (by decide) ?_
      exact gx_iret (wf := gw1_ cI cZ h q) (u1 := st_si u 14 5) hx hb hr hlocks hsz hK hAe G dX1_thread_74 (by unfold pm_thread; rw [if_pos c_19, if_neg c_43])
  · refine lv_aload_n hx hb dX1_thread_22 rfl (lv_at hl 1 rfl) ?_
    refine gg1_get (v := .ref (q 3)) hx hb hts hin hown hK G 3 (by decide) (index := 16) (by decide +kernel) rfl dX1_thread_23 ?_
    refine lv_iload_n hx hb dX1_thread_26 rfl (lv_at hl 0 rfl) ?_
    refine gg1_ld3 hx hb hK G (i := pm_modulo (u.2 7 (ix p0)) 4) (mo_in4 _) dX1_thread_27 ?_
    refine lv_if_eq (tgt := 35) hx hb dX1_thread_28 (by decide) (fun c_28 => ?_) (fun c_28 => ?_)
    · refine lv_iconst (v := 0) hx hb dX1_thread_35 (by decide) ?_
      exact gx_iret (wf := gw1_ cI cZ h q) (u1 := u) hx hb hr hlocks hsz hK hAe G dX1_thread_36 (by unfold pm_thread; rw [if_neg c_19, if_pos c_28])
    · refine lv_iconst (v := 1) hx hb dX1_thread_31 (by decide) ?_
      refine lv_goto (tgt := 36) hx hb dX1_thread_32 (by decide) ?_
      exact gx_iret (wf := gw1_ cI cZ h q) (u1 := u) hx hb hr hlocks hsz hK hAe G dX1_thread_36 (by unfold pm_thread; rw [if_neg c_19, if_neg c_28])
theorem hd_X1_thread : yX1_thread.cls = RX1 ∧ yX1_thread.cls ≠ "java/lang/invoke/MethodHandle" ∧ yX1_thread.cls ≠ "java/lang/invoke/VarHandle" ∧ (parseMethodDescriptor yX1_thread.desc).map (fun d => d.parameters.length) = some 1 := by decide +kernel
def pm_others (u : st_T) (p0 : Int32) : Int32 × st_T :=
  if u.2 6 (ix p0) = 7 then
    (0, st_si u 5 1)
  else
    if u.2 6 (ix p0) = 8 then
      if u.1 5 = 0 then
        (0, st_si u 5 0)
      else
        (1, st_si u 5 0)
    else
      if u.2 6 (ix p0) = 10 then
        if 0 ≤ u.2 7 (ix p0) then
          (0, pm_interrupted u)
        else
          (0, st_si u 14 3)
      else
        if u.2 6 (ix p0) = 11 then
          (0, st_si u 14 (100 + (pm_modulo (u.2 7 (ix p0)) 100)))
        else
          if u.2 6 (ix p0) = 15 then
            ((u.1 4) + (u.2 7 (ix p0)), st_si u 4 ((u.1 4) + (u.2 7 (ix p0))))
          else
            if u.2 6 (ix p0) = 9 then
              if u.1 5 = 0 then
                (0, u)
              else
                (1, u)
            else
              (0, u)
set_option maxHeartbeats 4000000 in
set_option maxRecDepth 100000 in
theorem km_others (l : Launch) (dC : Nat → ClassId) (dI : Nat → Nat → Nat) (cI cZ : ClassId) (h : Nat) (q : Nat → Nat) (sz : Nat) (u : st_T) (p0 : Int32) (hst : vp_in p0 24) : gx_Mi l yX1_others wsX1_others { frames := 1, cells := 0, slots := 0, locals := 21 } [.ref h, .int p0] (dC, dI) cI cZ (gw1_ cI cZ h q) u sz (pm_others u p0) := by
  refine gx_met (cc := cX1_others) (maxL := 4) (ret := (some .int)) (by decide +kernel) rfl (Nat.le_of_ble_eq_true rfl) (fun p e s m args below meth c A ls hsz hx hb hr hlocks hts hown hml hK hAe hA G hl => ?_)
  have hown : s.vm.findClass RX1 = some m.cls := hown
  have hin : ∀ w ∈ wsX10, w ∈ wsX1_others := gx_in
  have hl : lv_has ls 4 [(0, .ref h), (1, .int p0)] := hl
  refine lv_aload_n hx hb dX1_others_0 rfl (lv_at hl 0 rfl) ?_
  refine gg1_get (v := .ref (q 7)) hx hb hts hin hown hK G 7 (by decide) (index := 23) (by decide +kernel) rfl dX1_others_1 ?_
  refine lv_iload_n hx hb dX1_others_4 rfl (lv_at hl 1 rfl) ?_
  refine gg1_ld7 hx hb hK G (i := p0) hst dX1_others_5 ?_
  refine lv_istore_n (lv' := [(2, .int (u.2 7 (ix p0))), (0, .ref h), (1, .int p0)]) hx hb dX1_others_6 rfl hl (by decide) rfl (fun ls hl => ?_)
  refine lv_aload_n hx hb dX1_others_7 rfl (lv_at hl 1 rfl) ?_
  refine gg1_get (v := .int (u.1 5)) hx hb hts hin hown hK G 5 (by decide) (index := 61) (by decide +kernel) rfl dX1_others_8 ?_
  refine lv_istore_n (lv' := [(3, .int (u.1 5)), (2, .int (u.2 7 (ix p0))), (0, .ref h), (1, .int p0)]) hx hb dX1_others_11 rfl hl (by decide) rfl (fun ls hl => ?_)
  refine lv_aload_n hx hb dX1_others_12 rfl (lv_at hl 2 rfl) ?_
  refine gg1_get (v := .ref (q 6)) hx hb hts hin hown hK G 6 (by decide) (index := 20) (by decide +kernel) rfl dX1_others_13 ?_
  refine lv_iload_n hx hb dX1_others_16 rfl (lv_at hl 3 rfl) ?_
  refine gg1_ld6 hx hb hK G (i := p0) hst dX1_others_17 ?_
  refine lv_bipush (v := 7) hx hb dX1_others_18 (by decide) ?_
  refine lv_icmp_ne (tgt := 28) hx hb dX1_others_20 (by decide) (fun c_20 => ?_) (fun c_20 => ?_)
  · refine lv_aload_n hx hb dX1_others_28 rfl (lv_at hl 2 rfl) ?_
    refine gg1_get (v := .ref (q 6)) hx hb hts hin hown hK G 6 (by decide) (index := 20) (by decide +kernel) rfl dX1_others_29 ?_
    refine lv_iload_n hx hb dX1_others_32 rfl (lv_at hl 3 rfl) ?_
    refine gg1_ld6 hx hb hK G (i := p0) hst dX1_others_33 ?_
    refine lv_bipush (v := 8) hx hb dX1_others_34 (by decide) ?_
    refine lv_icmp_ne (tgt := 44) hx hb dX1_others_36 (by decide) (fun c_36 => ?_) (fun c_36 => ?_)
    · refine lv_aload_n hx hb dX1_others_44 rfl (lv_at hl 2 rfl) ?_
      refine gg1_get (v := .ref (q 6)) hx hb hts hin hown hK G 6 (by decide) (index := 20) (by decide +kernel) rfl dX1_others_45 ?_
      refine lv_iload_n hx hb dX1_others_48 rfl (lv_at hl 3 rfl) ?_
      refine gg1_ld6 hx hb hK G (i := p0) hst dX1_others_49 ?_
      refine lv_bipush (v := 10) hx hb dX1_others_50 (by decide) ?_
      refine lv_icmp_ne (tgt := 71) hx hb dX1_others_52 (by decide) (fun c_52 => ?_) (fun c_52 => ?_)
      · refine lv_aload_n hx hb dX1_others_71 rfl (lv_at hl 2 rfl) ?_
        refine gg1_get (v := .ref (q 6)) hx hb hts hin hown hK G 6 (by decide) (index := 20) (by decide +kernel) rfl dX1_others_72 ?_
        refine lv_iload_n hx hb dX1_others_75 rfl (lv_at hl 3 rfl) ?_
        refine gg1_ld6 hx hb hK G (i := p0) hst dX1_others_76 ?_
        refine lv_bipush (v := 11) hx hb dX1_others_77 (by decide) ?_
        refine lv_icmp_ne (tgt := 95) hx hb dX1_others_79 (by decide) (fun c_79 => ?_) (fun c_79 => ?_)
        · refine lv_aload_n hx hb dX1_others_95 rfl (lv_at hl 2 rfl) ?_
          refine gg1_get (v := .ref (q 6)) hx hb hts hin hown hK G 6 (by decide) (index := 20) (by decide +kernel) rfl dX1_others_96 ?_
          refine lv_iload_n hx hb dX1_others_99 rfl (lv_at hl 3 rfl) ?_
          refine gg1_ld6 hx hb hK G (i := p0) hst dX1_others_100 ?_
          refine lv_bipush (v := 15) hx hb dX1_others_101 (by decide) ?_
          refine lv_icmp_ne (tgt := 121) hx hb dX1_others_103 (by decide) (fun c_103 => ?_) (fun c_103 => ?_)
          · refine lv_aload_n hx hb dX1_others_121 rfl (lv_at hl 2 rfl) ?_
            refine gg1_get (v := .ref (q 6)) hx hb hts hin hown hK G 6 (by decide) (index := 20) (by decide +kernel) rfl dX1_others_122 ?_
            refine lv_iload_n hx hb dX1_others_125 rfl (lv_at hl 3 rfl) ?_
            refine gg1_ld6 hx hb hK G (i := p0) hst dX1_others_126 ?_
            refine lv_bipush (v := 8) hx hb dX1_others_127 (by decide) ?_
            refine lv_icmp_eq (tgt := 143) hx hb dX1_others_129 (by decide) (fun z => absurd z c_36) (fun _ => ?_)
            refine lv_aload_n hx hb dX1_others_132 rfl (lv_at hl 2 rfl) ?_
            refine gg1_get (v := .ref (q 6)) hx hb hts hin hown hK G 6 (by decide) (index := 20) (by decide +kernel) rfl dX1_others_133 ?_
            refine lv_iload_n hx hb dX1_others_136 rfl (lv_at hl 3 rfl) ?_
            refine gg1_ld6 hx hb hK G (i := p0) hst dX1_others_137 ?_
            refine lv_bipush (v := 9) hx hb dX1_others_138 (by decide) ?_
            refine lv_icmp_ne (tgt := 151) hx hb dX1_others_140 (by decide) (fun c_140 => ?_) (fun c_140 => ?_)
            · refine lv_iconst (v := 0) hx hb dX1_others_151 (by decide) ?_
              exact gx_iret (wf := gw1_ cI cZ h q) (u1 := u) hx hb hr hlocks hsz hK hAe G dX1_others_152 (by unfold pm_others; rw [if_neg c_20, if_neg c_36, if_neg c_52, if_neg c_79, if_neg c_103, if_neg c_140])
            · refine lv_iload_n hx hb dX1_others_143 rfl (lv_at hl 0 rfl) ?_
              refine lv_if_eq (tgt := 151) hx hb dX1_others_144 (by decide) (fun c_144 => ?_) (fun c_144 => ?_)
              · refine lv_iconst (v := 0) hx hb dX1_others_151 (by decide) ?_
                exact gx_iret (wf := gw1_ cI cZ h q) (u1 := u) hx hb hr hlocks hsz hK hAe G dX1_others_152 (by unfold pm_others; rw [if_neg c_20, if_neg c_36, if_neg c_52, if_neg c_79, if_neg c_103, if_pos c_140, if_pos c_144])
              · refine lv_iconst (v := 1) hx hb dX1_others_147 (by decide) ?_
                refine lv_goto (tgt := 152) hx hb dX1_others_148 (by decide) ?_
                exact gx_iret (wf := gw1_ cI cZ h q) (u1 := u) hx hb hr hlocks hsz hK hAe G dX1_others_152 (by unfold pm_others; rw [if_neg c_20, if_neg c_36, if_neg c_52, if_neg c_79, if_neg c_103, if_pos c_140, if_neg c_144])
          · refine lv_aload_n hx hb dX1_others_106 rfl (lv_at hl 2 rfl) ?_
            refine lv_dup hx hb dX1_others_107 rfl ?_
            refine gg1_get (v := .int (u.1 4)) hx hb hts hin hown hK G 4 (by decide) (index := 72) (by decide +kernel) rfl dX1_others_108 ?_
            refine lv_iload_n hx hb dX1_others_111 rfl (lv_at hl 1 rfl) ?_
            refine lv_iadd hx hb dX1_others_112 ?_
            refine gg1_put4 (v := (u.1 4) + (u.2 7 (ix p0))) hx hb hts hin hown hK G (index := 72) (by decide +kernel) dX1_others_113 (fun H locs G => ?_)
            refine lv_aload_n hx hb dX1_others_116 rfl (lv_at hl 2 rfl) ?_
            refine gg1_get (v := .int ((u.1 4) + (u.2 7 (ix p0)))) hx hb hts hin hown hK G 4 (by decide) (index := 72) (by decide +kernel) rfl dX1_others_117 ?_
            exact gx_iret (wf := gw1_ cI cZ h q) (u1 := st_si u 4 ((u.1 4) + (u.2 7 (ix p0)))) hx hb hr hlocks hsz hK hAe G dX1_others_120 (by unfold pm_others; rw [if_neg c_20, if_neg c_36, if_neg c_52, if_neg c_79, if_pos c_103])
        · refine lv_aload_n hx hb dX1_others_82 rfl (lv_at hl 2 rfl) ?_
          refine lv_bipush (v := 100) hx hb dX1_others_83 (by decide) ?_
          refine lv_iload_n hx hb dX1_others_85 rfl (lv_at hl 1 rfl) ?_
          refine lv_bipush (v := 100) hx hb dX1_others_86 (by decide) ?_
          refine gx_calls (f := pm_modulo (u.2 7 (ix p0)) 100) (As := [.int (u.2 7 (ix p0)), .int 100]) (rest := [.int 100, .ref h]) 2 hx hb hml hown hts (km_modulo l (u.2 7 (ix p0)) 100 (by decide)) gX1_others_X1_modulo rfl rfl rfl hd_X1_modulo ⟨Nat.le_of_ble_eq_true rfl, Nat.le_of_ble_eq_true rfl⟩ rfl hl.1 rfl (Nat.le_of_ble_eq_true rfl) dX1_others_88 (Nat.zero_le _) (Nat.zero_le _) ?_
          refine lv_iadd hx hb dX1_others_91 ?_
          refine gg1_put14 (v := 100 + (pm_modulo (u.2 7 (ix p0)) 100)) hx hb hts hin hown hK G (index := 54) (by decide +kernel) dX1_others_92 (fun H locs G => ?_)
          refine lv_aload_n hx hb dX1_others_95 rfl (lv_at hl 2 rfl) ?_
          refine gg1_get (v := .ref (q 6)) hx hb hts hin hown hK G 6 (by decide) (index := 20) (by decide +kernel) rfl dX1_others_96 ?_
          refine lv_iload_n hx hb dX1_others_99 rfl (lv_at hl 3 rfl) ?_
          refine gg1_ld6 hx hb hK G (i := p0) hst dX1_others_100 ?_
          refine gx_is (y := u.2 6 (ix p0)) (congrFun (st_si_2 _ _ _ _) _) ?_
          refine lv_bipush (v := 15) hx hb dX1_others_101 (by decide) ?_
          refine lv_icmp_ne (tgt := 121) hx hb dX1_others_103 (by decide) (fun _ => ?_) (fun z => absurd z (by rw [c_79]; decide))
          refine lv_aload_n hx hb dX1_others_121 rfl (lv_at hl 2 rfl) ?_
          refine gg1_get (v := .ref (q 6)) hx hb hts hin hown hK G 6 (by decide) (index := 20) (by decide +kernel) rfl dX1_others_122 ?_
          refine lv_iload_n hx hb dX1_others_125 rfl (lv_at hl 3 rfl) ?_
          refine gg1_ld6 hx hb hK G (i := p0) hst dX1_others_126 ?_
          refine gx_is (y := u.2 6 (ix p0)) (congrFun (st_si_2 _ _ _ _) _) ?_
          refine lv_bipush (v := 8) hx hb dX1_others_127 (by decide) ?_
          refine lv_icmp_eq (tgt := 143) hx hb dX1_others_129 (by decide) (fun z => absurd z c_36) (fun _ => ?_)
          refine lv_aload_n hx hb dX1_others_132 rfl (lv_at hl 2 rfl) ?_
          refine gg1_get (v := .ref (q 6)) hx hb hts hin hown hK G 6 (by decide) (index := 20) (by decide +kernel) rfl dX1_others_133 ?_
          refine lv_iload_n hx hb dX1_others_136 rfl (lv_at hl 3 rfl) ?_
          refine gg1_ld6 hx hb hK G (i := p0) hst dX1_others_137 ?_
          refine gx_is (y := u.2 6 (ix p0)) (congrFun (st_si_2 _ _ _ _) _) ?_
          refine lv_bipush (v := 9) hx hb dX1_others_138 (by decide) ?_
          refine lv_icmp_ne (tgt := 151) hx hb dX1_others_140 (by decide) (fun _ => ?_) (fun z => absurd z (by rw [c_79]; decide))
          refine lv_iconst (v := 0) hx hb dX1_others_151 (by decide) ?_
          exact gx_iret (wf := gw1_ cI cZ h q) (u1 := st_si u 14 (100 + (pm_modulo (u.2 7 (ix p0)) 100))) hx hb hr hlocks hsz hK hAe G dX1_others_152 (by unfold pm_others; rw [if_neg c_20, if_neg c_36, if_neg c_52, if_pos c_79])
      · refine lv_iload_n hx hb dX1_others_55 rfl (lv_at hl 1 rfl) ?_
        refine lv_if_ge (tgt := 67) hx hb dX1_others_56 (by decide) (fun c_56 => ?_) (fun c_56 => ?_)
        · refine lv_aload_n hx hb dX1_others_67 rfl (lv_at hl 2 rfl) ?_
          refine gx_callv (wf := gw1_ cI cZ h q) (u := u) (f := pm_interrupted u) (As := []) (rest := []) 0 hx hb hml hown hts hK hA G rfl rfl (km_interrupted l dC dI cI cZ h q _ u  ) gX1_others_X1_interrupted rfl rfl rfl hd_X1_interrupted ⟨Nat.le_of_ble_eq_true rfl, Nat.le_of_ble_eq_true rfl⟩ rfl hl.1 rfl (Nat.le_of_ble_eq_true rfl) dX1_others_68 (Nat.zero_le _) (Nat.zero_le _) (fun H locs G => ?_)
          have e_68 : (pm_interrupted u).2 6 (ix p0) = 10 := (by rw [it_2]; exact c_52)
          refine lv_aload_n hx hb dX1_others_71 rfl (lv_at hl 2 rfl) ?_
          refine gg1_get (v := .ref (q 6)) hx hb hts hin hown hK G 6 (by decide) (index := 20) (by decide +kernel) rfl dX1_others_72 ?_
          refine lv_iload_n hx hb dX1_others_75 rfl (lv_at hl 3 rfl) ?_
          refine gg1_ld6 hx hb hK G (i := p0) hst dX1_others_76 ?_
          refine lv_bipush (v := 11) hx hb dX1_others_77 (by decide) ?_
          refine lv_icmp_ne (tgt := 95) hx hb dX1_others_79 (by decide) (fun _ => ?_) (fun z => absurd z (by rw [e_68]; decide))
          refine lv_aload_n hx hb dX1_others_95 rfl (lv_at hl 2 rfl) ?_
          refine gg1_get (v := .ref (q 6)) hx hb hts hin hown hK G 6 (by decide) (index := 20) (by decide +kernel) rfl dX1_others_96 ?_
          refine lv_iload_n hx hb dX1_others_99 rfl (lv_at hl 3 rfl) ?_
          refine gg1_ld6 hx hb hK G (i := p0) hst dX1_others_100 ?_
          refine lv_bipush (v := 15) hx hb dX1_others_101 (by decide) ?_
          refine lv_icmp_ne (tgt := 121) hx hb dX1_others_103 (by decide) (fun _ => ?_) (fun z => absurd z (by rw [e_68]; decide))
          refine lv_aload_n hx hb dX1_others_121 rfl (lv_at hl 2 rfl) ?_
          refine gg1_get (v := .ref (q 6)) hx hb hts hin hown hK G 6 (by decide) (index := 20) (by decide +kernel) rfl dX1_others_122 ?_
          refine lv_iload_n hx hb dX1_others_125 rfl (lv_at hl 3 rfl) ?_
          refine gg1_ld6 hx hb hK G (i := p0) hst dX1_others_126 ?_
          refine lv_bipush (v := 8) hx hb dX1_others_127 (by decide) ?_
          refine lv_icmp_eq (tgt := 143) hx hb dX1_others_129 (by decide) (fun z => absurd z (by rw [e_68]; decide)) (fun _ => ?_)
          refine lv_aload_n hx hb dX1_others_132 rfl (lv_at hl 2 rfl) ?_
          refine gg1_get (v := .ref (q 6)) hx hb hts hin hown hK G 6 (by decide) (index := 20) (by decide +kernel) rfl dX1_others_133 ?_
          refine lv_iload_n hx hb dX1_others_136 rfl (lv_at hl 3 rfl) ?_
          refine gg1_ld6 hx hb hK G (i := p0) hst dX1_others_137 ?_
          refine lv_bipush (v := 9) hx hb dX1_others_138 (by decide) ?_
          refine lv_icmp_ne (tgt := 151) hx hb dX1_others_140 (by decide) (fun _ => ?_) (fun z => absurd z (by rw [e_68]; decide))
          refine lv_iconst (v := 0) hx hb dX1_others_151 (by decide) ?_
          exact gx_iret (wf := gw1_ cI cZ h q) (u1 := pm_interrupted u) hx hb hr hlocks hsz hK hAe G dX1_others_152 (by unfold pm_others; rw [if_neg c_20, if_neg c_36, if_pos c_52, if_pos c_56])
        · refine lv_aload_n hx hb dX1_others_59 rfl (lv_at hl 2 rfl) ?_
          refine lv_iconst (v := 3) hx hb dX1_others_60 (by decide) ?_
          refine gg1_put14 (v := 3) hx hb hts hin hown hK G (index := 54) (by decide +kernel) dX1_others_61 (fun H locs G => ?_)
          refine lv_goto (tgt := 71) hx hb dX1_others_64 (by decide) ?_
          refine lv_aload_n hx hb dX1_others_71 rfl (lv_at hl 2 rfl) ?_
          refine gg1_get (v := .ref (q 6)) hx hb hts hin hown hK G 6 (by decide) (index := 20) (by decide +kernel) rfl dX1_others_72 ?_
          refine lv_iload_n hx hb dX1_others_75 rfl (lv_at hl 3 rfl) ?_
          refine gg1_ld6 hx hb hK G (i := p0) hst dX1_others_76 ?_
          refine gx_is (y := u.2 6 (ix p0)) (congrFun (st_si_2 _ _ _ _) _) ?_
          refine lv_bipush (v := 11) hx hb dX1_others_77 (by decide) ?_
          refine lv_icmp_ne (tgt := 95) hx hb dX1_others_79 (by decide) (fun _ => ?_) (fun z => absurd z (by rw [c_52]; decide))
          refine lv_aload_n hx hb dX1_others_95 rfl (lv_at hl 2 rfl) ?_
          refine gg1_get (v := .ref (q 6)) hx hb hts hin hown hK G 6 (by decide) (index := 20) (by decide +kernel) rfl dX1_others_96 ?_
          refine lv_iload_n hx hb dX1_others_99 rfl (lv_at hl 3 rfl) ?_
          refine gg1_ld6 hx hb hK G (i := p0) hst dX1_others_100 ?_
          refine gx_is (y := u.2 6 (ix p0)) (congrFun (st_si_2 _ _ _ _) _) ?_
          refine lv_bipush (v := 15) hx hb dX1_others_101 (by decide) ?_
          refine lv_icmp_ne (tgt := 121) hx hb dX1_others_103 (by decide) (fun _ => ?_) (fun z => absurd z (by rw [c_52]; decide))
          refine lv_aload_n hx hb dX1_others_121 rfl (lv_at hl 2 rfl) ?_
          refine gg1_get (v := .ref (q 6)) hx hb hts hin hown hK G 6 (by decide) (index := 20) (by decide +kernel) rfl dX1_others_122 ?_
          refine lv_iload_n hx hb dX1_others_125 rfl (lv_at hl 3 rfl) ?_
          refine gg1_ld6 hx hb hK G (i := p0) hst dX1_others_126 ?_
          refine gx_is (y := u.2 6 (ix p0)) (congrFun (st_si_2 _ _ _ _) _) ?_
          refine lv_bipush (v := 8) hx hb dX1_others_127 (by decide) ?_
          refine lv_icmp_eq (tgt := 143) hx hb dX1_others_129 (by decide) (fun z => absurd z c_36) (fun _ => ?_)
          refine lv_aload_n hx hb dX1_others_132 rfl (lv_at hl 2 rfl) ?_
          refine gg1_get (v := .ref (q 6)) hx hb hts hin hown hK G 6 (by decide) (index := 20) (by decide +kernel) rfl dX1_others_133 ?_
          refine lv_iload_n hx hb dX1_others_136 rfl (lv_at hl 3 rfl) ?_
          refine gg1_ld6 hx hb hK G (i := p0) hst dX1_others_137 ?_
          refine gx_is (y := u.2 6 (ix p0)) (congrFun (st_si_2 _ _ _ _) _) ?_
          refine lv_bipush (v := 9) hx hb dX1_others_138 (by decide) ?_
          refine lv_icmp_ne (tgt := 151) hx hb dX1_others_140 (by decide) (fun _ => ?_) (fun z => absurd z (by rw [c_52]; decide))
          refine lv_iconst (v := 0) hx hb dX1_others_151 (by decide) ?_
          exact gx_iret (wf := gw1_ cI cZ h q) (u1 := st_si u 14 3) hx hb hr hlocks hsz hK hAe G dX1_others_152 (by unfold pm_others; rw [if_neg c_20, if_neg c_36, if_pos c_52, if_neg c_56])
    · refine lv_aload_n hx hb dX1_others_39 rfl (lv_at hl 2 rfl) ?_
      refine lv_iconst (v := 0) hx hb dX1_others_40 (by decide) ?_
      refine gg1_put5 (v := 0) hx hb hts hin hown hK G (index := 61) (by decide +kernel) rfl rfl dX1_others_41 (fun H locs G => ?_)
      refine lv_aload_n hx hb dX1_others_44 rfl (lv_at hl 2 rfl) ?_
      refine gg1_get (v := .ref (q 6)) hx hb hts hin hown hK G 6 (by decide) (index := 20) (by decide +kernel) rfl dX1_others_45 ?_
      refine lv_iload_n hx hb dX1_others_48 rfl (lv_at hl 3 rfl) ?_
      refine gg1_ld6 hx hb hK G (i := p0) hst dX1_others_49 ?_
      refine gx_is (y := u.2 6 (ix p0)) (congrFun (st_si_2 _ _ _ _) _) ?_
      refine lv_bipush (v := 10) hx hb dX1_others_50 (by decide) ?_
      refine lv_icmp_ne (tgt := 71) hx hb dX1_others_52 (by decide) (fun _ => ?_) (fun z => absurd z (by rw [c_36]; decide))
      refine lv_aload_n hx hb dX1_others_71 rfl (lv_at hl 2 rfl) ?_
      refine gg1_get (v := .ref (q 6)) hx hb hts hin hown hK G 6 (by decide) (index := 20) (by decide +kernel) rfl dX1_others_72 ?_
      refine lv_iload_n hx hb dX1_others_75 rfl (lv_at hl 3 rfl) ?_
      refine gg1_ld6 hx hb hK G (i := p0) hst dX1_others_76 ?_
      refine gx_is (y := u.2 6 (ix p0)) (congrFun (st_si_2 _ _ _ _) _) ?_
      refine lv_bipush (v := 11) hx hb dX1_others_77 (by decide) ?_
      refine lv_icmp_ne (tgt := 95) hx hb dX1_others_79 (by decide) (fun _ => ?_) (fun z => absurd z (by rw [c_36]; decide))
      refine lv_aload_n hx hb dX1_others_95 rfl (lv_at hl 2 rfl) ?_
      refine gg1_get (v := .ref (q 6)) hx hb hts hin hown hK G 6 (by decide) (index := 20) (by decide +kernel) rfl dX1_others_96 ?_
      refine lv_iload_n hx hb dX1_others_99 rfl (lv_at hl 3 rfl) ?_
      refine gg1_ld6 hx hb hK G (i := p0) hst dX1_others_100 ?_
      refine gx_is (y := u.2 6 (ix p0)) (congrFun (st_si_2 _ _ _ _) _) ?_
      refine lv_bipush (v := 15) hx hb dX1_others_101 (by decide) ?_
      refine lv_icmp_ne (tgt := 121) hx hb dX1_others_103 (by decide) (fun _ => ?_) (fun z => absurd z (by rw [c_36]; decide))
      refine lv_aload_n hx hb dX1_others_121 rfl (lv_at hl 2 rfl) ?_
      refine gg1_get (v := .ref (q 6)) hx hb hts hin hown hK G 6 (by decide) (index := 20) (by decide +kernel) rfl dX1_others_122 ?_
      refine lv_iload_n hx hb dX1_others_125 rfl (lv_at hl 3 rfl) ?_
      refine gg1_ld6 hx hb hK G (i := p0) hst dX1_others_126 ?_
      refine gx_is (y := u.2 6 (ix p0)) (congrFun (st_si_2 _ _ _ _) _) ?_
      refine lv_bipush (v := 8) hx hb dX1_others_127 (by decide) ?_
      refine lv_icmp_eq (tgt := 143) hx hb dX1_others_129 (by decide) (fun _ => ?_) (fun z => absurd c_36 z)
      refine lv_iload_n hx hb dX1_others_143 rfl (lv_at hl 0 rfl) ?_
      refine lv_if_eq (tgt := 151) hx hb dX1_others_144 (by decide) (fun c_144 => ?_) (fun c_144 => ?_)
      · refine lv_iconst (v := 0) hx hb dX1_others_151 (by decide) ?_
        exact gx_iret (wf := gw1_ cI cZ h q) (u1 := st_si u 5 0) hx hb hr hlocks hsz hK hAe G dX1_others_152 (by unfold pm_others; rw [if_neg c_20, if_pos c_36, if_pos c_144])
      · refine lv_iconst (v := 1) hx hb dX1_others_147 (by decide) ?_
        refine lv_goto (tgt := 152) hx hb dX1_others_148 (by decide) ?_
        exact gx_iret (wf := gw1_ cI cZ h q) (u1 := st_si u 5 0) hx hb hr hlocks hsz hK hAe G dX1_others_152 (by unfold pm_others; rw [if_neg c_20, if_pos c_36, if_neg c_144])
  · refine lv_aload_n hx hb dX1_others_23 rfl (lv_at hl 2 rfl) ?_
    refine lv_iconst (v := 1) hx hb dX1_others_24 (by decide) ?_
    refine gg1_put5 (v := 1) hx hb hts hin hown hK G (index := 61) (by decide +kernel) rfl rfl dX1_others_25 (fun H locs G => ?_)
    refine lv_aload_n hx hb dX1_others_28 rfl (lv_at hl 2 rfl) ?_
    refine gg1_get (v := .ref (q 6)) hx hb hts hin hown hK G 6 (by decide) (index := 20) (by decide +kernel) rfl dX1_others_29 ?_
    refine lv_iload_n hx hb dX1_others_32 rfl (lv_at hl 3 rfl) ?_
    refine gg1_ld6 hx hb hK G (i := p0) hst dX1_others_33 ?_
    refine gx_is (y := u.2 6 (ix p0)) (congrFun (st_si_2 _ _ _ _) _) ?_
    refine lv_bipush (v := 8) hx hb dX1_others_34 (by decide) ?_
    refine lv_icmp_ne (tgt := 44) hx hb dX1_others_36 (by decide) (fun _ => ?_) (fun z => absurd z (by rw [c_20]; decide))
    refine lv_aload_n hx hb dX1_others_44 rfl (lv_at hl 2 rfl) ?_
    refine gg1_get (v := .ref (q 6)) hx hb hts hin hown hK G 6 (by decide) (index := 20) (by decide +kernel) rfl dX1_others_45 ?_
    refine lv_iload_n hx hb dX1_others_48 rfl (lv_at hl 3 rfl) ?_
    refine gg1_ld6 hx hb hK G (i := p0) hst dX1_others_49 ?_
    refine gx_is (y := u.2 6 (ix p0)) (congrFun (st_si_2 _ _ _ _) _) ?_
    refine lv_bipush (v := 10) hx hb dX1_others_50 (by decide) ?_
    refine lv_icmp_ne (tgt := 71) hx hb dX1_others_52 (by decide) (fun _ => ?_) (fun z => absurd z (by rw [c_20]; decide))
    refine lv_aload_n hx hb dX1_others_71 rfl (lv_at hl 2 rfl) ?_
    refine gg1_get (v := .ref (q 6)) hx hb hts hin hown hK G 6 (by decide) (index := 20) (by decide +kernel) rfl dX1_others_72 ?_
    refine lv_iload_n hx hb dX1_others_75 rfl (lv_at hl 3 rfl) ?_
    refine gg1_ld6 hx hb hK G (i := p0) hst dX1_others_76 ?_
    refine gx_is (y := u.2 6 (ix p0)) (congrFun (st_si_2 _ _ _ _) _) ?_
    refine lv_bipush (v := 11) hx hb dX1_others_77 (by decide) ?_
    refine lv_icmp_ne (tgt := 95) hx hb dX1_others_79 (by decide) (fun _ => ?_) (fun z => absurd z (by rw [c_20]; decide))
    refine lv_aload_n hx hb dX1_others_95 rfl (lv_at hl 2 rfl) ?_
    refine gg1_get (v := .ref (q 6)) hx hb hts hin hown hK G 6 (by decide) (index := 20) (by decide +kernel) rfl dX1_others_96 ?_
    refine lv_iload_n hx hb dX1_others_99 rfl (lv_at hl 3 rfl) ?_
    refine gg1_ld6 hx hb hK G (i := p0) hst dX1_others_100 ?_
    refine gx_is (y := u.2 6 (ix p0)) (congrFun (st_si_2 _ _ _ _) _) ?_
    refine lv_bipush (v := 15) hx hb dX1_others_101 (by decide) ?_
    refine lv_icmp_ne (tgt := 121) hx hb dX1_others_103 (by decide) (fun _ => ?_) (fun z => absurd z (by rw [c_20]; decide))
    refine lv_aload_n hx hb dX1_others_121 rfl (lv_at hl 2 rfl) ?_
    refine gg1_get (v := .ref (q 6)) hx hb hts hin hown hK G 6 (by decide) (index := 20) (by decide +kernel) rfl dX1_others_122 ?_
    refine lv_iload_n hx hb dX1_others_125 rfl (lv_at hl 3 rfl) ?_
    refine gg1_ld6 hx hb hK G (i := p0) hst dX1_others_126 ?_
    refine gx_is (y := u.2 6 (ix p0)) (congrFun (st_si_2 _ _ _ _) _) ?_
    refine lv_bipush (v := 8) hx hb dX1_others_127 (by decide) ?_
    refine lv_icmp_eq (tgt := 143) hx hb dX1_others_129 (by decide) (fun z => absurd z (by rw [c_20]; decide)) (fun _ => ?_)
    refine lv_aload_n hx hb dX1_others_132 rfl (lv_at hl 2 rfl) ?_
    refine gg1_get (v := .ref (q 6)) hx hb hts hin hown hK G 6 (by decide) (index := 20) (by decide +kernel) rfl dX1_others_133 ?_
    refine lv_iload_n hx hb dX1_others_136 rfl (lv_at hl 3 rfl) ?_
    refine gg1_ld6 hx hb hK G (i := p0) hst dX1_others_137 ?_
    refine gx_is (y := u.2 6 (ix p0)) (congrFun (st_si_2 _ _ _ _) _) ?_
    refine lv_bipush (v := 9) hx hb dX1_others_138 (by decide) ?_
    refine lv_icmp_ne (tgt := 151) hx hb dX1_others_140 (by decide) (fun _ => ?_) (fun z => absurd z (by rw [c_20]; decide))
    refine lv_iconst (v := 0) hx hb dX1_others_151 (by decide) ?_
    exact gx_iret (wf := gw1_ cI cZ h q) (u1 := st_si u 5 1) hx hb hr hlocks hsz hK hAe G dX1_others_152 (by unfold pm_others; rw [if_pos c_20])
theorem hd_X1_others : yX1_others.cls = RX1 ∧ yX1_others.cls ≠ "java/lang/invoke/MethodHandle" ∧ yX1_others.cls ≠ "java/lang/invoke/VarHandle" ∧ (parseMethodDescriptor yX1_others.desc).map (fun d => d.parameters.length) = some 1 := by decide +kernel
def pm_work (u : st_T) (p0 : Int32) : Int32 × st_T :=
  if u.2 6 (ix p0) = 0 then
    ((pm_close u).1, (pm_close u).2)
  else
    if u.2 6 (ix p0) = 1 then
      ((pm_enter u p0).1, (pm_enter u p0).2)
    else
      if u.2 6 (ix p0) = 2 then
        (0, st_si (st_sa u 12 (ix (u.1 13)) p0) 13 ((u.1 13) + 1))
      else
        if u.2 6 (ix p0) = 3 then
          (0, (pm_monitor u p0 0).2)
        else
          if u.2 6 (ix p0) = 4 then
            (0, (pm_monitor u p0 0).2)
          else
            if u.2 6 (ix p0) = 5 then
              if ((pm_monitor u p0 1).2).2 1 (ix ((pm_monitor u p0 1).1)) ≤ 0 then
                (0, (pm_monitor u p0 1).2)
              else
                (1, (pm_monitor u p0 1).2)
            else
              if u.2 6 (ix p0) = 6 then
                ((pm_pause u p0).1, (pm_pause u p0).2)
              else
                if u.2 6 (ix p0) < 12 then
                  ((pm_others u p0).1, (pm_others u p0).2)
                else
                  if 14 < u.2 6 (ix p0) then
                    ((pm_others u p0).1, (pm_others u p0).2)
                  else
                    ((pm_thread u p0).1, (pm_thread u p0).2)
set_option maxHeartbeats 4000000 in
set_option maxRecDepth 100000 in
theorem km_work (l : Launch) (dC : Nat → ClassId) (dI : Nat → Nat → Nat) (cI cZ : ClassId) (h : Nat) (q : Nat → Nat) (sz : Nat) (u : st_T) (p0 : Int32) (hst : vp_in p0 24) (hlk : ∀ j : Nat, j < 5 → vp_in (u.2 0 j) 520) (hbk : ∀ j : Nat, j < 8 → vp_in (u.2 12 j) 24) (hcl : u.2 6 (ix p0) = 0 → vp_in (u.1 13 - 1) 8) (hop : u.2 6 (ix p0) = 1 ∨ u.2 6 (ix p0) = 2 → vp_in (u.1 13) 8) : gx_Mi l yX1_work wsX1_work { frames := 4, cells := 0, slots := 0, locals := 87 } [.ref h, .int p0] (dC, dI) cI cZ (gw1_ cI cZ h q) u sz (pm_work u p0) := by
  refine gx_met (cc := cX1_work) (maxL := 4) (ret := (some .int)) (by decide +kernel) rfl (Nat.le_of_ble_eq_true rfl) (fun p e s m args below meth c A ls hsz hx hb hr hlocks hts hown hml hK hAe hA G hl => ?_)
  have hown : s.vm.findClass RX1 = some m.cls := hown
  have hin : ∀ w ∈ wsX10, w ∈ wsX1_work := gx_in
  have hl : lv_has ls 4 [(0, .ref h), (1, .int p0)] := hl
  refine lv_aload_n hx hb dX1_work_0 rfl (lv_at hl 0 rfl) ?_
  refine gg1_get (v := .ref (q 6)) hx hb hts hin hown hK G 6 (by decide) (index := 20) (by decide +kernel) rfl dX1_work_1 ?_
  refine lv_iload_n hx hb dX1_work_4 rfl (lv_at hl 1 rfl) ?_
  refine gg1_ld6 hx hb hK G (i := p0) hst dX1_work_5 ?_
  refine lv_istore_n (lv' := [(2, .int (u.2 6 (ix p0))), (0, .ref h), (1, .int p0)]) hx hb dX1_work_6 rfl hl (by decide) rfl (fun ls hl => ?_)
  refine lv_iload_n hx hb dX1_work_7 rfl (lv_at hl 0 rfl) ?_
  refine lv_if_ne (tgt := 16) hx hb dX1_work_8 (by decide) (fun c_8 => ?_) (fun c_8 => ?_)
  · refine lv_iload_n hx hb dX1_work_16 rfl (lv_at hl 0 rfl) ?_
    refine lv_iconst (v := 1) hx hb dX1_work_17 (by decide) ?_
    refine lv_icmp_ne (tgt := 27) hx hb dX1_work_18 (by decide) (fun c_18 => ?_) (fun c_18 => ?_)
    · refine lv_iload_n hx hb dX1_work_27 rfl (lv_at hl 0 rfl) ?_
      refine lv_iconst (v := 2) hx hb dX1_work_28 (by decide) ?_
      refine lv_icmp_ne (tgt := 54) hx hb dX1_work_29 (by decide) (fun c_29 => ?_) (fun c_29 => ?_)
      · refine lv_iload_n hx hb dX1_work_54 rfl (lv_at hl 0 rfl) ?_
        refine lv_iconst (v := 3) hx hb dX1_work_55 (by decide) ?_
        refine lv_icmp_eq (tgt := 64) hx hb dX1_work_56 (by decide) (fun c_56 => ?_) (fun c_56 => ?_)
        · refine lv_aload_n hx hb dX1_work_64 rfl (lv_at hl 1 rfl) ?_
          refine lv_iload_n hx hb dX1_work_65 rfl (lv_at hl 2 rfl) ?_
          refine lv_iconst (v := 0) hx hb dX1_work_66 (by decide) ?_
          refine gx_calli (wf := gw1_ cI cZ h q) (u := u) (f := pm_monitor u p0 0) (As := [.int p0, .int 0]) (rest := []) 2 hx hb hml hown hts hK hA G rfl rfl (km_monitor l dC dI cI cZ h q _ u p0 0 hst hlk) gX1_work_X1_monitor rfl rfl rfl hd_X1_monitor ⟨Nat.le_of_ble_eq_true rfl, Nat.le_of_ble_eq_true rfl⟩ rfl hl.1 rfl (Nat.le_of_ble_eq_true rfl) dX1_work_67 (Nat.zero_le _) (Nat.zero_le _) (fun H locs G => ?_)
          refine lv_istore_n (lv' := [(3, .int ((pm_monitor u p0 0).1)), (2, .int (u.2 6 (ix p0))), (0, .ref h), (1, .int p0)]) hx hb dX1_work_70 rfl hl (by decide) rfl (fun ls hl => ?_)
          refine lv_iconst (v := 0) hx hb dX1_work_71 (by decide) ?_
          exact gx_iret (wf := gw1_ cI cZ h q) (u1 := (pm_monitor u p0 0).2) hx hb hr hlocks hsz hK hAe G dX1_work_72 (by unfold pm_work; rw [if_neg c_8, if_neg c_18, if_neg c_29, if_pos c_56])
        · refine lv_iload_n hx hb dX1_work_59 rfl (lv_at hl 0 rfl) ?_
          refine lv_iconst (v := 4) hx hb dX1_work_60 (by decide) ?_
          refine lv_icmp_ne (tgt := 73) hx hb dX1_work_61 (by decide) (fun c_61 => ?_) (fun c_61 => ?_)
          · refine lv_iload_n hx hb dX1_work_73 rfl (lv_at hl 0 rfl) ?_
            refine lv_iconst (v := 5) hx hb dX1_work_74 (by decide) ?_
            refine lv_icmp_ne (tgt := 100) hx hb dX1_work_75 (by decide) (fun c_75 => ?_) (fun c_75 => ?_)
            · refine lv_iload_n hx hb dX1_work_100 rfl (lv_at hl 0 rfl) ?_
              refine lv_bipush (v := 6) hx hb dX1_work_101 (by decide) ?_
              refine lv_icmp_ne (tgt := 112) hx hb dX1_work_103 (by decide) (fun c_103 => ?_) (fun c_103 => ?_)
              · refine lv_iload_n hx hb dX1_work_112 rfl (lv_at hl 0 rfl) ?_
                refine lv_bipush (v := 12) hx hb dX1_work_113 (by decide) ?_
                refine lv_icmp_lt (tgt := 132) hx hb dX1_work_115 (by decide) (fun c_115 => ?_) (fun c_115 => ?_)
                · refine lv_aload_n hx hb dX1_work_132 rfl (lv_at hl 1 rfl) ?_
                  refine lv_iload_n hx hb dX1_work_133 rfl (lv_at hl 2 rfl) ?_
                  refine gx_calli (wf := gw1_ cI cZ h q) (u := u) (f := pm_others u p0) (As := [.int p0]) (rest := []) 1 hx hb hml hown hts hK hA G rfl rfl (km_others l dC dI cI cZ h q _ u p0 hst) gX1_work_X1_others rfl rfl rfl hd_X1_others ⟨Nat.le_of_ble_eq_true rfl, Nat.le_of_ble_eq_true rfl⟩ rfl hl.1 rfl (Nat.le_of_ble_eq_true rfl) dX1_work_134 (Nat.zero_le _) (Nat.zero_le _) (fun H locs G => ?_)
                  exact gx_iret (wf := gw1_ cI cZ h q) (u1 := (pm_others u p0).2) hx hb hr hlocks hsz hK hAe G dX1_work_137 (by unfold pm_work; rw [if_neg c_8, if_neg c_18, if_neg c_29, if_neg c_56, if_neg c_61, if_neg c_75, if_neg c_103, if_pos c_115])
                · refine lv_iload_n hx hb dX1_work_118 rfl (lv_at hl 0 rfl) ?_
                  refine lv_bipush (v := 14) hx hb dX1_work_119 (by decide) ?_
                  refine lv_icmp_gt (tgt := 132) hx hb dX1_work_121 (by decide) (fun c_121 => ?_) (fun c_121 => ?_)
                  · refine lv_aload_n hx hb dX1_work_132 rfl (lv_at hl 1 rfl) ?_
                    refine lv_iload_n hx hb dX1_work_133 rfl (lv_at hl 2 rfl) ?_
                    refine gx_calli (wf := gw1_ cI cZ h q) (u := u) (f := pm_others u p0) (As := [.int p0]) (rest := []) 1 hx hb hml hown hts hK hA G rfl rfl (km_others l dC dI cI cZ h q _ u p0 hst) gX1_work_X1_others rfl rfl rfl hd_X1_others ⟨Nat.le_of_ble_eq_true rfl, Nat.le_of_ble_eq_true rfl⟩ rfl hl.1 rfl (Nat.le_of_ble_eq_true rfl) dX1_work_134 (Nat.zero_le _) (Nat.zero_le _) (fun H locs G => ?_)
                    exact gx_iret (wf := gw1_ cI cZ h q) (u1 := (pm_others u p0).2) hx hb hr hlocks hsz hK hAe G dX1_work_137 (by unfold pm_work; rw [if_neg c_8, if_neg c_18, if_neg c_29, if_neg c_56, if_neg c_61, if_neg c_75, if_neg c_103, if_neg c_115, if_pos c_121])
                  · refine lv_aload_n hx hb dX1_work_124 rfl (lv_at hl 1 rfl) ?_
                    refine lv_iload_n hx hb dX1_work_125 rfl (lv_at hl 2 rfl) ?_
                    refine gx_calli (wf := gw1_ cI cZ h q) (u := u) (f := pm_thread u p0) (As := [.int p0]) (rest := []) 1 hx hb hml hown hts hK hA G rfl rfl (km_thread l dC dI cI cZ h q _ u p0 hst) gX1_work_X1_thread rfl rfl rfl hd_X1_thread ⟨Nat.le_of_ble_eq_true rfl, Nat.le_of_ble_eq_true rfl⟩ rfl hl.1 rfl (Nat.le_of_ble_eq_true rfl) dX1_work_126 (Nat.zero_le _) (Nat.zero_le _) (fun H locs G => ?_)
                    refine lv_goto (tgt := 137) hx hb dX1_work_129 (by decide) ?_
                    exact gx_iret (wf := gw1_ cI cZ h q) (u1 := (pm_thread u p0).2) hx hb hr hlocks hsz hK hAe G dX1_work_137 (by unfold pm_work; rw [if_neg c_8, if_neg c_18, if_neg c_29, if_neg c_56, if_neg c_61, if_neg c_75, if_neg c_103, if_neg c_115, if_neg c_121])
              · refine lv_aload_n hx hb dX1_work_106 rfl (lv_at hl 1 rfl) ?_
                refine lv_iload_n hx hb dX1_work_107 rfl (lv_at hl 2 rfl) ?_
                refine gx_calli (wf := gw1_ cI cZ h q) (u := u) (f := pm_pause u p0) (As := [.int p0]) (rest := []) 1 hx hb hml hown hts hK hA G rfl rfl (km_pause l dC dI cI cZ h q _ u p0 hst hlk) gX1_work_X1_pause rfl rfl rfl hd_X1_pause ⟨Nat.le_of_ble_eq_true rfl, Nat.le_of_ble_eq_true rfl⟩ rfl hl.1 rfl (Nat.le_of_ble_eq_true rfl) dX1_work_108 (Nat.zero_le _) (Nat.zero_le _) (fun H locs G => ?_)
                exact gx_iret (wf := gw1_ cI cZ h q) (u1 := (pm_pause u p0).2) hx hb hr hlocks hsz hK hAe G dX1_work_111 (by unfold pm_work; rw [if_neg c_8, if_neg c_18, if_neg c_29, if_neg c_56, if_neg c_61, if_neg c_75, if_pos c_103])
            · refine lv_aload_n hx hb dX1_work_78 rfl (lv_at hl 1 rfl) ?_
              refine lv_iload_n hx hb dX1_work_79 rfl (lv_at hl 2 rfl) ?_
              refine lv_iconst (v := 1) hx hb dX1_work_80 (by decide) ?_
              refine gx_calli (wf := gw1_ cI cZ h q) (u := u) (f := pm_monitor u p0 1) (As := [.int p0, .int 1]) (rest := []) 2 hx hb hml hown hts hK hA G rfl rfl (km_monitor l dC dI cI cZ h q _ u p0 1 hst hlk) gX1_work_X1_monitor rfl rfl rfl hd_X1_monitor ⟨Nat.le_of_ble_eq_true rfl, Nat.le_of_ble_eq_true rfl⟩ rfl hl.1 rfl (Nat.le_of_ble_eq_true rfl) dX1_work_81 (Nat.zero_le _) (Nat.zero_le _) (fun H locs G => ?_)
              refine lv_istore_n (lv' := [(3, .int ((pm_monitor u p0 1).1)), (2, .int (u.2 6 (ix p0))), (0, .ref h), (1, .int p0)]) hx hb dX1_work_84 rfl hl (by decide) rfl (fun ls hl => ?_)
              refine lv_aload_n hx hb dX1_work_85 rfl (lv_at hl 2 rfl) ?_
              refine gg1_get (v := .ref (q 1)) hx hb hts hin hown hK G 1 (by decide) (index := 13) (by decide +kernel) rfl dX1_work_86 ?_
              refine lv_iload_n hx hb dX1_work_89 rfl (lv_at hl 0 rfl) ?_
              refine gg1_ld1 hx hb hK G (i := (pm_monitor u p0 1).1) (mn_in hlk) dX1_work_90 ?_
              refine lv_if_le (tgt := 98) hx hb dX1_work_91 (by decide) (fun c_91 => ?_) (fun c_91 => ?_)
              · refine lv_iconst (v := 0) hx hb dX1_work_98 (by decide) ?_
                exact gx_iret (wf := gw1_ cI cZ h q) (u1 := (pm_monitor u p0 1).2) hx hb hr hlocks hsz hK hAe G dX1_work_99 (by unfold pm_work; rw [if_neg c_8, if_neg c_18, if_neg c_29, if_neg c_56, if_neg c_61, if_pos c_75, if_pos c_91])
              · refine lv_iconst (v := 1) hx hb dX1_work_94 (by decide) ?_
                refine lv_goto (tgt := 99) hx hb dX1_work_95 (by decide) ?_
                exact gx_iret (wf := gw1_ cI cZ h q) (u1 := (pm_monitor u p0 1).2) hx hb hr hlocks hsz hK hAe G dX1_work_99 (by unfold pm_work; rw [if_neg c_8, if_neg c_18, if_neg c_29, if_neg c_56, if_neg c_61, if_pos c_75, if_neg c_91])
          · refine lv_aload_n hx hb dX1_work_64 rfl (lv_at hl 1 rfl) ?_
            refine lv_iload_n hx hb dX1_work_65 rfl (lv_at hl 2 rfl) ?_
            refine lv_iconst (v := 0) hx hb dX1_work_66 (by decide) ?_
            refine gx_calli (wf := gw1_ cI cZ h q) (u := u) (f := pm_monitor u p0 0) (As := [.int p0, .int 0]) (rest := []) 2 hx hb hml hown hts hK hA G rfl rfl (km_monitor l dC dI cI cZ h q _ u p0 0 hst hlk) gX1_work_X1_monitor rfl rfl rfl hd_X1_monitor ⟨Nat.le_of_ble_eq_true rfl, Nat.le_of_ble_eq_true rfl⟩ rfl hl.1 rfl (Nat.le_of_ble_eq_true rfl) dX1_work_67 (Nat.zero_le _) (Nat.zero_le _) (fun H locs G => ?_)
            refine lv_istore_n (lv' := [(3, .int ((pm_monitor u p0 0).1)), (2, .int (u.2 6 (ix p0))), (0, .ref h), (1, .int p0)]) hx hb dX1_work_70 rfl hl (by decide) rfl (fun ls hl => ?_)
            refine lv_iconst (v := 0) hx hb dX1_work_71 (by decide) ?_
            exact gx_iret (wf := gw1_ cI cZ h q) (u1 := (pm_monitor u p0 0).2) hx hb hr hlocks hsz hK hAe G dX1_work_72 (by unfold pm_work; rw [if_neg c_8, if_neg c_18, if_neg c_29, if_neg c_56, if_pos c_61])
      · refine lv_aload_n hx hb dX1_work_32 rfl (lv_at hl 1 rfl) ?_
        refine gg1_get (v := .ref (q 12)) hx hb hts hin hown hK G 12 (by decide) (index := 29) (by decide +kernel) rfl dX1_work_33 ?_
        refine lv_aload_n hx hb dX1_work_36 rfl (lv_at hl 1 rfl) ?_
        refine gg1_get (v := .int (u.1 13)) hx hb hts hin hown hK G 13 (by decide) (index := 65) (by decide +kernel) rfl dX1_work_37 ?_
        refine lv_iload_n hx hb dX1_work_40 rfl (lv_at hl 2 rfl) ?_
        refine gg1_st12 hx hb hK G (i := u.1 13) (x := p0) (hop (Or.inr c_29)) dX1_work_41 (fun H locs G => ?_)
        refine lv_aload_n hx hb dX1_work_42 rfl (lv_at hl 1 rfl) ?_
        refine lv_dup hx hb dX1_work_43 rfl ?_
        refine gg1_get (v := .int (u.1 13)) hx hb hts hin hown hK G 13 (by decide) (index := 65) (by decide +kernel) rfl dX1_work_44 ?_
        refine lv_iconst (v := 1) hx hb dX1_work_47 (by decide) ?_
        refine lv_iadd hx hb dX1_work_48 ?_
        refine gg1_put13 (v := (u.1 13) + 1) hx hb hts hin hown hK G (index := 65) (by decide +kernel) dX1_work_49 (fun H locs G => ?_)
        refine lv_iconst (v := 0) hx hb dX1_work_52 (by decide) ?_
        exact gx_iret (wf := gw1_ cI cZ h q) (u1 := st_si (st_sa u 12 (ix (u.1 13)) p0) 13 ((u.1 13) + 1)) hx hb hr hlocks hsz hK hAe G dX1_work_53 (by unfold pm_work; rw [if_neg c_8, if_neg c_18, if_pos c_29])
    · refine lv_aload_n hx hb dX1_work_21 rfl (lv_at hl 1 rfl) ?_
      refine lv_iload_n hx hb dX1_work_22 rfl (lv_at hl 2 rfl) ?_
      refine gx_calli (wf := gw1_ cI cZ h q) (u := u) (f := pm_enter u p0) (As := [.int p0]) (rest := []) 1 hx hb hml hown hts hK hA G rfl rfl (km_enter l dC dI cI cZ h q _ u p0 hst hlk (hop (Or.inl c_18))) gX1_work_X1_enter rfl rfl rfl hd_X1_enter ⟨Nat.le_of_ble_eq_true rfl, Nat.le_of_ble_eq_true rfl⟩ rfl hl.1 rfl (Nat.le_of_ble_eq_true rfl) dX1_work_23 (Nat.zero_le _) (Nat.zero_le _) (fun H locs G => ?_)
      exact gx_iret (wf := gw1_ cI cZ h q) (u1 := (pm_enter u p0).2) hx hb hr hlocks hsz hK hAe G dX1_work_26 (by unfold pm_work; rw [if_neg c_8, if_pos c_18])
  · refine lv_aload_n hx hb dX1_work_11 rfl (lv_at hl 1 rfl) ?_
    refine gx_calli (wf := gw1_ cI cZ h q) (u := u) (f := pm_close u) (As := []) (rest := []) 0 hx hb hml hown hts hK hA G rfl rfl (km_close l dC dI cI cZ h q _ u  (hcl c_8) hbk hlk) gX1_work_X1_close rfl rfl rfl hd_X1_close ⟨Nat.le_of_ble_eq_true rfl, Nat.le_of_ble_eq_true rfl⟩ rfl hl.1 rfl (Nat.le_of_ble_eq_true rfl) dX1_work_12 (Nat.zero_le _) (Nat.zero_le _) (fun H locs G => ?_)
    exact gx_iret (wf := gw1_ cI cZ h q) (u1 := (pm_close u).2) hx hb hr hlocks hsz hK hAe G dX1_work_15 (by unfold pm_work; rw [if_pos c_8])
theorem hd_X1_work : yX1_work.cls = RX1 ∧ yX1_work.cls ≠ "java/lang/invoke/MethodHandle" ∧ yX1_work.cls ≠ "java/lang/invoke/VarHandle" ∧ (parseMethodDescriptor yX1_work.desc).map (fun d => d.parameters.length) = some 1 := by decide +kernel
def pm_bh (u : st_T) : Nat → Int32 → Int32 → Int32
  | 0, _, _ => u.1 8
  | n + 1, d, i => if u.1 8 ≤ i then u.1 8 else if u.2 6 (ix i) = 1 then pm_bh u n (d + 1) (i + 1) else if u.2 6 (ix i) = 2 then pm_bh u n (d + 1) (i + 1) else if u.2 6 (ix i) = 0 then (if d + (-1) = 0 then i + 1 else pm_bh u n (d + (-1)) (i + 1)) else pm_bh u n d (i + 1)
theorem pm_bh_s (u : st_T) (n : Nat) (d i : Int32) : pm_bh u (n + 1) d i = if u.1 8 ≤ i then u.1 8 else if u.2 6 (ix i) = 1 then pm_bh u n (d + 1) (i + 1) else if u.2 6 (ix i) = 2 then pm_bh u n (d + 1) (i + 1) else if u.2 6 (ix i) = 0 then (if d + (-1) = 0 then i + 1 else pm_bh u n (d + (-1)) (i + 1)) else pm_bh u n d (i + 1) := rfl
def pm_behind (u : st_T) (p0 : Int32) : Int32 := pm_bh u 25 0 p0
set_option maxHeartbeats 4000000 in
set_option maxRecDepth 100000 in
theorem km_behind (l : Launch) (dC : Nat → ClassId) (dI : Nat → Nat → Nat) (cI cZ : ClassId) (h : Nat) (q : Nat → Nat) (sz : Nat) (u : st_T) (p0 : Int32) (hst : vp_in p0 24) (hst8 : (u.1 8).toInt ≤ 24) : gx_Mi l yX1_behind wsX1_behind { frames := 0, cells := 0, slots := 0, locals := 0 } [.ref h, .int p0] (dC, dI) cI cZ (gw1_ cI cZ h q) u sz (pm_behind u p0, u) := by
  refine gx_met (cc := cX1_behind) (maxL := 4) (ret := (some .int)) (by decide +kernel) rfl (Nat.le_of_ble_eq_true rfl) (fun p e s m args below meth c A ls hsz hx hb hr hlocks hts hown hml hK hAe hA G hl => ?_)
  have hown : s.vm.findClass RX1 = some m.cls := hown
  have hin : ∀ w ∈ wsX10, w ∈ wsX1_behind := gx_in
  have hl : lv_has ls 4 [(0, .ref h), (1, .int p0)] := hl
  have hp2 := vp_in_iff.mp hst
  have loop : ∀ (n : Nat) (d i : Int32), 0 ≤ i.toInt → i.toInt ≤ 24 → 24 - i.toInt < n → pm_behind u p0 = pm_bh u n d i → ∀ (H : Heap) (locs : List Loc) (ls : Array Slot), gx_ (dC, dI) A s.heap H locs (gw1_ cI cZ h q u) → lv_has ls 4 [(3, .int i), (2, .int d), (0, .ref h), (1, .int p0)] → W p l e { frames := 0, cells := 0, slots := 0, locals := 0 } s m args below meth c H locs 0 0 (MQ below (va_Qi (fun r u1 => r = (pm_behind u p0, u).1 ∧ u1 = (pm_behind u p0, u).2) (gx_O (dC, dI) cI cZ (gw1_ cI cZ h q) (gw1_ cI cZ h q u) sz) (va_A (gw1_ cI cZ h q u) sz)) args s 0 0 (va_A (gw1_ cI cZ h q u) sz)) (F0 m 4 ls []) := by
    intro n
    induction n with
    | zero => intro d i h1 h2 h3; exact absurd h3 (by omega)
    | succ n ih =>
      intro d i hi0 hi24 hin2 hf H locs ls G hl
      rw [pm_bh_s u n d i] at hf
      refine lv_iload_n hx hb dX1_behind_4 rfl (lv_at hl 0 rfl) ?_
      refine lv_aload_n hx hb dX1_behind_5 rfl (lv_at hl 2 rfl) ?_
      refine gg1_get (v := .int (u.1 8)) hx hb hts hin hown hK G 8 (by decide) (index := 40) (by decide +kernel) rfl dX1_behind_6 ?_
      refine lv_icmp_ge (tgt := 61) hx hb dX1_behind_9 (by decide) (fun c_9 => ?_) (fun c_9 => ?_)
      · refine lv_aload_n hx hb dX1_behind_61 rfl (lv_at hl 2 rfl) ?_
        refine gg1_get (v := .int (u.1 8)) hx hb hts hin hown hK G 8 (by decide) (index := 40) (by decide +kernel) rfl dX1_behind_62 ?_
        exact gx_iret (wf := gw1_ cI cZ h q) (u1 := u) hx hb hr hlocks hsz hK hAe G dX1_behind_65 (congrArg (fun z => (z, u)) (by rw [hf, if_pos c_9]))
      · refine lv_aload_n hx hb dX1_behind_12 rfl (lv_at hl 2 rfl) ?_
        refine gg1_get (v := .ref (q 6)) hx hb hts hin hown hK G 6 (by decide) (index := 20) (by decide +kernel) rfl dX1_behind_13 ?_
        refine lv_iload_n hx hb dX1_behind_16 rfl (lv_at hl 0 rfl) ?_
        refine gg1_ld6 hx hb hK G (i := i) (vp_in_iff.mpr (by have q4 := c_9; rw [Int32.le_iff_toInt_le] at q4; omega)) dX1_behind_17 ?_
        refine lv_iconst (v := 1) hx hb dX1_behind_18 (by decide) ?_
        refine lv_icmp_eq (tgt := 32) hx hb dX1_behind_19 (by decide) (fun c_19 => ?_) (fun c_19 => ?_)
        · refine lv_iinc (v := d + 1) (lv' := [(2, .int (d + 1)), (3, .int i), (0, .ref h), (1, .int p0)]) hx hb dX1_behind_32 hl (k := 1) rfl (congrArg (fun z => d + z) (by decide)) (by decide) rfl (fun ls hl => ?_)
          refine lv_aload_n hx hb dX1_behind_35 rfl (lv_at hl 2 rfl) ?_
          refine gg1_get (v := .ref (q 6)) hx hb hts hin hown hK G 6 (by decide) (index := 20) (by decide +kernel) rfl dX1_behind_36 ?_
          refine lv_iload_n hx hb dX1_behind_39 rfl (lv_at hl 1 rfl) ?_
          refine gg1_ld6 hx hb hK G (i := i) (vp_in_iff.mpr (by have q4 := c_9; rw [Int32.le_iff_toInt_le] at q4; omega)) dX1_behind_40 ?_
          refine lv_if_ne (tgt := 55) hx hb dX1_behind_41 (by decide) (fun _ => ?_) (fun z => absurd z (by rw [c_19]; decide))
          refine lv_iinc (v := i + 1) (lv' := [(3, .int (i + 1)), (2, .int (d + 1)), (0, .ref h), (1, .int p0)]) hx hb dX1_behind_55 hl (k := 1) rfl (congrArg (fun z => i + z) (by decide)) (by decide) rfl (fun ls hl => ?_)
          refine lv_goto (tgt := 4) hx hb dX1_behind_58 (by decide) ?_
          have q4 := c_9
          rw [Int32.le_iff_toInt_le] at q4
          have q5 := lh_toInt1 (i := i) (by omega) hi0
          exact ih (d + 1) (i + 1) (by omega) (by omega) (by omega) (by rw [hf, if_neg c_9, if_pos c_19]) H locs ls G (lv_sub hl [0, 1, 2, 3] rfl)
        · refine lv_aload_n hx hb dX1_behind_22 rfl (lv_at hl 2 rfl) ?_
          refine gg1_get (v := .ref (q 6)) hx hb hts hin hown hK G 6 (by decide) (index := 20) (by decide +kernel) rfl dX1_behind_23 ?_
          refine lv_iload_n hx hb dX1_behind_26 rfl (lv_at hl 0 rfl) ?_
          refine gg1_ld6 hx hb hK G (i := i) (vp_in_iff.mpr (by have q4 := c_9; rw [Int32.le_iff_toInt_le] at q4; omega)) dX1_behind_27 ?_
          refine lv_iconst (v := 2) hx hb dX1_behind_28 (by decide) ?_
          refine lv_icmp_ne (tgt := 35) hx hb dX1_behind_29 (by decide) (fun c_29 => ?_) (fun c_29 => ?_)
          · refine lv_aload_n hx hb dX1_behind_35 rfl (lv_at hl 2 rfl) ?_
            refine gg1_get (v := .ref (q 6)) hx hb hts hin hown hK G 6 (by decide) (index := 20) (by decide +kernel) rfl dX1_behind_36 ?_
            refine lv_iload_n hx hb dX1_behind_39 rfl (lv_at hl 0 rfl) ?_
            refine gg1_ld6 hx hb hK G (i := i) (vp_in_iff.mpr (by have q4 := c_9; rw [Int32.le_iff_toInt_le] at q4; omega)) dX1_behind_40 ?_
            refine lv_if_ne (tgt := 55) hx hb dX1_behind_41 (by decide) (fun c_41 => ?_) (fun c_41 => ?_)
            · refine lv_iinc (v := i + 1) (lv' := [(3, .int (i + 1)), (2, .int d), (0, .ref h), (1, .int p0)]) hx hb dX1_behind_55 hl (k := 0) rfl (congrArg (fun z => i + z) (by decide)) (by decide) rfl (fun ls hl => ?_)
              refine lv_goto (tgt := 4) hx hb dX1_behind_58 (by decide) ?_
              have q4 := c_9
              rw [Int32.le_iff_toInt_le] at q4
              have q5 := lh_toInt1 (i := i) (by omega) hi0
              exact ih (d) (i + 1) (by omega) (by omega) (by omega) (by rw [hf, if_neg c_9, if_neg c_19, if_neg c_29, if_neg c_41]) H locs ls G (lv_sub hl [0, 1, 2, 3] rfl)
            · refine lv_iinc (v := d + (-1)) (lv' := [(2, .int (d + (-1))), (3, .int i), (0, .ref h), (1, .int p0)]) hx hb dX1_behind_44 hl (k := 1) rfl (congrArg (fun z => d + z) (by decide)) (by decide) rfl (fun ls hl => ?_)
              refine lv_iload_n hx hb dX1_behind_47 rfl (lv_at hl 0 rfl) ?_
              refine lv_if_ne (tgt := 55) hx hb dX1_behind_48 (by decide) (fun c_48 => ?_) (fun c_48 => ?_)
              · refine lv_iinc (v := i + 1) (lv' := [(3, .int (i + 1)), (2, .int (d + (-1))), (0, .ref h), (1, .int p0)]) hx hb dX1_behind_55 hl (k := 1) rfl (congrArg (fun z => i + z) (by decide)) (by decide) rfl (fun ls hl => ?_)
                refine lv_goto (tgt := 4) hx hb dX1_behind_58 (by decide) ?_
                have q4 := c_9
                rw [Int32.le_iff_toInt_le] at q4
                have q5 := lh_toInt1 (i := i) (by omega) hi0
                exact ih (d + (-1)) (i + 1) (by omega) (by omega) (by omega) (by rw [hf, if_neg c_9, if_neg c_19, if_neg c_29, if_pos c_41, if_neg c_48]) H locs ls G (lv_sub hl [0, 1, 2, 3] rfl)
              · refine lv_iload_n hx hb dX1_behind_51 rfl (lv_at hl 1 rfl) ?_
                refine lv_iconst (v := 1) hx hb dX1_behind_52 (by decide) ?_
                refine lv_iadd hx hb dX1_behind_53 ?_
                exact gx_iret (wf := gw1_ cI cZ h q) (u1 := u) hx hb hr hlocks hsz hK hAe G dX1_behind_54 (congrArg (fun z => (z, u)) (by rw [hf, if_neg c_9, if_neg c_19, if_neg c_29, if_pos c_41, if_pos c_48]))
          · refine lv_iinc (v := d + 1) (lv' := [(2, .int (d + 1)), (3, .int i), (0, .ref h), (1, .int p0)]) hx hb dX1_behind_32 hl (k := 1) rfl (congrArg (fun z => d + z) (by decide)) (by decide) rfl (fun ls hl => ?_)
            refine lv_aload_n hx hb dX1_behind_35 rfl (lv_at hl 2 rfl) ?_
            refine gg1_get (v := .ref (q 6)) hx hb hts hin hown hK G 6 (by decide) (index := 20) (by decide +kernel) rfl dX1_behind_36 ?_
            refine lv_iload_n hx hb dX1_behind_39 rfl (lv_at hl 1 rfl) ?_
            refine gg1_ld6 hx hb hK G (i := i) (vp_in_iff.mpr (by have q4 := c_9; rw [Int32.le_iff_toInt_le] at q4; omega)) dX1_behind_40 ?_
            refine lv_if_ne (tgt := 55) hx hb dX1_behind_41 (by decide) (fun _ => ?_) (fun z => absurd z (by rw [c_29]; decide))
            refine lv_iinc (v := i + 1) (lv' := [(3, .int (i + 1)), (2, .int (d + 1)), (0, .ref h), (1, .int p0)]) hx hb dX1_behind_55 hl (k := 1) rfl (congrArg (fun z => i + z) (by decide)) (by decide) rfl (fun ls hl => ?_)
            refine lv_goto (tgt := 4) hx hb dX1_behind_58 (by decide) ?_
            have q4 := c_9
            rw [Int32.le_iff_toInt_le] at q4
            have q5 := lh_toInt1 (i := i) (by omega) hi0
            exact ih (d + 1) (i + 1) (by omega) (by omega) (by omega) (by rw [hf, if_neg c_9, if_neg c_19, if_pos c_29]) H locs ls G (lv_sub hl [0, 1, 2, 3] rfl)
  refine lv_iconst (v := 0) hx hb dX1_behind_0 (by decide) ?_
  refine lv_istore_n (lv' := [(2, .int 0), (0, .ref h), (1, .int p0)]) hx hb dX1_behind_1 rfl hl (by decide) rfl (fun ls hl => ?_)
  refine lv_iload_n hx hb dX1_behind_2 rfl (lv_at hl 2 rfl) ?_
  refine lv_istore_n (lv' := [(3, .int p0), (2, .int 0), (0, .ref h), (1, .int p0)]) hx hb dX1_behind_3 rfl hl (by decide) rfl (fun ls hl => ?_)
  exact loop 25 0 p0 (by omega) (by omega) (by omega) rfl _ _ ls G (lv_sub hl [0, 1, 2, 3] rfl)
theorem hd_X1_behind : yX1_behind.cls = RX1 ∧ yX1_behind.cls ≠ "java/lang/invoke/MethodHandle" ∧ yX1_behind.cls ≠ "java/lang/invoke/VarHandle" ∧ (parseMethodDescriptor yX1_behind.desc).map (fun d => d.parameters.length) = some 1 := by decide +kernel
def pm_uw : Nat → st_T → Int32 × st_T
  | 0, v => (0, v)
  | n + 1, v => if v.1 13 ≤ 0 then (v.1 8, st_si v 11 (v.1 14)) else if (pm_close v).2.2 6 (ix (v.2 12 (ix (v.1 13 - 1)))) = 2 then (pm_behind (st_sa (pm_close v).2 10 (ix (v.2 12 (ix (v.1 13 - 1)))) ((pm_close v).2.1 14)) (v.2 12 (ix (v.1 13 - 1))), st_sa (pm_close v).2 10 (ix (v.2 12 (ix (v.1 13 - 1)))) ((pm_close v).2.1 14)) else pm_uw n (pm_close v).2
theorem pm_uw_s (n : Nat) (v : st_T) : pm_uw (n + 1) v = if v.1 13 ≤ 0 then (v.1 8, st_si v 11 (v.1 14)) else if (pm_close v).2.2 6 (ix (v.2 12 (ix (v.1 13 - 1)))) = 2 then (pm_behind (st_sa (pm_close v).2 10 (ix (v.2 12 (ix (v.1 13 - 1)))) ((pm_close v).2.1 14)) (v.2 12 (ix (v.1 13 - 1))), st_sa (pm_close v).2 10 (ix (v.2 12 (ix (v.1 13 - 1)))) ((pm_close v).2.1 14)) else pm_uw n (pm_close v).2 := rfl
def pm_uok : Nat → st_T → Prop
  | 0, _ => False
  | n + 1, v => if v.1 13 ≤ 0 then True else (vp_in (v.1 13 - 1) 8 ∧ (∀ j : Nat, j < 8 → vp_in (v.2 12 j) 24) ∧ (∀ j : Nat, j < 5 → vp_in (v.2 0 j) 520) ∧ ((pm_close v).2.1 8).toInt ≤ 24) ∧ (¬ (pm_close v).2.2 6 (ix (v.2 12 (ix (v.1 13 - 1)))) = 2 → pm_uok n (pm_close v).2)
def pm_unwind (u : st_T) : Int32 × st_T := pm_uw 9 u
set_option maxHeartbeats 4000000 in
set_option maxRecDepth 100000 in
theorem km_unwind (l : Launch) (dC : Nat → ClassId) (dI : Nat → Nat → Nat) (cI cZ : ClassId) (h : Nat) (q : Nat → Nat) (sz : Nat) (u : st_T) (hok : pm_uok 9 u) : gx_Mi l yX1_unwind wsX1_unwind { frames := 3, cells := 0, slots := 0, locals := 64 } [.ref h] (dC, dI) cI cZ (gw1_ cI cZ h q) u sz (pm_unwind u) := by
  refine gx_met (cc := cX1_unwind) (maxL := 3) (ret := (some .int)) (by decide +kernel) rfl (Nat.le_of_ble_eq_true rfl) (fun p e s m args below meth c A ls hsz hx hb hr hlocks hts hown hml hK hAe hA G hl => ?_)
  have hown : s.vm.findClass RX1 = some m.cls := hown
  have hin : ∀ w ∈ wsX10, w ∈ wsX1_unwind := gx_in
  have hl : lv_has ls 3 [(0, .ref h)] := hl
  have loop : ∀ (n : Nat) (v : st_T), pm_uok n v → pm_unwind u = pm_uw n v → ∀ (H : Heap) (locs : List Loc) (ls : Array Slot), gx_ (dC, dI) A s.heap H locs (gw1_ cI cZ h q v) → lv_has ls 3 [(0, .ref h)] → W p l e { frames := 3, cells := 0, slots := 0, locals := 64 } s m args below meth c H locs 0 0 (MQ below (va_Qi (fun r u1 => r = (pm_unwind u).1 ∧ u1 = (pm_unwind u).2) (gx_O (dC, dI) cI cZ (gw1_ cI cZ h q) (gw1_ cI cZ h q u) sz) (va_A (gw1_ cI cZ h q u) sz)) args s 0 0 (va_A (gw1_ cI cZ h q u) sz)) (F0 m 0 ls []) := by
    intro n
    induction n with
    | zero => intro v h1; exact h1.elim
    | succ n ih =>
      intro v hok hf H locs ls G hl
      rw [pm_uw_s n v] at hf
      have hs : ¬ v.1 13 ≤ 0 → (vp_in (v.1 13 - 1) 8 ∧ (∀ j : Nat, j < 8 → vp_in (v.2 12 j) 24) ∧ (∀ j : Nat, j < 5 → vp_in (v.2 0 j) 520) ∧ ((pm_close v).2.1 8).toInt ≤ 24) ∧ (¬ (pm_close v).2.2 6 (ix (v.2 12 (ix (v.1 13 - 1)))) = 2 → pm_uok n (pm_close v).2) := by
        intro a
        rw [pm_uok, if_neg a] at hok
        exact hok
      refine lv_aload_n hx hb dX1_unwind_0 rfl (lv_at hl 0 rfl) ?_
      refine gg1_get (v := .int (v.1 13)) hx hb hts hin hown hK G 13 (by decide) (index := 65) (by decide +kernel) rfl dX1_unwind_1 ?_
      refine lv_if_le (tgt := 53) hx hb dX1_unwind_4 (by decide) (fun c_4 => ?_) (fun c_4 => ?_)
      · refine lv_aload_n hx hb dX1_unwind_53 rfl (lv_at hl 0 rfl) ?_
        refine lv_aload_n hx hb dX1_unwind_54 rfl (lv_at hl 0 rfl) ?_
        refine gg1_get (v := .int (v.1 14)) hx hb hts hin hown hK G 14 (by decide) (index := 54) (by decide +kernel) rfl dX1_unwind_55 ?_
        refine gg1_put11 (v := v.1 14) hx hb hts hin hown hK G (index := 94) (by decide +kernel) dX1_unwind_58 (fun H locs G => ?_)
        refine lv_aload_n hx hb dX1_unwind_61 rfl (lv_at hl 0 rfl) ?_
        refine gg1_get (v := .int (v.1 8)) hx hb hts hin hown hK G 8 (by decide) (index := 40) (by decide +kernel) rfl dX1_unwind_62 ?_
        exact gx_iret (wf := gw1_ cI cZ h q) (u1 := st_si v 11 (v.1 14)) hx hb hr hlocks hsz hK hAe G dX1_unwind_65 (by rw [hf, if_pos c_4])
      · refine lv_aload_n hx hb dX1_unwind_7 rfl (lv_at hl 0 rfl) ?_
        refine gg1_get (v := .ref (q 12)) hx hb hts hin hown hK G 12 (by decide) (index := 29) (by decide +kernel) rfl dX1_unwind_8 ?_
        refine lv_aload_n hx hb dX1_unwind_11 rfl (lv_at hl 0 rfl) ?_
        refine gg1_get (v := .int (v.1 13)) hx hb hts hin hown hK G 13 (by decide) (index := 65) (by decide +kernel) rfl dX1_unwind_12 ?_
        refine lv_iconst (v := 1) hx hb dX1_unwind_15 (by decide) ?_
        refine lv_isub hx hb dX1_unwind_16 ?_
        refine gg1_ld12 hx hb hK G (i := (v.1 13) - 1) (hs c_4).1.1 dX1_unwind_17 ?_
        refine lv_istore_n (lv' := [(1, .int (v.2 12 (ix ((v.1 13) - 1)))), (0, .ref h)]) hx hb dX1_unwind_18 rfl hl (by decide) rfl (fun ls hl => ?_)
        refine lv_aload_n hx hb dX1_unwind_19 rfl (lv_at hl 1 rfl) ?_
        refine gx_calli (wf := gw1_ cI cZ h q) (u := v) (f := pm_close v) (As := []) (rest := []) 0 hx hb hml hown hts hK hA G rfl rfl (km_close l dC dI cI cZ h q _ v  (hs c_4).1.1 (hs c_4).1.2.1 (hs c_4).1.2.2.1) gX1_unwind_X1_close rfl rfl rfl hd_X1_close ⟨Nat.le_of_ble_eq_true rfl, Nat.le_of_ble_eq_true rfl⟩ rfl hl.1 rfl (Nat.le_of_ble_eq_true rfl) dX1_unwind_20 (Nat.zero_le _) (Nat.zero_le _) (fun H locs G => ?_)
        refine lv_istore_n (lv' := [(2, .int ((pm_close v).1)), (1, .int (v.2 12 (ix ((v.1 13) - 1)))), (0, .ref h)]) hx hb dX1_unwind_23 rfl hl (by decide) rfl (fun ls hl => ?_)
        refine lv_aload_n hx hb dX1_unwind_24 rfl (lv_at hl 2 rfl) ?_
        refine gg1_get (v := .ref (q 6)) hx hb hts hin hown hK G 6 (by decide) (index := 20) (by decide +kernel) rfl dX1_unwind_25 ?_
        refine lv_iload_n hx hb dX1_unwind_28 rfl (lv_at hl 1 rfl) ?_
        refine gg1_ld6 hx hb hK G (i := v.2 12 (ix ((v.1 13) - 1))) ((hs c_4).1.2.1 _ (ix_lt (hs c_4).1.1)) dX1_unwind_29 ?_
        refine lv_iconst (v := 2) hx hb dX1_unwind_30 (by decide) ?_
        refine lv_icmp_ne (tgt := 50) hx hb dX1_unwind_31 (by decide) (fun c_31 => ?_) (fun c_31 => ?_)
        · refine lv_goto (tgt := 0) hx hb dX1_unwind_50 (by decide) ?_
          exact ih (pm_close v).2 ((hs c_4).2 c_31) (by rw [hf, if_neg c_4, if_neg c_31]) H locs ls G (lv_sub hl [2] rfl)
        · refine lv_aload_n hx hb dX1_unwind_34 rfl (lv_at hl 2 rfl) ?_
          refine gg1_get (v := .ref (q 10)) hx hb hts hin hown hK G 10 (by decide) (index := 26) (by decide +kernel) rfl dX1_unwind_35 ?_
          refine lv_iload_n hx hb dX1_unwind_38 rfl (lv_at hl 1 rfl) ?_
          refine lv_aload_n hx hb dX1_unwind_39 rfl (lv_at hl 2 rfl) ?_
          refine gg1_get (v := .int (((pm_close v).2).1 14)) hx hb hts hin hown hK G 14 (by decide) (index := 54) (by decide +kernel) rfl dX1_unwind_40 ?_
          refine gg1_st10 hx hb hK G (i := v.2 12 (ix ((v.1 13) - 1))) (x := ((pm_close v).2).1 14) ((hs c_4).1.2.1 _ (ix_lt (hs c_4).1.1)) dX1_unwind_43 (fun H locs G => ?_)
          refine lv_aload_n hx hb dX1_unwind_44 rfl (lv_at hl 2 rfl) ?_
          refine lv_iload_n hx hb dX1_unwind_45 rfl (lv_at hl 1 rfl) ?_
          refine gx_callr (wf := gw1_ cI cZ h q) (u := st_sa ((pm_close v).2) 10 (ix (v.2 12 (ix ((v.1 13) - 1)))) (((pm_close v).2).1 14)) (f := pm_behind (st_sa ((pm_close v).2) 10 (ix (v.2 12 (ix ((v.1 13) - 1)))) (((pm_close v).2).1 14)) (v.2 12 (ix ((v.1 13) - 1)))) (As := [.int (v.2 12 (ix ((v.1 13) - 1)))]) (rest := []) 1 hx hb hml hown hts hK hA G rfl rfl (km_behind l dC dI cI cZ h q _ (st_sa ((pm_close v).2) 10 (ix (v.2 12 (ix ((v.1 13) - 1)))) (((pm_close v).2).1 14)) (v.2 12 (ix ((v.1 13) - 1))) ((hs c_4).1.2.1 _ (ix_lt (hs c_4).1.1)) (hs c_4).1.2.2.2) gX1_unwind_X1_behind rfl rfl rfl hd_X1_behind ⟨Nat.le_of_ble_eq_true rfl, Nat.le_of_ble_eq_true rfl⟩ rfl hl.1 rfl (Nat.le_of_ble_eq_true rfl) dX1_unwind_46 (Nat.zero_le _) (Nat.zero_le _) (fun H locs G => ?_)
          exact gx_iret (wf := gw1_ cI cZ h q) (u1 := st_sa ((pm_close v).2) 10 (ix (v.2 12 (ix ((v.1 13) - 1)))) (((pm_close v).2).1 14)) hx hb hr hlocks hsz hK hAe G dX1_unwind_49 (by rw [hf, if_neg c_4, if_pos c_31])
  exact loop 9 u hok rfl _ _ ls G hl
theorem hd_X1_unwind : yX1_unwind.cls = RX1 ∧ yX1_unwind.cls ≠ "java/lang/invoke/MethodHandle" ∧ yX1_unwind.cls ≠ "java/lang/invoke/VarHandle" ∧ (parseMethodDescriptor yX1_unwind.desc).map (fun d => d.parameters.length) = some 0 := by decide +kernel
def pm_wok (v : st_T) (p0 : Int32) : Prop := vp_in p0 24 ∧ (∀ j : Nat, j < 5 → vp_in (v.2 0 j) 520) ∧ (∀ j : Nat, j < 8 → vp_in (v.2 12 j) 24) ∧ (v.2 6 (ix p0) = 0 → vp_in (v.1 13 - 1) 8) ∧ (v.2 6 (ix p0) = 1 ∨ v.2 6 (ix p0) = 2 → vp_in (v.1 13) 8)
def pm_w1 (v : st_T) (i : Int32) : Int32 × st_T := pm_work (st_si v 14 0) i
def pm_rl : Nat → st_T → Int32 → Int32 → Int32 × st_T
  | 0, v, d, _ => (d, v)
  | n + 1, v, d, i => if v.1 8 ≤ i then (d, v) else if (pm_work (st_si v 14 0) i).2.1 14 = 0 then pm_rl n (st_sa (pm_work (st_si v 14 0) i).2 10 (ix i) (pm_work (st_si v 14 0) i).1) (d + 1) (i + 1) else pm_rl n (pm_unwind (st_sa (pm_work (st_si v 14 0) i).2 10 (ix i) ((pm_work (st_si v 14 0) i).2.1 14 - 1000))).2 (d + 1) (pm_unwind (st_sa (pm_work (st_si v 14 0) i).2 10 (ix i) ((pm_work (st_si v 14 0) i).2.1 14 - 1000))).1
theorem pm_rl_s (n : Nat) (v : st_T) (d i : Int32) : pm_rl (n + 1) v d i = if v.1 8 ≤ i then (d, v) else if (pm_work (st_si v 14 0) i).2.1 14 = 0 then pm_rl n (st_sa (pm_work (st_si v 14 0) i).2 10 (ix i) (pm_work (st_si v 14 0) i).1) (d + 1) (i + 1) else pm_rl n (pm_unwind (st_sa (pm_work (st_si v 14 0) i).2 10 (ix i) ((pm_work (st_si v 14 0) i).2.1 14 - 1000))).2 (d + 1) (pm_unwind (st_sa (pm_work (st_si v 14 0) i).2 10 (ix i) ((pm_work (st_si v 14 0) i).2.1 14 - 1000))).1 := rfl
def pm_rok : Nat → st_T → Int32 → Prop
  | 0, _, _ => False
  | n + 1, v, i => if v.1 8 ≤ i then True else pm_wok (st_si v 14 0) i ∧ (if (pm_work (st_si v 14 0) i).2.1 14 = 0 then pm_rok n (st_sa (pm_work (st_si v 14 0) i).2 10 (ix i) (pm_work (st_si v 14 0) i).1) (i + 1) else pm_uok 9 (st_sa (pm_work (st_si v 14 0) i).2 10 (ix i) ((pm_work (st_si v 14 0) i).2.1 14 - 1000)) ∧ pm_rok n (pm_unwind (st_sa (pm_work (st_si v 14 0) i).2 10 (ix i) ((pm_work (st_si v 14 0) i).2.1 14 - 1000))).2 (pm_unwind (st_sa (pm_work (st_si v 14 0) i).2 10 (ix i) ((pm_work (st_si v 14 0) i).2.1 14 - 1000))).1)
def pm_r0 (u : st_T) : st_T := st_si (st_si (st_sf u 10 (pj_fill 24 (-9) (u.2 10))) 11 0) 13 0
def pm_run (u : st_T) : Int32 × st_T := if u.1 9 ≤ 0 then pm_rl 25 (pm_r0 u) 0 0 else (-1, u)
theorem sf_s10 {i : Nat} (hi : i < 2 ^ 31) (u : st_T) (v : Int32) (f : Nat → Int32) : st_sa (st_sf u 10 (pj_fill i v f)) 10 (ix (nI i)) v = st_sf u 10 (pj_fill (i + 1) v f) := by
  rw [← pj_fill_s hi]
  unfold st_sa st_sf
  congr 1
  funext j
  show va_up (va_up u.2 10 (pj_fill i v f)) 10 (upd ((va_up u.2 10 (pj_fill i v f)) 10) (ix (nI i)) v) j = va_up u.2 10 (upd (pj_fill i v f) (ix (nI i)) v) j
  by_cases hj : j = 10
  · subst hj
    rw [va_up_self, va_up_self, va_up_self]
  · rw [va_up_ne _ _ hj, va_up_ne _ _ hj, va_up_ne _ _ hj]
theorem sf_010 (u : st_T) (v : Int32) : st_sf u 10 (pj_fill 0 v (u.2 10)) = u := by
  rw [pj_fill_0]
  unfold st_sf
  have : va_up u.2 10 (u.2 10) = u.2 := by
    funext j
    by_cases hj : j = 10
    · subst hj; rw [va_up_self]
    · rw [va_up_ne _ _ hj]
  rw [this]
set_option maxHeartbeats 4000000 in
set_option maxRecDepth 100000 in
theorem km_run (l : Launch) (dC : Nat → ClassId) (dI : Nat → Nat → Nat) (cI cZ : ClassId) (h : Nat) (q : Nat → Nat) (sz : Nat) (u : st_T) (hok : u.1 9 ≤ 0 → pm_rok 25 (pm_r0 u) 0) : gx_Mi l yX1_run wsX1_run { frames := 5, cells := 0, slots := 0, locals := 110 } [.ref h] (dC, dI) cI cZ (gw1_ cI cZ h q) u sz (pm_run u) := by
  refine gx_met (cc := cX1_run) (maxL := 4) (ret := (some .int)) (by decide +kernel) rfl (Nat.le_of_ble_eq_true rfl) (fun p e s m args below meth c A ls hsz hx hb hr hlocks hts hown hml hK hAe hA G hl => ?_)
  have hown : s.vm.findClass RX1 = some m.cls := hown
  have hin : ∀ w ∈ wsX10, w ∈ wsX1_run := gx_in
  have hl : lv_has ls 4 [(0, .ref h)] := hl
  have loop : ∀ (n : Nat) (v : st_T) (d i : Int32), pm_rok n v i → pm_run u = pm_rl n v d i → ∀ (H : Heap) (locs : List Loc) (ls : Array Slot), gx_ (dC, dI) A s.heap H locs (gw1_ cI cZ h q v) → lv_has ls 4 [(2, .int i), (1, .int d), (0, .ref h)] → W p l e { frames := 5, cells := 0, slots := 0, locals := 110 } s m args below meth c H locs 0 0 (MQ below (va_Qi (fun r u1 => r = (pm_run u).1 ∧ u1 = (pm_run u).2) (gx_O (dC, dI) cI cZ (gw1_ cI cZ h q) (gw1_ cI cZ h q u) sz) (va_A (gw1_ cI cZ h q u) sz)) args s 0 0 (va_A (gw1_ cI cZ h q u) sz)) (F0 m 45 ls []) := by
    intro n
    induction n with
    | zero => intro v d i h1; exact h1.elim
    | succ n ih =>
      intro v d i hok hf H locs ls G hl
      rw [pm_rl_s n v d i] at hf
      have hs : ¬ v.1 8 ≤ i → pm_wok (st_si v 14 0) i := by
        intro a
        rw [pm_rok, if_neg a] at hok
        exact hok.1
      have hs1 : ¬ v.1 8 ≤ i → (pm_work (st_si v 14 0) i).2.1 14 = 0 → pm_rok n (st_sa (pm_work (st_si v 14 0) i).2 10 (ix i) (pm_work (st_si v 14 0) i).1) (i + 1) := by
        intro a b
        rw [pm_rok, if_neg a, if_pos b] at hok
        exact hok.2
      have hs2 : ¬ v.1 8 ≤ i → ¬ (pm_work (st_si v 14 0) i).2.1 14 = 0 → pm_uok 9 (st_sa (pm_work (st_si v 14 0) i).2 10 (ix i) ((pm_work (st_si v 14 0) i).2.1 14 - 1000)) ∧ pm_rok n (pm_unwind (st_sa (pm_work (st_si v 14 0) i).2 10 (ix i) ((pm_work (st_si v 14 0) i).2.1 14 - 1000))).2 (pm_unwind (st_sa (pm_work (st_si v 14 0) i).2 10 (ix i) ((pm_work (st_si v 14 0) i).2.1 14 - 1000))).1 := by
        intro a b
        rw [pm_rok, if_neg a, if_neg b] at hok
        exact hok.2
      refine lv_iload_n hx hb dX1_run_45 rfl (lv_at hl 0 rfl) ?_
      refine lv_aload_n hx hb dX1_run_46 rfl (lv_at hl 2 rfl) ?_
      refine gg1_get (v := .int (v.1 8)) hx hb hts hin hown hK G 8 (by decide) (index := 40) (by decide +kernel) rfl dX1_run_47 ?_
      refine lv_icmp_ge (tgt := 113) hx hb dX1_run_50 (by decide) (fun c_50 => ?_) (fun c_50 => ?_)
      · refine lv_iload_n hx hb dX1_run_113 rfl (lv_at hl 1 rfl) ?_
        exact gx_iret (wf := gw1_ cI cZ h q) (u1 := v) hx hb hr hlocks hsz hK hAe G dX1_run_114 (by rw [hf, if_pos c_50])
      · refine lv_aload_n hx hb dX1_run_53 rfl (lv_at hl 2 rfl) ?_
        refine lv_iconst (v := 0) hx hb dX1_run_54 (by decide) ?_
        refine gg1_put14 (v := 0) hx hb hts hin hown hK G (index := 54) (by decide +kernel) dX1_run_55 (fun H locs G => ?_)
        refine lv_aload_n hx hb dX1_run_58 rfl (lv_at hl 2 rfl) ?_
        refine lv_iload_n hx hb dX1_run_59 rfl (lv_at hl 0 rfl) ?_
        refine gx_calli (wf := gw1_ cI cZ h q) (u := st_si v 14 0) (f := pm_work (st_si v 14 0) i) (As := [.int i]) (rest := []) 1 hx hb hml hown hts hK hA G rfl rfl (km_work l dC dI cI cZ h q _ (st_si v 14 0) i (hs c_50).1 (hs c_50).2.1 (hs c_50).2.2.1 (hs c_50).2.2.2.1 (hs c_50).2.2.2.2) gX1_run_X1_work rfl rfl rfl hd_X1_work ⟨Nat.le_of_ble_eq_true rfl, Nat.le_of_ble_eq_true rfl⟩ rfl hl.1 rfl (Nat.le_of_ble_eq_true rfl) dX1_run_60 (Nat.zero_le _) (Nat.zero_le _) (fun H locs G => ?_)
        refine lv_istore_n (lv' := [(3, .int ((pm_work (st_si v 14 0) i).1)), (2, .int i), (1, .int d), (0, .ref h)]) hx hb dX1_run_63 rfl hl (by decide) rfl (fun ls hl => ?_)
        refine lv_iinc (v := d + 1) (lv' := [(1, .int (d + 1)), (3, .int ((pm_work (st_si v 14 0) i).1)), (2, .int i), (0, .ref h)]) hx hb dX1_run_64 hl (k := 2) rfl (congrArg (fun z => d + z) (by decide)) (by decide) rfl (fun ls hl => ?_)
        refine lv_aload_n hx hb dX1_run_67 rfl (lv_at hl 3 rfl) ?_
        refine gg1_get (v := .ref (q 10)) hx hb hts hin hown hK G 10 (by decide) (index := 26) (by decide +kernel) rfl dX1_run_68 ?_
        refine lv_iload_n hx hb dX1_run_71 rfl (lv_at hl 2 rfl) ?_
        refine lv_aload_n hx hb dX1_run_72 rfl (lv_at hl 3 rfl) ?_
        refine gg1_get (v := .int (((pm_work (st_si v 14 0) i).2).1 14)) hx hb hts hin hown hK G 14 (by decide) (index := 54) (by decide +kernel) rfl dX1_run_73 ?_
        refine lv_if_ne (tgt := 83) hx hb dX1_run_76 (by decide) (fun c_76 => ?_) (fun c_76 => ?_)
        · refine lv_aload_n hx hb dX1_run_83 rfl (lv_at hl 3 rfl) ?_
          refine gg1_get (v := .int (((pm_work (st_si v 14 0) i).2).1 14)) hx hb hts hin hown hK G 14 (by decide) (index := 54) (by decide +kernel) rfl dX1_run_84 ?_
          refine lv_sipush (v := 1000) hx hb dX1_run_87 (by decide) ?_
          refine lv_isub hx hb dX1_run_90 ?_
          refine gg1_st10 hx hb hK G (i := i) (x := (((pm_work (st_si v 14 0) i).2).1 14) - 1000) (hs c_50).1 dX1_run_91 (fun H locs G => ?_)
          refine lv_aload_n hx hb dX1_run_92 rfl (lv_at hl 3 rfl) ?_
          refine gg1_get (v := .int (((pm_work (st_si v 14 0) i).2).1 14)) hx hb hts hin hown hK G 14 (by decide) (index := 54) (by decide +kernel) rfl dX1_run_93 ?_
          refine lv_if_ne (tgt := 105) hx hb dX1_run_96 (by decide) (fun _ => ?_) (fun z => absurd z c_76)
          refine lv_aload_n hx hb dX1_run_105 rfl (lv_at hl 3 rfl) ?_
          refine gx_calli (wf := gw1_ cI cZ h q) (u := st_sa ((pm_work (st_si v 14 0) i).2) 10 (ix i) ((((pm_work (st_si v 14 0) i).2).1 14) - 1000)) (f := pm_unwind (st_sa ((pm_work (st_si v 14 0) i).2) 10 (ix i) ((((pm_work (st_si v 14 0) i).2).1 14) - 1000))) (As := []) (rest := []) 0 hx hb hml hown hts hK hA G rfl rfl (km_unwind l dC dI cI cZ h q _ (st_sa ((pm_work (st_si v 14 0) i).2) 10 (ix i) ((((pm_work (st_si v 14 0) i).2).1 14) - 1000))  (hs2 c_50 c_76).1) gX1_run_X1_unwind rfl rfl rfl hd_X1_unwind ⟨Nat.le_of_ble_eq_true rfl, Nat.le_of_ble_eq_true rfl⟩ rfl hl.1 rfl (Nat.le_of_ble_eq_true rfl) dX1_run_106 (Nat.zero_le _) (Nat.zero_le _) (fun H locs G => ?_)
          refine lv_istore_n (lv' := [(2, .int ((pm_unwind (st_sa ((pm_work (st_si v 14 0) i).2) 10 (ix i) ((((pm_work (st_si v 14 0) i).2).1 14) - 1000))).1)), (1, .int (d + 1)), (3, .int ((pm_work (st_si v 14 0) i).1)), (0, .ref h)]) hx hb dX1_run_109 rfl hl (by decide) rfl (fun ls hl => ?_)
          refine lv_goto (tgt := 45) hx hb dX1_run_110 (by decide) ?_
          exact ih _ (d + 1) _ (hs2 c_50 c_76).2 (by rw [hf, if_neg c_50, if_neg c_76]) H locs ls G (lv_sub hl [0, 1, 3] rfl)
        · refine lv_iload_n hx hb dX1_run_79 rfl (lv_at hl 1 rfl) ?_
          refine lv_goto (tgt := 91) hx hb dX1_run_80 (by decide) ?_
          refine gg1_st10 hx hb hK G (i := i) (x := (pm_work (st_si v 14 0) i).1) (hs c_50).1 dX1_run_91 (fun H locs G => ?_)
          refine lv_aload_n hx hb dX1_run_92 rfl (lv_at hl 3 rfl) ?_
          refine gg1_get (v := .int (((pm_work (st_si v 14 0) i).2).1 14)) hx hb hts hin hown hK G 14 (by decide) (index := 54) (by decide +kernel) rfl dX1_run_93 ?_
          refine lv_if_ne (tgt := 105) hx hb dX1_run_96 (by decide) (fun z => absurd c_76 z) (fun _ => ?_)
          refine lv_iload_n hx hb dX1_run_99 rfl (lv_at hl 2 rfl) ?_
          refine lv_iconst (v := 1) hx hb dX1_run_100 (by decide) ?_
          refine lv_iadd hx hb dX1_run_101 ?_
          refine lv_goto (tgt := 109) hx hb dX1_run_102 (by decide) ?_
          refine lv_istore_n (lv' := [(2, .int (i + 1)), (1, .int (d + 1)), (3, .int ((pm_work (st_si v 14 0) i).1)), (0, .ref h)]) hx hb dX1_run_109 rfl hl (by decide) rfl (fun ls hl => ?_)
          refine lv_goto (tgt := 45) hx hb dX1_run_110 (by decide) ?_
          exact ih _ (d + 1) (i + 1) (hs1 c_50 c_76) (by rw [hf, if_neg c_50, if_pos c_76]) H locs ls G (lv_sub hl [0, 1, 3] rfl)
  have mid : u.1 9 ≤ 0 → ∀ (H : Heap) (locs : List Loc) (ls : Array Slot), gx_ (dC, dI) A s.heap H locs (gw1_ cI cZ h q (st_sf u 10 (pj_fill 24 (-9) (u.2 10)))) → lv_has ls 4 [(0, .ref h)] → W p l e { frames := 5, cells := 0, slots := 0, locals := 110 } s m args below meth c H locs 0 0 (MQ below (va_Qi (fun r u1 => r = (pm_run u).1 ∧ u1 = (pm_run u).2) (gx_O (dC, dI) cI cZ (gw1_ cI cZ h q) (gw1_ cI cZ h q u) sz) (va_A (gw1_ cI cZ h q u) sz)) args s 0 0 (va_A (gw1_ cI cZ h q u) sz)) (F0 m 31 ls []) := by
    intro c_4 H locs ls G hl
    refine lv_aload_n hx hb dX1_run_31 rfl (lv_at hl 0 rfl) ?_
    refine lv_iconst (v := 0) hx hb dX1_run_32 (by decide) ?_
    refine gg1_put11 (v := 0) hx hb hts hin hown hK G (index := 94) (by decide +kernel) dX1_run_33 (fun H locs G => ?_)
    refine lv_aload_n hx hb dX1_run_36 rfl (lv_at hl 0 rfl) ?_
    refine lv_iconst (v := 0) hx hb dX1_run_37 (by decide) ?_
    refine gg1_put13 (v := 0) hx hb hts hin hown hK G (index := 65) (by decide +kernel) dX1_run_38 (fun H locs G => ?_)
    refine lv_iconst (v := 0) hx hb dX1_run_41 (by decide) ?_
    refine lv_istore_n (lv' := [(1, .int 0), (0, .ref h)]) hx hb dX1_run_42 rfl hl (by decide) rfl (fun ls hl => ?_)
    refine lv_iconst (v := 0) hx hb dX1_run_43 (by decide) ?_
    refine lv_istore_n (lv' := [(2, .int 0), (1, .int 0), (0, .ref h)]) hx hb dX1_run_44 rfl hl (by decide) rfl (fun ls hl => ?_)
    exact loop 25 (pm_r0 u) 0 0 (hok c_4) (by unfold pm_run; rw [if_pos c_4]) _ _ ls G (lv_sub hl [0, 1, 2] rfl)
  refine lv_aload_n hx hb dX1_run_0 rfl (lv_at hl 0 rfl) ?_
  refine gg1_get (v := .int (u.1 9)) hx hb hts hin hown hK G 9 (by decide) (index := 43) (by decide +kernel) rfl dX1_run_1 ?_
  refine lv_if_le (tgt := 9) hx hb dX1_run_4 (by decide) (fun c_4 => ?_) (fun c_4 => ?_)
  · have mid := mid c_4
    have init : ∀ (n i : Nat), i ≤ 24 → 24 - i < n → ∀ (H : Heap) (locs : List Loc) (ls : Array Slot), gx_ (dC, dI) A s.heap H locs (gw1_ cI cZ h q (st_sf u 10 (pj_fill i (-9) (u.2 10)))) → lv_has ls 4 [(1, .int (nI i)), (0, .ref h)] → W p l e { frames := 5, cells := 0, slots := 0, locals := 110 } s m args below meth c H locs 0 0 (MQ below (va_Qi (fun r u1 => r = (pm_run u).1 ∧ u1 = (pm_run u).2) (gx_O (dC, dI) cI cZ (gw1_ cI cZ h q) (gw1_ cI cZ h q u) sz) (va_A (gw1_ cI cZ h q u) sz)) args s 0 0 (va_A (gw1_ cI cZ h q u) sz)) (F0 m 11 ls []) := by
      intro n
      induction n with
      | zero => intro i h1 h2; exact absurd h2 (Nat.not_lt_zero _)
      | succ n ih =>
        intro i hi1 hi2 H locs ls G hl
        refine lv_iload_n hx hb dX1_run_11 rfl (lv_at hl 0 rfl) ?_
        refine lv_bipush (v := 24) hx hb dX1_run_12 (by decide) ?_
        refine lv_icmp_ge (tgt := 31) hx hb dX1_run_14 (by decide) (fun c_14 => ?_) (fun c_14 => ?_)
        · have e : i = 24 := by
            rw [show (24 : Int32) = nI 24 from by decide, nI_leI (by decide) (by omega)] at c_14
            omega
          subst e
          exact mid H locs ls G (lv_sub hl [1] rfl)
        · refine lv_aload_n hx hb dX1_run_17 rfl (lv_at hl 1 rfl) ?_
          refine gg1_get (v := .ref (q 10)) hx hb hts hin hown hK G 10 (by decide) (index := 26) (by decide +kernel) rfl dX1_run_18 ?_
          refine lv_iload_n hx hb dX1_run_21 rfl (lv_at hl 0 rfl) ?_
          refine lv_bipush (v := (-9)) hx hb dX1_run_22 (by decide) ?_
          refine gg1_st10 hx hb hK G (i := (nI i)) (x := (-9)) (vp_in_nI (by rw [show (24 : Int32) = nI 24 from by decide, nI_leI (by decide) (by omega)] at c_14; omega) (by decide)) dX1_run_24 (fun H locs G => ?_)
          refine lv_iinc (v := nI (i + 1)) (lv' := [(1, .int (nI (i + 1))), (0, .ref h)]) hx hb dX1_run_25 hl (k := 0) rfl (nI_1 i) (by decide) rfl (fun ls hl => ?_)
          refine lv_goto (tgt := 11) hx hb dX1_run_28 (by decide) ?_
          have e24 : i < 24 := by
            rw [show (24 : Int32) = nI 24 from by decide, nI_leI (by decide) (by omega)] at c_14
            omega
          rw [sf_s10 (by omega)] at G
          exact ih (i + 1) (by omega) (by omega) H locs ls G (lv_sub hl [0, 1] rfl)
    refine lv_iconst (v := 0) hx hb dX1_run_9 (by decide) ?_
    refine lv_istore_n (lv' := [(1, .int 0), (0, .ref h)]) hx hb dX1_run_10 rfl hl (by decide) rfl (fun ls hl => ?_)
    exact init 25 0 (by decide) (by decide) _ _ ls (by rw [sf_010]; exact G) (by rw [nI_0]; exact hl)
  · refine lv_iconst (v := (-1)) hx hb dX1_run_7 (by decide) ?_
    exact gx_iret (wf := gw1_ cI cZ h q) (u1 := u) hx hb hr hlocks hsz hK hAe G dX1_run_8 (by unfold pm_run; rw [if_neg c_4])
theorem hd_X1_run : yX1_run.cls = RX1 ∧ yX1_run.cls ≠ "java/lang/invoke/MethodHandle" ∧ yX1_run.cls ≠ "java/lang/invoke/VarHandle" ∧ (parseMethodDescriptor yX1_run.desc).map (fun d => d.parameters.length) = some 0 := by decide +kernel
def pm_result (u : st_T) (p0 : Int32) : Int32 :=
  if pm_in p0 24 = 0 then
    (-1)
  else
    u.2 10 (ix p0)
set_option maxHeartbeats 4000000 in
set_option maxRecDepth 100000 in
theorem km_result (l : Launch) (dC : Nat → ClassId) (dI : Nat → Nat → Nat) (cI cZ : ClassId) (h : Nat) (q : Nat → Nat) (sz : Nat) (u : st_T) (p0 : Int32) : gx_Mi l yX1_result wsX1_result { frames := 1, cells := 0, slots := 0, locals := 21 } [.ref h, .int p0] (dC, dI) cI cZ (gw1_ cI cZ h q) u sz (pm_result u p0, u) := by
  refine gx_met (cc := cX1_result) (maxL := 2) (ret := (some .int)) (by decide +kernel) rfl (Nat.le_of_ble_eq_true rfl) (fun p e s m args below meth c A ls hsz hx hb hr hlocks hts hown hml hK hAe hA G hl => ?_)
  have hown : s.vm.findClass RX1 = some m.cls := hown
  have hin : ∀ w ∈ wsX10, w ∈ wsX1_result := gx_in
  have hl : lv_has ls 2 [(0, .ref h), (1, .int p0)] := hl
  refine lv_iload_n hx hb dX1_result_0 rfl (lv_at hl 1 rfl) ?_
  refine lv_bipush (v := 24) hx hb dX1_result_1 (by decide) ?_
  refine gx_calls (f := pm_in p0 24) (As := [.int p0, .int 24]) (rest := []) 2 hx hb hml hown hts (km_in l p0 24 ) gX1_result_X1_in rfl rfl rfl hd_X1_in ⟨Nat.le_of_ble_eq_true rfl, Nat.le_of_ble_eq_true rfl⟩ rfl hl.1 rfl (Nat.le_of_ble_eq_true rfl) dX1_result_3 (Nat.zero_le _) (Nat.zero_le _) ?_
  refine lv_if_eq (tgt := 18) hx hb dX1_result_6 (by decide) (fun c_6 => ?_) (fun c_6 => ?_)
  · refine lv_iconst (v := (-1)) hx hb dX1_result_18 (by decide) ?_
    exact gx_iret (wf := gw1_ cI cZ h q) (u1 := u) hx hb hr hlocks hsz hK hAe G dX1_result_19 (congrArg (fun z => (z, u)) (by unfold pm_result; rw [if_pos c_6]))
  · refine lv_aload_n hx hb dX1_result_9 rfl (lv_at hl 0 rfl) ?_
    refine gg1_get (v := .ref (q 10)) hx hb hts hin hown hK G 10 (by decide) (index := 26) (by decide +kernel) rfl dX1_result_10 ?_
    refine lv_iload_n hx hb dX1_result_13 rfl (lv_at hl 1 rfl) ?_
    refine gg1_ld10 hx hb hK G (i := p0) (pi_in (M := 24) (by decide) c_6) dX1_result_14 ?_
    refine lv_goto (tgt := 19) hx hb dX1_result_15 (by decide) ?_
    exact gx_iret (wf := gw1_ cI cZ h q) (u1 := u) hx hb hr hlocks hsz hK hAe G dX1_result_19 (congrArg (fun z => (z, u)) (by unfold pm_result; rw [if_neg c_6]))
theorem hd_X1_result : yX1_result.cls = RX1 ∧ yX1_result.cls ≠ "java/lang/invoke/MethodHandle" ∧ yX1_result.cls ≠ "java/lang/invoke/VarHandle" ∧ (parseMethodDescriptor yX1_result.desc).map (fun d => d.parameters.length) = some 1 := by decide +kernel
def pm_failure (u : st_T) : Int32 :=
  u.1 11
set_option maxHeartbeats 4000000 in
set_option maxRecDepth 100000 in
theorem km_failure (l : Launch) (dC : Nat → ClassId) (dI : Nat → Nat → Nat) (cI cZ : ClassId) (h : Nat) (q : Nat → Nat) (sz : Nat) (u : st_T) : gx_Mi l yX1_failure wsX1_failure { frames := 0, cells := 0, slots := 0, locals := 0 } [.ref h] (dC, dI) cI cZ (gw1_ cI cZ h q) u sz (pm_failure u, u) := by
  refine gx_met (cc := cX1_failure) (maxL := 1) (ret := (some .int)) (by decide +kernel) rfl (Nat.le_of_ble_eq_true rfl) (fun p e s m args below meth c A ls hsz hx hb hr hlocks hts hown hml hK hAe hA G hl => ?_)
  have hown : s.vm.findClass RX1 = some m.cls := hown
  have hin : ∀ w ∈ wsX10, w ∈ wsX1_failure := gx_in
  have hl : lv_has ls 1 [(0, .ref h)] := hl
  refine lv_aload_n hx hb dX1_failure_0 rfl (lv_at hl 0 rfl) ?_
  refine gg1_get (v := .int (u.1 11)) hx hb hts hin hown hK G 11 (by decide) (index := 94) (by decide +kernel) rfl dX1_failure_1 ?_
  exact gx_iret (wf := gw1_ cI cZ h q) (u1 := u) hx hb hr hlocks hsz hK hAe G dX1_failure_4 (congrArg (fun z => (z, u)) (by unfold pm_failure; rfl))
theorem hd_X1_failure : yX1_failure.cls = RX1 ∧ yX1_failure.cls ≠ "java/lang/invoke/MethodHandle" ∧ yX1_failure.cls ≠ "java/lang/invoke/VarHandle" ∧ (parseMethodDescriptor yX1_failure.desc).map (fun d => d.parameters.length) = some 0 := by decide +kernel
def pm_se (u : st_T) : Nat → Int32 → Int32 → Int32
  | 0, c, _ => c
  | n + 1, c, i => if 4 ≤ i then c else if u.2 3 (ix i) = 0 then pm_se u n c (i + 1) else pm_se u n (c + 1) (i + 1)
theorem pm_se_s (u : st_T) (n : Nat) (c i : Int32) : pm_se u (n + 1) c i = if 4 ≤ i then c else if u.2 3 (ix i) = 0 then pm_se u n c (i + 1) else pm_se u n (c + 1) (i + 1) := rfl
def pm_sl (u : st_T) (l : Int32) : Nat → Int32 → Int32
  | 0, n => n
  | k + 1, n => if l = 0 then -2 else if u.2 0 (ix n) = l then n else pm_sl u l k (n + 1)
theorem pm_sl_s (u : st_T) (l : Int32) (k : Nat) (n : Int32) : pm_sl u l (k + 1) n = if l = 0 then -2 else if u.2 0 (ix n) = l then n else pm_sl u l k (n + 1) := rfl
def pm_state (u : st_T) (p0 : Int32) : Int32 :=
  if p0 = 0 then u.1 8 else if p0 = 1 then u.1 9 else if p0 = 2 then u.1 4 else if p0 = 3 then (if u.1 5 = 0 then 0 else 1) else if pm_in p0 10 = 0 then -1 else if p0 = 4 then pm_se u 5 0 0 else pm_sl u (u.2 0 (ix (p0 - 5))) 6 0
theorem so_in {p0 : Int32} (h0 : ¬ p0 = 0) (h1 : ¬ p0 = 1) (h2 : ¬ p0 = 2) (h3 : ¬ p0 = 3) (h4 : ¬ p0 = 4) (h : ¬ pm_in p0 10 = 0) : vp_in (p0 - 5) 5 := by
  have hp := vp_in_iff.mp (pi_in (M := 10) (n := 10) (by decide) h)
  have z0 := lv_neT h0 (a := 0) (by decide)
  have z1 := lv_neT h1 (a := 1) (by decide)
  have z2 := lv_neT h2 (a := 2) (by decide)
  have z3 := lv_neT h3 (a := 3) (by decide)
  have z4 := lv_neT h4 (a := 4) (by decide)
  refine hs_in ?_ ?_
  · rw [Int32.lt_iff_toInt_lt, show (5 : Int32).toInt = 5 by decide]; omega
  · rw [Int32.lt_iff_toInt_lt, show (10 : Int32).toInt = 10 by decide]; omega
set_option maxHeartbeats 4000000 in
set_option maxRecDepth 100000 in
theorem km_state (l : Launch) (dC : Nat → ClassId) (dI : Nat → Nat → Nat) (cI cZ : ClassId) (h : Nat) (q : Nat → Nat) (sz : Nat) (u : st_T) (p0 : Int32) : gx_Mi l yX1_state wsX1_state { frames := 1, cells := 0, slots := 0, locals := 21 } [.ref h, .int p0] (dC, dI) cI cZ (gw1_ cI cZ h q) u sz (pm_state u p0, u) := by
  refine gx_met (cc := cX1_state) (maxL := 4) (ret := (some .int)) (by decide +kernel) rfl (Nat.le_of_ble_eq_true rfl) (fun p e s m args below meth c A ls hsz hx hb hr hlocks hts hown hml hK hAe hA G hl => ?_)
  have hown : s.vm.findClass RX1 = some m.cls := hown
  have hin : ∀ w ∈ wsX10, w ∈ wsX1_state := gx_in
  have hl : lv_has ls 4 [(0, .ref h), (1, .int p0)] := hl
  have loopA : ∀ (n : Nat) (cn i : Int32), 0 ≤ i.toInt → i.toInt ≤ 4 → 4 - i.toInt < n → pm_state u p0 = pm_se u n cn i → ∀ (H : Heap) (locs : List Loc) (ls : Array Slot), gx_ (dC, dI) A s.heap H locs (gw1_ cI cZ h q u) → lv_has ls 4 [(3, .int i), (2, .int cn), (0, .ref h), (1, .int p0)] → W p l e { frames := 1, cells := 0, slots := 0, locals := 21 } s m args below meth c H locs 0 0 (MQ below (va_Qi (fun r u1 => r = (pm_state u p0, u).1 ∧ u1 = (pm_state u p0, u).2) (gx_O (dC, dI) cI cZ (gw1_ cI cZ h q) (gw1_ cI cZ h q u) sz) (va_A (gw1_ cI cZ h q u) sz)) args s 0 0 (va_A (gw1_ cI cZ h q u) sz)) (F0 m 67 ls []) := by
    intro n
    induction n with
    | zero => intro cn i h1 h2 h3; exact absurd h3 (by omega)
    | succ n ih =>
      intro cn i hi0 hip hin2 hf H locs ls G hl
      rw [pm_se_s u n cn i] at hf
      refine lv_iload_n hx hb dX1_state_67 rfl (lv_at hl 0 rfl) ?_
      refine lv_iconst (v := 4) hx hb dX1_state_68 (by decide) ?_
      refine lv_icmp_ge (tgt := 90) hx hb dX1_state_69 (by decide) (fun c_69 => ?_) (fun c_69 => ?_)
      · refine lv_iload_n hx hb dX1_state_90 rfl (lv_at hl 1 rfl) ?_
        exact gx_iret (wf := gw1_ cI cZ h q) (u1 := u) hx hb hr hlocks hsz hK hAe G dX1_state_91 (congrArg (fun z => (z, u)) (by rw [hf, if_pos c_69]))
      · refine lv_aload_n hx hb dX1_state_72 rfl (lv_at hl 2 rfl) ?_
        refine gg1_get (v := .ref (q 3)) hx hb hts hin hown hK G 3 (by decide) (index := 16) (by decide +kernel) rfl dX1_state_73 ?_
        refine lv_iload_n hx hb dX1_state_76 rfl (lv_at hl 0 rfl) ?_
        refine gg1_ld3 hx hb hK G (i := i) (in_1 (M := 4) (by decide) (by rw [Int32.lt_iff_toInt_lt, Int32.toInt_zero]; omega) c_69) dX1_state_77 ?_
        refine lv_if_eq (tgt := 84) hx hb dX1_state_78 (by decide) (fun c_78 => ?_) (fun c_78 => ?_)
        · refine lv_iinc (v := i + 1) (lv' := [(3, .int (i + 1)), (2, .int cn), (0, .ref h), (1, .int p0)]) hx hb dX1_state_84 hl (k := 0) rfl (congrArg (fun z => i + z) (by decide)) (by decide) rfl (fun ls hl => ?_)
          refine lv_goto (tgt := 67) hx hb dX1_state_87 (by decide) ?_
          have q4 := c_69
          rw [Int32.le_iff_toInt_le, show (4 : Int32).toInt = 4 by decide] at q4
          have q5 := lh_toInt1 (i := i) (by omega) hi0
          exact ih (cn) (i + 1) (by omega) (by omega) (by omega) (by rw [hf, if_neg c_69, if_pos c_78]) H locs ls G (lv_sub hl [0, 1, 2, 3] rfl)
        · refine lv_iinc (v := cn + 1) (lv' := [(2, .int (cn + 1)), (3, .int i), (0, .ref h), (1, .int p0)]) hx hb dX1_state_81 hl (k := 1) rfl (congrArg (fun z => cn + z) (by decide)) (by decide) rfl (fun ls hl => ?_)
          refine lv_iinc (v := i + 1) (lv' := [(3, .int (i + 1)), (2, .int (cn + 1)), (0, .ref h), (1, .int p0)]) hx hb dX1_state_84 hl (k := 1) rfl (congrArg (fun z => i + z) (by decide)) (by decide) rfl (fun ls hl => ?_)
          refine lv_goto (tgt := 67) hx hb dX1_state_87 (by decide) ?_
          have q4 := c_69
          rw [Int32.le_iff_toInt_le, show (4 : Int32).toInt = 4 by decide] at q4
          have q5 := lh_toInt1 (i := i) (by omega) hi0
          exact ih (cn + 1) (i + 1) (by omega) (by omega) (by omega) (by rw [hf, if_neg c_69, if_neg c_78]) H locs ls G (lv_sub hl [0, 1, 2, 3] rfl)
  have loopB : vp_in (p0 - 5) 5 → ∀ (n : Nat) (k : Int32), 0 ≤ k.toInt → k.toInt ≤ (p0 - 5).toInt → (p0 - 5).toInt - k.toInt < n → pm_state u p0 = pm_sl u (u.2 0 (ix (p0 - 5))) n k → ∀ (H : Heap) (locs : List Loc) (ls : Array Slot), gx_ (dC, dI) A s.heap H locs (gw1_ cI cZ h q u) → lv_has ls 4 [(3, .int (u.2 0 (ix (p0 - 5)))), (2, .int k), (0, .ref h), (1, .int p0)] → W p l e { frames := 1, cells := 0, slots := 0, locals := 21 } s m args below meth c H locs 0 0 (MQ below (va_Qi (fun r u1 => r = (pm_state u p0, u).1 ∧ u1 = (pm_state u p0, u).2) (gx_O (dC, dI) cI cZ (gw1_ cI cZ h q) (gw1_ cI cZ h q u) sz) (va_A (gw1_ cI cZ h q u) sz)) args s 0 0 (va_A (gw1_ cI cZ h q u) sz)) (F0 m 101 ls []) := by
    intro hso n
    have hs2 := vp_in_iff.mp hso
    induction n with
    | zero => intro k h1 h2 h3; exact absurd h3 (by omega)
    | succ n ih =>
      intro k hk0 hip hin2 hf H locs ls G hl
      rw [pm_sl_s u (u.2 0 (ix (p0 - 5))) n k] at hf
      refine lv_iload_n hx hb dX1_state_101 rfl (lv_at hl 0 rfl) ?_
      refine lv_if_eq (tgt := 121) hx hb dX1_state_102 (by decide) (fun c_102 => ?_) (fun c_102 => ?_)
      · refine lv_iload_n hx hb dX1_state_121 rfl (lv_at hl 0 rfl) ?_
        refine lv_if_ne (tgt := 130) hx hb dX1_state_122 (by decide) (fun z => absurd c_102 z) (fun _ => ?_)
        refine lv_bipush (v := (-2)) hx hb dX1_state_125 (by decide) ?_
        refine lv_goto (tgt := 131) hx hb dX1_state_127 (by decide) ?_
        exact gx_iret (wf := gw1_ cI cZ h q) (u1 := u) hx hb hr hlocks hsz hK hAe G dX1_state_131 (congrArg (fun z => (z, u)) (by rw [hf, if_pos c_102]))
      · refine lv_aload_n hx hb dX1_state_105 rfl (lv_at hl 2 rfl) ?_
        refine gg1_get (v := .ref (q 0)) hx hb hts hin hown hK G 0 (by decide) (index := 7) (by decide +kernel) rfl dX1_state_106 ?_
        refine lv_iload_n hx hb dX1_state_109 rfl (lv_at hl 1 rfl) ?_
        refine gg1_ld0 hx hb hK G (i := k) (vp_in_iff.mpr (by omega)) dX1_state_110 ?_
        refine lv_iload_n hx hb dX1_state_111 rfl (lv_at hl 0 rfl) ?_
        refine lv_icmp_eq (tgt := 121) hx hb dX1_state_112 (by decide) (fun c_112 => ?_) (fun c_112 => ?_)
        · refine lv_iload_n hx hb dX1_state_121 rfl (lv_at hl 0 rfl) ?_
          refine lv_if_ne (tgt := 130) hx hb dX1_state_122 (by decide) (fun _ => ?_) (fun z => absurd z c_102)
          refine lv_iload_n hx hb dX1_state_130 rfl (lv_at hl 1 rfl) ?_
          exact gx_iret (wf := gw1_ cI cZ h q) (u1 := u) hx hb hr hlocks hsz hK hAe G dX1_state_131 (congrArg (fun z => (z, u)) (by rw [hf, if_neg c_102, if_pos c_112]))
        · refine lv_iinc (v := k + 1) (lv' := [(2, .int (k + 1)), (3, .int (u.2 0 (ix (p0 - 5)))), (0, .ref h), (1, .int p0)]) hx hb dX1_state_115 hl (k := 1) rfl (congrArg (fun z => k + z) (by decide)) (by decide) rfl (fun ls hl => ?_)
          refine lv_goto (tgt := 101) hx hb dX1_state_118 (by decide) ?_
          have q6 : k.toInt ≠ (p0 - 5).toInt := fun z => c_112 (by rw [Int32.toInt_inj.mp z])
          have q5 := lh_toInt1 (i := k) (by omega) hk0
          exact ih (k + 1) (by omega) (by omega) (by omega) (by rw [hf, if_neg c_102, if_neg c_112]) H locs ls G (lv_sub hl [1, 0, 2, 3] rfl)
  refine lv_iload_n hx hb dX1_state_0 rfl (lv_at hl 1 rfl) ?_
  refine lv_if_ne (tgt := 9) hx hb dX1_state_1 (by decide) (fun c_1 => ?_) (fun c_1 => ?_)
  · refine lv_iload_n hx hb dX1_state_9 rfl (lv_at hl 1 rfl) ?_
    refine lv_iconst (v := 1) hx hb dX1_state_10 (by decide) ?_
    refine lv_icmp_ne (tgt := 19) hx hb dX1_state_11 (by decide) (fun c_11 => ?_) (fun c_11 => ?_)
    · refine lv_iload_n hx hb dX1_state_19 rfl (lv_at hl 1 rfl) ?_
      refine lv_iconst (v := 2) hx hb dX1_state_20 (by decide) ?_
      refine lv_icmp_ne (tgt := 29) hx hb dX1_state_21 (by decide) (fun c_21 => ?_) (fun c_21 => ?_)
      · refine lv_iload_n hx hb dX1_state_29 rfl (lv_at hl 1 rfl) ?_
        refine lv_iconst (v := 3) hx hb dX1_state_30 (by decide) ?_
        refine lv_icmp_ne (tgt := 47) hx hb dX1_state_31 (by decide) (fun c_31 => ?_) (fun c_31 => ?_)
        · refine lv_iload_n hx hb dX1_state_47 rfl (lv_at hl 1 rfl) ?_
          refine lv_bipush (v := 10) hx hb dX1_state_48 (by decide) ?_
          refine gx_calls (f := pm_in p0 10) (As := [.int p0, .int 10]) (rest := []) 2 hx hb hml hown hts (km_in l p0 10 ) gX1_state_X1_in rfl rfl rfl hd_X1_in ⟨Nat.le_of_ble_eq_true rfl, Nat.le_of_ble_eq_true rfl⟩ rfl hl.1 rfl (Nat.le_of_ble_eq_true rfl) dX1_state_50 (Nat.zero_le _) (Nat.zero_le _) ?_
          refine lv_if_ne (tgt := 58) hx hb dX1_state_53 (by decide) (fun c_53 => ?_) (fun c_53 => ?_)
          · refine lv_iconst (v := 0) hx hb dX1_state_58 (by decide) ?_
            refine lv_istore_n (lv' := [(2, .int 0), (0, .ref h), (1, .int p0)]) hx hb dX1_state_59 rfl hl (by decide) rfl (fun ls hl => ?_)
            refine lv_iload_n hx hb dX1_state_60 rfl (lv_at hl 2 rfl) ?_
            refine lv_iconst (v := 4) hx hb dX1_state_61 (by decide) ?_
            refine lv_icmp_ne (tgt := 92) hx hb dX1_state_62 (by decide) (fun c_62 => ?_) (fun c_62 => ?_)
            · refine lv_aload_n hx hb dX1_state_92 rfl (lv_at hl 1 rfl) ?_
              refine gg1_get (v := .ref (q 0)) hx hb hts hin hown hK G 0 (by decide) (index := 7) (by decide +kernel) rfl dX1_state_93 ?_
              refine lv_iload_n hx hb dX1_state_96 rfl (lv_at hl 2 rfl) ?_
              refine lv_iconst (v := 5) hx hb dX1_state_97 (by decide) ?_
              refine lv_isub hx hb dX1_state_98 ?_
              refine gg1_ld0 hx hb hK G (i := p0 - 5) (so_in c_1 c_11 c_21 c_31 c_62 c_53) dX1_state_99 ?_
              refine lv_istore_n (lv' := [(3, .int (u.2 0 (ix (p0 - 5)))), (2, .int 0), (0, .ref h), (1, .int p0)]) hx hb dX1_state_100 rfl hl (by decide) rfl (fun ls hl => ?_)
              have hso := so_in c_1 c_11 c_21 c_31 c_62 c_53
              exact loopB hso 6 0 (by simp) (by have z := vp_in_iff.mp hso; rw [Int32.toInt_zero]; omega) (by have z := vp_in_iff.mp hso; rw [Int32.toInt_zero]; omega) (by unfold pm_state; rw [if_neg c_1, if_neg c_11, if_neg c_21, if_neg c_31, if_neg c_53, if_neg c_62]) _ _ ls G (lv_sub hl [0, 1, 2, 3] rfl)
            · refine lv_iconst (v := 0) hx hb dX1_state_65 (by decide) ?_
              refine lv_istore_n (lv' := [(3, .int 0), (2, .int 0), (0, .ref h), (1, .int p0)]) hx hb dX1_state_66 rfl hl (by decide) rfl (fun ls hl => ?_)
              exact loopA 5 0 0 (by simp) (by simp) (by simp) (by unfold pm_state; rw [if_neg c_1, if_neg c_11, if_neg c_21, if_neg c_31, if_neg c_53, if_pos c_62]) _ _ ls G (lv_sub hl [0, 1, 2, 3] rfl)
          · refine lv_iconst (v := (-1)) hx hb dX1_state_56 (by decide) ?_
            exact gx_iret (wf := gw1_ cI cZ h q) (u1 := u) hx hb hr hlocks hsz hK hAe G dX1_state_57 (congrArg (fun z => (z, u)) (by unfold pm_state; rw [if_neg c_1, if_neg c_11, if_neg c_21, if_neg c_31, if_pos c_53]))
        · refine lv_aload_n hx hb dX1_state_34 rfl (lv_at hl 0 rfl) ?_
          refine gg1_get (v := .int (u.1 5)) hx hb hts hin hown hK G 5 (by decide) (index := 61) (by decide +kernel) rfl dX1_state_35 ?_
          refine lv_if_eq (tgt := 45) hx hb dX1_state_38 (by decide) (fun c_38 => ?_) (fun c_38 => ?_)
          · refine lv_iconst (v := 0) hx hb dX1_state_45 (by decide) ?_
            exact gx_iret (wf := gw1_ cI cZ h q) (u1 := u) hx hb hr hlocks hsz hK hAe G dX1_state_46 (congrArg (fun z => (z, u)) (by unfold pm_state; rw [if_neg c_1, if_neg c_11, if_neg c_21, if_pos c_31, if_pos c_38]))
          · refine lv_iconst (v := 1) hx hb dX1_state_41 (by decide) ?_
            refine lv_goto (tgt := 46) hx hb dX1_state_42 (by decide) ?_
            exact gx_iret (wf := gw1_ cI cZ h q) (u1 := u) hx hb hr hlocks hsz hK hAe G dX1_state_46 (congrArg (fun z => (z, u)) (by unfold pm_state; rw [if_neg c_1, if_neg c_11, if_neg c_21, if_pos c_31, if_neg c_38]))
      · refine lv_aload_n hx hb dX1_state_24 rfl (lv_at hl 0 rfl) ?_
        refine gg1_get (v := .int (u.1 4)) hx hb hts hin hown hK G 4 (by decide) (index := 72) (by decide +kernel) rfl dX1_state_25 ?_
        exact gx_iret (wf := gw1_ cI cZ h q) (u1 := u) hx hb hr hlocks hsz hK hAe G dX1_state_28 (congrArg (fun z => (z, u)) (by unfold pm_state; rw [if_neg c_1, if_neg c_11, if_pos c_21]))
    · refine lv_aload_n hx hb dX1_state_14 rfl (lv_at hl 0 rfl) ?_
      refine gg1_get (v := .int (u.1 9)) hx hb hts hin hown hK G 9 (by decide) (index := 43) (by decide +kernel) rfl dX1_state_15 ?_
      exact gx_iret (wf := gw1_ cI cZ h q) (u1 := u) hx hb hr hlocks hsz hK hAe G dX1_state_18 (congrArg (fun z => (z, u)) (by unfold pm_state; rw [if_neg c_1, if_pos c_11]))
  · refine lv_aload_n hx hb dX1_state_4 rfl (lv_at hl 0 rfl) ?_
    refine gg1_get (v := .int (u.1 8)) hx hb hts hin hown hK G 8 (by decide) (index := 40) (by decide +kernel) rfl dX1_state_5 ?_
    exact gx_iret (wf := gw1_ cI cZ h q) (u1 := u) hx hb hr hlocks hsz hK hAe G dX1_state_8 (congrArg (fun z => (z, u)) (by unfold pm_state; rw [if_pos c_1]))
theorem hd_X1_state : yX1_state.cls = RX1 ∧ yX1_state.cls ≠ "java/lang/invoke/MethodHandle" ∧ yX1_state.cls ≠ "java/lang/invoke/VarHandle" ∧ (parseMethodDescriptor yX1_state.desc).map (fun d => d.parameters.length) = some 1 := by decide +kernel
