/-! free: the law's own method -/
theorem i_ge0 {x : Int32} (h : 0 ≤ x) : ¬ x < 0 := by
  rw [Int32.le_iff_toInt_le] at h
  rw [Int32.lt_iff_toInt_lt]
  omega
theorem i_ge1 {x : Int32} (h : ¬ x < 0) : 0 ≤ x := by
  rw [Int32.lt_iff_toInt_lt] at h
  rw [Int32.le_iff_toInt_le]
  omega
set_option maxHeartbeats 4000000 in
set_option maxRecDepth 100000 in
theorem kt_free (l : Launch) (dC : Nat → ClassId) (dI : Nat → Nat → Nat) (cI cZ : ClassId) (h : Nat) (q : Nat → Nat) (sz : Nat) (u : st_T) (x : Nat) (hx5 : x < 5) (hu : iv_ u) : Met l yL_free wsL_free { frames := 6, cells := 0, slots := 0, locals := 133 } (va_Pc [.ref h, .int (nI x)] (fun U => gx_I (dC, dI) cI cZ (gw0_ cI cZ h q u) sz U ∧ True)) (va_Qi (fun r u1 => r = 1 ∧ iv_ u1) (gx_O (dC, dI) cI cZ (gw0_ cI cZ h q) (gw0_ cI cZ h q u) sz) (va_A (gw0_ cI cZ h q u) sz)) 0 0 (va_A (gw0_ cI cZ h q u) sz) := by
  refine gx_metX (cc := cL_free) (maxL := 3) (ret := (some .boolean)) (by decide +kernel) rfl (Nat.le_of_ble_eq_true rfl) (fun p e s m args below meth c A ls hsz hx hb hr hlocks hts hown hml hK hAe hA G _ hl => ?_)
  have hown : s.vm.findClass RL = some m.cls := hown
  have hl : lv_has ls 3 [(0, .ref h), (1, .int (nI x))] := hl
  obtain ⟨a, r, v1, v2, v3, v4, v5, w, s0, ha, n1, s1, n2, s2, n3, s3, n4, s4, n5, s5, nw, fin⟩ := free_ok hu hx5
  have m0 : ∀ sz, gx_Mi l yX0_clear wsX0_clear { frames := 0, cells := 0, slots := 0, locals := 0 } [.ref h] (dC, dI) cI cZ (gw0_ cI cZ h q) u sz (a, v1) := fun sz => by rw [← s0]; exact kd_clear l dC dI cI cZ h q sz u
  have m1 : ∀ sz, gx_Mi l yX0_step wsX0_step { frames := 1, cells := 0, slots := 0, locals := 20 } [.ref h, .int 5, .int (nI x)] (dC, dI) cI cZ (gw0_ cI cZ h q) v1 sz (1, v2) := fun sz => by rw [← s1]; exact kd_step l dC dI cI cZ h q sz v1 5 (nI x) (iv_pre n1).1 (iv_pre n1).2
  have m2 : ∀ sz, gx_Mi l yX0_step wsX0_step { frames := 1, cells := 0, slots := 0, locals := 20 } [.ref h, .int 2, .int 0] (dC, dI) cI cZ (gw0_ cI cZ h q) v2 sz (2, v3) := fun sz => by rw [← s2]; exact kd_step l dC dI cI cZ h q sz v2 2 0 (iv_pre n2).1 (iv_pre n2).2
  have m3 : ∀ sz, gx_Mi l yX0_step wsX0_step { frames := 1, cells := 0, slots := 0, locals := 20 } [.ref h, .int 3, .int (nI x)] (dC, dI) cI cZ (gw0_ cI cZ h q) v3 sz (3, v4) := fun sz => by rw [← s3]; exact kd_step l dC dI cI cZ h q sz v3 3 (nI x) (iv_pre n3).1 (iv_pre n3).2
  have m4 : ∀ sz, gx_Mi l yX0_step wsX0_step { frames := 1, cells := 0, slots := 0, locals := 20 } [.ref h, .int 0, .int 0] (dC, dI) cI cZ (gw0_ cI cZ h q) v4 sz (4, v5) := fun sz => by rw [← s4]; exact kd_step l dC dI cI cZ h q sz v4 0 0 (iv_pre n4).1 (iv_pre n4).2
  have m5 : ∀ sz, gx_Mi l yX0_run wsX0_run { frames := 5, cells := 0, slots := 0, locals := 111 } [.ref h] (dC, dI) cI cZ (gw0_ cI cZ h q) v5 sz (r, w) := fun sz => by rw [← s5]; exact kd_run l dC dI cI cZ h q sz v5 (iv_run n5)
  refine lv_aload_n hx hb dL_free_0 rfl (lv_at hl 0 rfl) ?_
  refine gx_calli (wf := gw0_ cI cZ h q) (u := u) (f := (a, v1)) (As := []) (rest := []) 0 hx hb hml hown hts hK hA G rfl rfl (m0 _) gL_free_X0_clear rfl rfl rfl hd_X0_clear ⟨Nat.le_of_ble_eq_true rfl, Nat.le_of_ble_eq_true rfl⟩ rfl hl.1 rfl (Nat.le_of_ble_eq_true rfl) dL_free_1 (Nat.zero_le _) (Nat.zero_le _) (fun H locs G => ?_)
  have G : gx_ (dC, dI) A s.heap H locs (gw0_ cI cZ h q v1) := G
  refine lv_if_lt (tgt := 47) hx hb dL_free_4 (by decide) (fun z => absurd z ha) (fun _ => ?_)
  refine lv_aload_n hx hb dL_free_7 rfl (lv_at hl 0 rfl) ?_
  refine lv_iconst (v := 5) hx hb dL_free_8 (by decide) ?_
  refine lv_iload_n hx hb dL_free_9 rfl (lv_at hl 1 rfl) ?_
  refine gx_calli (wf := gw0_ cI cZ h q) (u := v1) (f := (1, v2)) (As := [.int 5, .int (nI x)]) (rest := []) 2 hx hb hml hown hts hK hA G rfl rfl (m1 _) gL_free_X0_step rfl rfl rfl hd_X0_step ⟨Nat.le_of_ble_eq_true rfl, Nat.le_of_ble_eq_true rfl⟩ rfl hl.1 rfl (Nat.le_of_ble_eq_true rfl) dL_free_10 (Nat.zero_le _) (Nat.zero_le _) (fun H locs G => ?_)
  have G : gx_ (dC, dI) A s.heap H locs (gw0_ cI cZ h q v2) := G
  refine lv_iconst (v := 1) hx hb dL_free_13 (by decide) ?_
  refine lv_icmp_ne (tgt := 47) hx hb dL_free_14 (by decide) (fun z => absurd rfl z) (fun _ => ?_)
  refine lv_aload_n hx hb dL_free_17 rfl (lv_at hl 0 rfl) ?_
  refine lv_iconst (v := 2) hx hb dL_free_18 (by decide) ?_
  refine lv_iconst (v := 0) hx hb dL_free_19 (by decide) ?_
  refine gx_calli (wf := gw0_ cI cZ h q) (u := v2) (f := (2, v3)) (As := [.int 2, .int 0]) (rest := []) 2 hx hb hml hown hts hK hA G rfl rfl (m2 _) gL_free_X0_step rfl rfl rfl hd_X0_step ⟨Nat.le_of_ble_eq_true rfl, Nat.le_of_ble_eq_true rfl⟩ rfl hl.1 rfl (Nat.le_of_ble_eq_true rfl) dL_free_20 (Nat.zero_le _) (Nat.zero_le _) (fun H locs G => ?_)
  have G : gx_ (dC, dI) A s.heap H locs (gw0_ cI cZ h q v3) := G
  refine lv_iconst (v := 2) hx hb dL_free_23 (by decide) ?_
  refine lv_icmp_ne (tgt := 47) hx hb dL_free_24 (by decide) (fun z => absurd rfl z) (fun _ => ?_)
  refine lv_aload_n hx hb dL_free_27 rfl (lv_at hl 0 rfl) ?_
  refine lv_iconst (v := 3) hx hb dL_free_28 (by decide) ?_
  refine lv_iload_n hx hb dL_free_29 rfl (lv_at hl 1 rfl) ?_
  refine gx_calli (wf := gw0_ cI cZ h q) (u := v3) (f := (3, v4)) (As := [.int 3, .int (nI x)]) (rest := []) 2 hx hb hml hown hts hK hA G rfl rfl (m3 _) gL_free_X0_step rfl rfl rfl hd_X0_step ⟨Nat.le_of_ble_eq_true rfl, Nat.le_of_ble_eq_true rfl⟩ rfl hl.1 rfl (Nat.le_of_ble_eq_true rfl) dL_free_30 (Nat.zero_le _) (Nat.zero_le _) (fun H locs G => ?_)
  have G : gx_ (dC, dI) A s.heap H locs (gw0_ cI cZ h q v4) := G
  refine lv_iconst (v := 3) hx hb dL_free_33 (by decide) ?_
  refine lv_icmp_ne (tgt := 47) hx hb dL_free_34 (by decide) (fun z => absurd rfl z) (fun _ => ?_)
  refine lv_aload_n hx hb dL_free_37 rfl (lv_at hl 0 rfl) ?_
  refine lv_iconst (v := 0) hx hb dL_free_38 (by decide) ?_
  refine lv_iconst (v := 0) hx hb dL_free_39 (by decide) ?_
  refine gx_calli (wf := gw0_ cI cZ h q) (u := v4) (f := (4, v5)) (As := [.int 0, .int 0]) (rest := []) 2 hx hb hml hown hts hK hA G rfl rfl (m4 _) gL_free_X0_step rfl rfl rfl hd_X0_step ⟨Nat.le_of_ble_eq_true rfl, Nat.le_of_ble_eq_true rfl⟩ rfl hl.1 rfl (Nat.le_of_ble_eq_true rfl) dL_free_40 (Nat.zero_le _) (Nat.zero_le _) (fun H locs G => ?_)
  have G : gx_ (dC, dI) A s.heap H locs (gw0_ cI cZ h q v5) := G
  refine lv_iconst (v := 4) hx hb dL_free_43 (by decide) ?_
  refine lv_icmp_eq (tgt := 49) hx hb dL_free_44 (by decide) (fun _ => ?_) (fun z => absurd rfl z)
  refine lv_aload_n hx hb dL_free_49 rfl (lv_at hl 0 rfl) ?_
  refine gx_calli (wf := gw0_ cI cZ h q) (u := v5) (f := (r, w)) (As := []) (rest := []) 0 hx hb hml hown hts hK hA G rfl rfl (m5 _) gL_free_X0_run rfl rfl rfl hd_X0_run ⟨Nat.le_of_ble_eq_true rfl, Nat.le_of_ble_eq_true rfl⟩ rfl hl.1 rfl (Nat.le_of_ble_eq_true rfl) dL_free_50 (Nat.zero_le _) (Nat.zero_le _) (fun H locs G => ?_)
  have G : gx_ (dC, dI) A s.heap H locs (gw0_ cI cZ h q w) := G
  refine lv_istore_n (lv' := [(2, .int r), (0, .ref h), (1, .int (nI x))]) hx hb dL_free_53 rfl hl (by decide) rfl (fun ls hl => ?_)
  refine lv_aload_n hx hb dL_free_54 rfl (lv_at hl 1 rfl) ?_
  refine lv_iconst (v := 5) hx hb dL_free_55 (by decide) ?_
  refine lv_iload_n hx hb dL_free_56 rfl (lv_at hl 2 rfl) ?_
  refine lv_iadd hx hb dL_free_57 ?_
  refine gx_callr (wf := gw0_ cI cZ h q) (u := w) (f := (pd_state w (5 + nI x))) (As := [.int (5 + nI x)]) (rest := []) 1 hx hb hml hown hts hK hA G rfl rfl (kd_state l dC dI cI cZ h q _ w (5 + nI x)) gL_free_X0_state rfl rfl rfl hd_X0_state ⟨Nat.le_of_ble_eq_true rfl, Nat.le_of_ble_eq_true rfl⟩ rfl hl.1 rfl (Nat.le_of_ble_eq_true rfl) dL_free_58 (Nat.zero_le _) (Nat.zero_le _) (fun H locs G => ?_)
  rcases fin with ⟨g1, g2, g3, g4⟩ | ⟨g1, g2, g3, g4, g5⟩
  · refine lv_if_ge (tgt := 94) hx hb dL_free_61 (by decide) (fun z => absurd g1 (i_ge0 z)) (fun _ => ?_)
    refine lv_iload_n hx hb dL_free_64 rfl (lv_at hl 0 rfl) ?_
    refine lv_iconst (v := 1) hx hb dL_free_65 (by decide) ?_
    refine lv_icmp_ne (tgt := 92) hx hb dL_free_66 (by decide) (fun z => absurd g2 z) (fun _ => ?_)
    refine lv_aload_n hx hb dL_free_69 rfl (lv_at hl 1 rfl) ?_
    refine lv_iconst (v := 0) hx hb dL_free_70 (by decide) ?_
    refine gx_callr (wf := gw0_ cI cZ h q) (u := w) (f := (pd_result w 0)) (As := [.int 0]) (rest := []) 1 hx hb hml hown hts hK hA G rfl rfl (kd_result l dC dI cI cZ h q _ w 0) gL_free_X0_result rfl rfl rfl hd_X0_result ⟨Nat.le_of_ble_eq_true rfl, Nat.le_of_ble_eq_true rfl⟩ rfl hl.1 rfl (Nat.le_of_ble_eq_true rfl) dL_free_71 (Nat.zero_le _) (Nat.zero_le _) (fun H locs G => ?_)
    refine lv_sipush (v := (-999)) hx hb dL_free_74 (by decide) ?_
    refine lv_icmp_ne (tgt := 92) hx hb dL_free_77 (by decide) (fun z => absurd g3 z) (fun _ => ?_)
    refine lv_aload_n hx hb dL_free_80 rfl (lv_at hl 1 rfl) ?_
    refine gx_callr (wf := gw0_ cI cZ h q) (u := w) (f := (pd_failure w)) (As := []) (rest := []) 0 hx hb hml hown hts hK hA G rfl rfl (kd_failure l dC dI cI cZ h q _ w) gL_free_X0_failure rfl rfl rfl hd_X0_failure ⟨Nat.le_of_ble_eq_true rfl, Nat.le_of_ble_eq_true rfl⟩ rfl hl.1 rfl (Nat.le_of_ble_eq_true rfl) dL_free_81 (Nat.zero_le _) (Nat.zero_le _) (fun H locs G => ?_)
    refine lv_iconst (v := 1) hx hb dL_free_84 (by decide) ?_
    refine lv_icmp_ne (tgt := 92) hx hb dL_free_85 (by decide) (fun z => absurd g4 z) (fun _ => ?_)
    refine lv_iconst (v := 1) hx hb dL_free_88 (by decide) ?_
    refine lv_goto (tgt := 93) hx hb dL_free_89 (by decide) ?_
    exact gx_pzret (wf := gw0_ cI cZ h q) (u1 := w) hx hb hr hlocks hK hAe G dL_free_93 rfl ⟨rfl, nw⟩
  · refine lv_if_ge (tgt := 94) hx hb dL_free_61 (by decide) (fun _ => ?_) (fun z => absurd (i_ge1 g1) z)
    refine lv_iload_n hx hb dL_free_94 rfl (lv_at hl 0 rfl) ?_
    refine lv_iconst (v := 3) hx hb dL_free_95 (by decide) ?_
    refine lv_icmp_ne (tgt := 129) hx hb dL_free_96 (by decide) (fun z => absurd g2 z) (fun _ => ?_)
    refine lv_aload_n hx hb dL_free_99 rfl (lv_at hl 1 rfl) ?_
    refine lv_iconst (v := 0) hx hb dL_free_100 (by decide) ?_
    refine gx_callr (wf := gw0_ cI cZ h q) (u := w) (f := (pd_result w 0)) (As := [.int 0]) (rest := []) 1 hx hb hml hown hts hK hA G rfl rfl (kd_result l dC dI cI cZ h q _ w 0) gL_free_X0_result rfl rfl rfl hd_X0_result ⟨Nat.le_of_ble_eq_true rfl, Nat.le_of_ble_eq_true rfl⟩ rfl hl.1 rfl (Nat.le_of_ble_eq_true rfl) dL_free_101 (Nat.zero_le _) (Nat.zero_le _) (fun H locs G => ?_)
    refine lv_if_ne (tgt := 129) hx hb dL_free_104 (by decide) (fun z => absurd g3 z) (fun _ => ?_)
    refine lv_aload_n hx hb dL_free_107 rfl (lv_at hl 1 rfl) ?_
    refine lv_iconst (v := 2) hx hb dL_free_108 (by decide) ?_
    refine gx_callr (wf := gw0_ cI cZ h q) (u := w) (f := (pd_result w 2)) (As := [.int 2]) (rest := []) 1 hx hb hml hown hts hK hA G rfl rfl (kd_result l dC dI cI cZ h q _ w 2) gL_free_X0_result rfl rfl rfl hd_X0_result ⟨Nat.le_of_ble_eq_true rfl, Nat.le_of_ble_eq_true rfl⟩ rfl hl.1 rfl (Nat.le_of_ble_eq_true rfl) dL_free_109 (Nat.zero_le _) (Nat.zero_le _) (fun H locs G => ?_)
    refine lv_sipush (v := (-998)) hx hb dL_free_112 (by decide) ?_
    refine lv_icmp_ne (tgt := 129) hx hb dL_free_115 (by decide) (fun z => absurd g4 z) (fun _ => ?_)
    refine lv_aload_n hx hb dL_free_118 rfl (lv_at hl 1 rfl) ?_
    refine gx_callr (wf := gw0_ cI cZ h q) (u := w) (f := (pd_failure w)) (As := []) (rest := []) 0 hx hb hml hown hts hK hA G rfl rfl (kd_failure l dC dI cI cZ h q _ w) gL_free_X0_failure rfl rfl rfl hd_X0_failure ⟨Nat.le_of_ble_eq_true rfl, Nat.le_of_ble_eq_true rfl⟩ rfl hl.1 rfl (Nat.le_of_ble_eq_true rfl) dL_free_119 (Nat.zero_le _) (Nat.zero_le _) (fun H locs G => ?_)
    refine lv_if_ne (tgt := 129) hx hb dL_free_122 (by decide) (fun z => absurd g5 z) (fun _ => ?_)
    refine lv_iconst (v := 1) hx hb dL_free_125 (by decide) ?_
    refine lv_goto (tgt := 130) hx hb dL_free_126 (by decide) ?_
    exact gx_pzret (wf := gw0_ cI cZ h q) (u1 := w) hx hb hr hlocks hK hAe G dL_free_130 rfl ⟨rfl, nw⟩
theorem hd_L_free : yL_free.cls ≠ "java/lang/invoke/MethodHandle" ∧ yL_free.cls ≠ "java/lang/invoke/VarHandle" ∧ (parseMethodDescriptor yL_free.desc).map (fun d => d.parameters.length) = some 2 := by decide +kernel
