/-! type: the law's own method -/
set_option maxHeartbeats 4000000 in
set_option maxRecDepth 100000 in
theorem kt_type (l : Launch) (dC : Nat → ClassId) (dI : Nat → Nat → Nat) (cI cZ : ClassId) (h : Nat) (q : Nat → Nat) (sz : Nat) (u : st_T) (b L f : Nat) (xs : Nat → Int32) (hfL : f + 16 ≤ L) (hL : L ≤ 260) (hu : jv_ u 0 []) : Met l yL_type wsL_type { frames := 3, cells := 0, slots := 0, locals := 65 } (va_Pc [.ref h, .ref b, .int (nI f), .int (nI (f + 16))] (fun U => gx_I (dC, dI) cI cZ (gw0_ cI cZ h q u) sz U ∧ va_X b L xs U U.heap ∧ ∀ (k : Nat) (e : va_E), ¬ (gw0_ cI cZ h q u)[k]? = some (b, e))) (va_Qv (fun u1 => iv_ u1 ∧ u1.1 10 = 0) (gx_O (dC, dI) cI cZ (gw0_ cI cZ h q) (gw0_ cI cZ h q u) sz) (va_A (gw0_ cI cZ h q u) sz)) 0 0 (va_A (gw0_ cI cZ h q u) sz) := by
  refine gx_metX (cc := cL_type) (maxL := 8) (ret := none) (by decide +kernel) rfl (Nat.le_of_ble_eq_true rfl) (fun p e s m args below meth c A ls hsz hx hb hr hlocks hts hown hml hK hAe hA G hB2 hl => ?_)
  have hown : s.vm.findClass RL = some m.cls := hown
  obtain ⟨hX, hnb⟩ := hB2
  have hbl : b < s.heap.size := by
    obtain ⟨scr, h1, -⟩ := hX
    exact (Array.getElem?_eq_some_iff.mp h1).1
  have hbA : ¬ A b := by
    rw [hAe]
    rintro (⟨k, e, hk⟩ | hk)
    · exact hnb k e hk
    · omega
  have hl : lv_has ls 8 [(0, .ref h), (1, .ref b), (2, .int (nI f)), (3, .int (nI (f + 16)))] := hl
  have clo : ∀ (n : Nat) (v : st_T) (nn : Nat) (Ls : List Nat) (x4 : Int32), Ls.length < n → jv_ v nn Ls → nn + Ls.length ≤ 23 → ∀ (H : Heap) (locs : List Loc) (ls : Array Slot), gx_ (dC, dI) A s.heap H locs (gw0_ cI cZ h q v) → lv_has ls 8 [(4, .int x4), (0, .ref h), (1, .ref b), (2, .int (nI f)), (3, .int (nI (f + 16)))] → W p l e { frames := 3, cells := 0, slots := 0, locals := 65 } s m args below meth c H locs 0 0 (MQ below (va_Qv (fun u1 => iv_ u1 ∧ u1.1 10 = 0) (gx_O (dC, dI) cI cZ (gw0_ cI cZ h q) (gw0_ cI cZ h q u) sz) (va_A (gw0_ cI cZ h q u) sz)) args s 0 0 (va_A (gw0_ cI cZ h q u) sz)) (F0 m 164 ls []) := by
    intro n
    induction n with
    | zero => intro v nn Ls x4 h1; exact absurd h1 (Nat.not_lt_zero _)
    | succ n ih =>
      intro v nn Ls x4 h1 hj hs H locs ls G hl
      refine lv_aload_n hx hb dL_type_164 rfl (lv_at hl 1 rfl) ?_
      refine lv_iconst (v := 1) hx hb dL_type_165 (by decide) ?_
      refine gx_callr (wf := gw0_ cI cZ h q) (u := v) (f := (pd_state v 1)) (As := [.int 1]) (rest := []) 1 hx hb hml hown hts hK hA G rfl rfl (kd_state l dC dI cI cZ h q _ v 1) gL_type_X0_state rfl rfl rfl hd_X0_state ⟨Nat.le_of_ble_eq_true rfl, Nat.le_of_ble_eq_true rfl⟩ rfl hl.1 rfl (Nat.le_of_ble_eq_true rfl) dL_type_166 (Nat.zero_le _) (Nat.zero_le _) (fun H locs G => ?_)
      refine gx_is (y := nI Ls.length) hj.2.2.2.2.1 ?_
      refine lv_if_le (tgt := 183) hx hb dL_type_169 (by decide) (fun c_169 => ?_) (fun c_169 => ?_)
      · have e0 : Ls.length = 0 := by
          rw [← nI_0, nI_leI (by have := hj.2.2.2.2.2.2.2; omega) (by decide)] at c_169
          omega
        exact gx_pvret (wf := gw0_ cI cZ h q) (u1 := v) hx hb hr hlocks hK hAe G dL_type_183 ⟨⟨nn, Ls, hj⟩, by rw [hj.2.2.2.2.1, e0]; rfl⟩
      · cases Ls with
        | nil => exact absurd (by decide) c_169
        | cons b0 r =>
          rw [List.length_cons] at h1 hs
          have hj2 := end_ok hj (by omega) 0
          refine lv_aload_n hx hb dL_type_172 rfl (lv_at hl 1 rfl) ?_
          refine lv_iconst (v := 0) hx hb dL_type_173 (by decide) ?_
          refine lv_iconst (v := 0) hx hb dL_type_174 (by decide) ?_
          refine gx_calli (wf := gw0_ cI cZ h q) (u := v) (f := (pd_step v 0 0)) (As := [.int 0, .int 0]) (rest := []) 2 hx hb hml hown hts hK hA G rfl rfl (kd_step l dC dI cI cZ h q _ v 0 0 (jv_pre hj).1 (jv_pre hj).2) gL_type_X0_step rfl rfl rfl hd_X0_step ⟨Nat.le_of_ble_eq_true rfl, Nat.le_of_ble_eq_true rfl⟩ rfl hl.1 rfl (Nat.le_of_ble_eq_true rfl) dL_type_175 (Nat.zero_le _) (Nat.zero_le _) (fun H locs G => ?_)
          refine lv_istore (lv' := [(4, .int (pd_step v 0 0).1), (0, .ref h), (1, .ref b), (2, .int (nI f)), (3, .int (nI (f + 16)))]) hx hb dL_type_178 hl (by decide) rfl (fun ls hl => ?_)
          refine lv_goto (tgt := 164) hx hb dL_type_180 (by decide) ?_
          exact ih (pd_step v 0 0).2 (nn + 1) r _ (by omega) hj2 (by omega) H locs ls G hl
  have loop : ∀ (n k : Nat), k ≤ 8 → 9 ≤ k + n → ∀ (v : st_T) (nn : Nat) (Ls : List Nat) (x4 : Int32), jv_ v nn Ls → nn + Ls.length ≤ 23 → ∀ (H : Heap) (locs : List Loc) (ls : Array Slot), gx_ (dC, dI) A s.heap H locs (gw0_ cI cZ h q v) → lv_has ls 8 [(5, .int (nI (f + 2 * k))), (4, .int x4), (0, .ref h), (1, .ref b), (2, .int (nI f)), (3, .int (nI (f + 16)))] → W p l e { frames := 3, cells := 0, slots := 0, locals := 65 } s m args below meth c H locs 0 0 (MQ below (va_Qv (fun u1 => iv_ u1 ∧ u1.1 10 = 0) (gx_O (dC, dI) cI cZ (gw0_ cI cZ h q) (gw0_ cI cZ h q u) sz) (va_A (gw0_ cI cZ h q u) sz)) args s 0 0 (va_A (gw0_ cI cZ h q u) sz)) (F0 m 6 ls []) := by
    intro n
    induction n with
    | zero => intro k h1 h2; exact absurd h2 (by omega)
    | succ n ih =>
      intro k hk8 hkn v nn Ls x4 hj hs H locs ls G hl
      refine lv_iload hx hb dL_type_6 (lv_at hl 0 rfl) ?_
      refine lv_iconst (v := nI 2) hx hb dL_type_8 (by decide) ?_
      refine lv_iadd hx hb dL_type_9 ?_
      refine gx_is (y := nI (f + 2 * k + 2)) (nI_add _ _) ?_
      refine lv_iload_n hx hb dL_type_10 rfl (lv_at hl 5 rfl) ?_
      refine lv_icmp_gt (tgt := 164) hx hb dL_type_11 (by decide) (fun c_11 => ?_) (fun c_11 => ?_)
      · exact clo _ v nn Ls x4 (Nat.lt_succ_self _) hj hs H locs ls G (lv_sub hl [1, 2, 3, 4, 5] rfl)
      · have hk7 : k ≤ 7 := by
          rw [nI_ltI (by omega) (by omega)] at c_11
          omega
        have i0 : vp_in (nI (f + 2 * k)) L := vp_in_nI (by omega) (by omega)
        have i1 : vp_in (nI (f + 2 * k) + 1) L := by rw [nI_1]; exact vp_in_nI (by omega) (by omega)
        have next : ∀ (v : st_T) (nn : Nat) (Ls : List Nat) (x4 : Int32), jv_ v nn Ls → nn + Ls.length ≤ 23 → ∀ (H : Heap) (locs : List Loc) (ls : Array Slot), gx_ (dC, dI) A s.heap H locs (gw0_ cI cZ h q v) → lv_has ls 8 [(5, .int (nI (f + 2 * k))), (4, .int x4), (0, .ref h), (1, .ref b), (2, .int (nI f)), (3, .int (nI (f + 16)))] → W p l e { frames := 3, cells := 0, slots := 0, locals := 65 } s m args below meth c H locs 0 0 (MQ below (va_Qv (fun u1 => iv_ u1 ∧ u1.1 10 = 0) (gx_O (dC, dI) cI cZ (gw0_ cI cZ h q) (gw0_ cI cZ h q u) sz) (va_A (gw0_ cI cZ h q u) sz)) args s 0 0 (va_A (gw0_ cI cZ h q u) sz)) (F0 m 158 ls []) := by
          intro v nn Ls x4 hj hs H locs ls G hl
          refine lv_iinc (v := nI (f + 2 * (k + 1))) (lv' := [(5, .int (nI (f + 2 * (k + 1)))), (4, .int x4), (0, .ref h), (1, .ref b), (2, .int (nI f)), (3, .int (nI (f + 16)))]) hx hb dL_type_158 hl (k := 0) rfl (by show nI (f + 2 * k) + nI 2 = nI (f + 2 * (k + 1)); rw [nI_add]; rfl) (by decide) rfl (fun ls hl => ?_)
          refine lv_goto (tgt := 6) hx hb dL_type_161 (by decide) ?_
          exact ih (k + 1) (by omega) (by omega) v nn Ls x4 hj hs H locs ls G hl
        have at153 : ∀ (op w ar : Int32), nn + Ls.length < 22 → ∀ (H : Heap) (locs : List Loc) (ls : Array Slot), gx_ (dC, dI) A s.heap H locs (gw0_ cI cZ h q v) → lv_has ls 8 [(7, .int op), (6, .int w), (5, .int (nI (f + 2 * k))), (4, .int x4), (0, .ref h), (1, .ref b), (2, .int (nI f)), (3, .int (nI (f + 16)))] → W p l e { frames := 3, cells := 0, slots := 0, locals := 65 } s m args below meth c H locs 0 0 (MQ below (va_Qv (fun u1 => iv_ u1 ∧ u1.1 10 = 0) (gx_O (dC, dI) cI cZ (gw0_ cI cZ h q) (gw0_ cI cZ h q u) sz) (va_A (gw0_ cI cZ h q u) sz)) args s 0 0 (va_A (gw0_ cI cZ h q u) sz)) (F0 m 153 ls [.int ar, .int op, .ref h]) := by
          intro op w ar hlt H locs ls G hl
          obtain ⟨n1, L1, hj1, hs1⟩ := step_ok hj op ar
          refine gx_calli (wf := gw0_ cI cZ h q) (u := v) (f := (pd_step v op ar)) (As := [.int op, .int ar]) (rest := []) 2 hx hb hml hown hts hK hA G rfl rfl (kd_step l dC dI cI cZ h q _ v op ar (jv_pre hj).1 (jv_pre hj).2) gL_type_X0_step rfl rfl rfl hd_X0_step ⟨Nat.le_of_ble_eq_true rfl, Nat.le_of_ble_eq_true rfl⟩ rfl hl.1 rfl (Nat.le_of_ble_eq_true rfl) dL_type_153 (Nat.zero_le _) (Nat.zero_le _) (fun H locs G => ?_)
          refine lv_istore (lv' := [(4, .int (pd_step v op ar).1), (7, .int op), (6, .int w), (5, .int (nI (f + 2 * k))), (0, .ref h), (1, .ref b), (2, .int (nI f)), (3, .int (nI (f + 16)))]) hx hb dL_type_156 hl (by decide) rfl (fun ls hl => ?_)
          exact next (pd_step v op ar).2 n1 L1 _ hj1 (by omega) H locs ls G (lv_sub hl [3, 0, 4, 5, 6, 7] rfl)
        have at104 : ∀ (w op : Int32), ∀ (H : Heap) (locs : List Loc) (ls : Array Slot), gx_ (dC, dI) A s.heap H locs (gw0_ cI cZ h q v) → lv_has ls 8 [(6, .int w), (5, .int (nI (f + 2 * k))), (4, .int x4), (0, .ref h), (1, .ref b), (2, .int (nI f)), (3, .int (nI (f + 16)))] → W p l e { frames := 3, cells := 0, slots := 0, locals := 65 } s m args below meth c H locs 0 0 (MQ below (va_Qv (fun u1 => iv_ u1 ∧ u1.1 10 = 0) (gx_O (dC, dI) cI cZ (gw0_ cI cZ h q) (gw0_ cI cZ h q u) sz) (va_A (gw0_ cI cZ h q u) sz)) args s 0 0 (va_A (gw0_ cI cZ h q u) sz)) (F0 m 104 ls [.int op]) := by
          intro w op H locs ls G hl
          refine lv_istore (lv' := [(7, .int op), (6, .int w), (5, .int (nI (f + 2 * k))), (4, .int x4), (0, .ref h), (1, .ref b), (2, .int (nI f)), (3, .int (nI (f + 16)))]) hx hb dL_type_104 hl (by decide) rfl (fun ls hl => ?_)
          refine lv_aload_n hx hb dL_type_106 rfl (lv_at hl 4 rfl) ?_
          refine lv_iconst (v := 0) hx hb dL_type_107 (by decide) ?_
          refine gx_callr (wf := gw0_ cI cZ h q) (u := v) (f := (pd_state v 0)) (As := [.int 0]) (rest := []) 1 hx hb hml hown hts hK hA G rfl rfl (kd_state l dC dI cI cZ h q _ v 0) gL_type_X0_state rfl rfl rfl hd_X0_state ⟨Nat.le_of_ble_eq_true rfl, Nat.le_of_ble_eq_true rfl⟩ rfl hl.1 rfl (Nat.le_of_ble_eq_true rfl) dL_type_108 (Nat.zero_le _) (Nat.zero_le _) (fun H locs G => ?_)
          refine gx_is (y := nI nn) hj.1 ?_
          refine lv_aload_n hx hb dL_type_111 rfl (lv_at hl 4 rfl) ?_
          refine lv_iconst (v := 1) hx hb dL_type_112 (by decide) ?_
          refine gx_callr (wf := gw0_ cI cZ h q) (u := v) (f := (pd_state v 1)) (As := [.int 1]) (rest := [.int (nI nn)]) 1 hx hb hml hown hts hK hA G rfl rfl (kd_state l dC dI cI cZ h q _ v 1) gL_type_X0_state rfl rfl rfl hd_X0_state ⟨Nat.le_of_ble_eq_true rfl, Nat.le_of_ble_eq_true rfl⟩ rfl hl.1 rfl (Nat.le_of_ble_eq_true rfl) dL_type_113 (Nat.zero_le _) (Nat.zero_le _) (fun H locs G => ?_)
          refine gx_is (y := nI Ls.length) hj.2.2.2.2.1 ?_
          refine lv_iadd hx hb dL_type_116 ?_
          refine gx_is (y := nI (nn + Ls.length)) (nI_add _ _) ?_
          refine lv_bipush (v := nI 22) hx hb dL_type_117 (by decide) ?_
          refine lv_icmp_ge (tgt := 158) hx hb dL_type_119 (by decide) (fun c_119 => ?_) (fun c_119 => ?_)
          · exact next v nn Ls x4 hj hs H locs ls G (lv_sub hl [2, 3, 4, 5, 6, 7] rfl)
          · have hlt : nn + Ls.length < 22 := by
              rw [nI_leI (by decide) (by omega)] at c_119
              omega
            refine lv_aload_n hx hb dL_type_122 rfl (lv_at hl 4 rfl) ?_
            refine lv_iload hx hb dL_type_123 (lv_at hl 0 rfl) ?_
            refine lv_aload_n hx hb dL_type_125 rfl (lv_at hl 5 rfl) ?_
            refine lv_iload hx hb dL_type_126 (lv_at hl 2 rfl) ?_
            refine va_sld hx hb hX hbl hbA G.2.2 i0 dL_type_128 ?_
            refine lv_bipush (v := 32) hx hb dL_type_129 (by decide) ?_
            refine lv_iand hx hb dL_type_131 ?_
            refine lv_if_eq (tgt := 144) hx hb dL_type_132 (by decide) (fun _ => ?_) (fun _ => ?_)
            · refine lv_aload_n hx hb dL_type_144 rfl (lv_at hl 5 rfl) ?_
              refine lv_iload hx hb dL_type_145 (lv_at hl 2 rfl) ?_
              refine lv_iconst (v := 1) hx hb dL_type_147 (by decide) ?_
              refine lv_iadd hx hb dL_type_148 ?_
              refine va_sld hx hb hX hbl hbA G.2.2 i1 dL_type_149 ?_
              refine lv_bipush (v := 7) hx hb dL_type_150 (by decide) ?_
              refine lv_iand hx hb dL_type_152 ?_
              exact at153 op w _ hlt H locs ls G hl
            · refine lv_aload_n hx hb dL_type_135 rfl (lv_at hl 5 rfl) ?_
              refine lv_iload hx hb dL_type_136 (lv_at hl 2 rfl) ?_
              refine lv_iconst (v := 1) hx hb dL_type_138 (by decide) ?_
              refine lv_iadd hx hb dL_type_139 ?_
              refine va_sld hx hb hX hbl hbA G.2.2 i1 dL_type_140 ?_
              refine lv_goto (tgt := 153) hx hb dL_type_141 (by decide) ?_
              exact at153 op w _ hlt H locs ls G hl
        refine lv_aload_n hx hb dL_type_14 rfl (lv_at hl 3 rfl) ?_
        refine lv_iload hx hb dL_type_15 (lv_at hl 0 rfl) ?_
        refine va_sld hx hb hX hbl hbA G.2.2 i0 dL_type_17 ?_
        refine lv_bipush (v := 31) hx hb dL_type_18 (by decide) ?_
        refine lv_iand hx hb dL_type_20 ?_
        obtain ⟨w, ew⟩ : ∃ w, w = xs (nI (f + 2 * k)).toNatClampNeg &&& 31 := ⟨_, rfl⟩
        refine gx_is (y := w) ew.symm ?_
        refine lv_istore (lv' := [(6, .int w), (5, .int (nI (f + 2 * k))), (4, .int x4), (0, .ref h), (1, .ref b), (2, .int (nI f)), (3, .int (nI (f + 16)))]) hx hb dL_type_21 hl (by decide) rfl (fun ls hl => ?_)
        refine lv_iload hx hb dL_type_23 (lv_at hl 0 rfl) ?_
        refine lv_bipush (v := 16) hx hb dL_type_25 (by decide) ?_
        refine lv_icmp_ge (tgt := 35) hx hb dL_type_27 (by decide) (fun _ => ?_) (fun _ => ?_)
        rotate_left
        · refine lv_iload hx hb dL_type_30 (lv_at hl 0 rfl) ?_
          refine lv_goto (tgt := 104) hx hb dL_type_32 (by decide) ?_
          exact at104 w _ H locs ls G hl
        refine lv_iload hx hb dL_type_35 (lv_at hl 0 rfl) ?_
        refine lv_bipush (v := 20) hx hb dL_type_37 (by decide) ?_
        refine lv_icmp_ge (tgt := 46) hx hb dL_type_39 (by decide) (fun _ => ?_) (fun _ => ?_)
        rotate_left
        · refine lv_iconst (v := 0) hx hb dL_type_42 (by decide) ?_
          refine lv_goto (tgt := 104) hx hb dL_type_43 (by decide) ?_
          exact at104 w _ H locs ls G hl
        refine lv_iload hx hb dL_type_46 (lv_at hl 0 rfl) ?_
        refine lv_bipush (v := 23) hx hb dL_type_48 (by decide) ?_
        refine lv_icmp_ge (tgt := 57) hx hb dL_type_50 (by decide) (fun _ => ?_) (fun _ => ?_)
        rotate_left
        · refine lv_iconst (v := 1) hx hb dL_type_53 (by decide) ?_
          refine lv_goto (tgt := 104) hx hb dL_type_54 (by decide) ?_
          exact at104 w _ H locs ls G hl
        refine lv_iload hx hb dL_type_57 (lv_at hl 0 rfl) ?_
        refine lv_bipush (v := 26) hx hb dL_type_59 (by decide) ?_
        refine lv_icmp_ge (tgt := 68) hx hb dL_type_61 (by decide) (fun _ => ?_) (fun _ => ?_)
        rotate_left
        · refine lv_iconst (v := 2) hx hb dL_type_64 (by decide) ?_
          refine lv_goto (tgt := 104) hx hb dL_type_65 (by decide) ?_
          exact at104 w _ H locs ls G hl
        refine lv_iload hx hb dL_type_68 (lv_at hl 0 rfl) ?_
        refine lv_bipush (v := 28) hx hb dL_type_70 (by decide) ?_
        refine lv_icmp_ge (tgt := 79) hx hb dL_type_72 (by decide) (fun _ => ?_) (fun _ => ?_)
        rotate_left
        · refine lv_iconst (v := 3) hx hb dL_type_75 (by decide) ?_
          refine lv_goto (tgt := 104) hx hb dL_type_76 (by decide) ?_
          exact at104 w _ H locs ls G hl
        refine lv_iload hx hb dL_type_79 (lv_at hl 0 rfl) ?_
        refine lv_bipush (v := 29) hx hb dL_type_81 (by decide) ?_
        refine lv_icmp_ge (tgt := 91) hx hb dL_type_83 (by decide) (fun _ => ?_) (fun _ => ?_)
        rotate_left
        · refine lv_bipush (v := 6) hx hb dL_type_86 (by decide) ?_
          refine lv_goto (tgt := 104) hx hb dL_type_88 (by decide) ?_
          exact at104 w _ H locs ls G hl
        refine lv_iload hx hb dL_type_91 (lv_at hl 0 rfl) ?_
        refine lv_bipush (v := 31) hx hb dL_type_93 (by decide) ?_
        refine lv_icmp_ge (tgt := 102) hx hb dL_type_95 (by decide) (fun _ => ?_) (fun _ => ?_)
        rotate_left
        · refine lv_iconst (v := 5) hx hb dL_type_98 (by decide) ?_
          refine lv_goto (tgt := 104) hx hb dL_type_99 (by decide) ?_
          exact at104 w _ H locs ls G hl
        refine lv_bipush (v := 11) hx hb dL_type_102 (by decide) ?_
        exact at104 w _ H locs ls G hl
  refine lv_iconst (v := 0) hx hb dL_type_0 (by decide) ?_
  refine lv_istore (lv' := [(4, .int 0), (0, .ref h), (1, .ref b), (2, .int (nI f)), (3, .int (nI (f + 16)))]) hx hb dL_type_1 hl (by decide) rfl (fun ls hl => ?_)
  refine lv_iload_n hx hb dL_type_3 rfl (lv_at hl 3 rfl) ?_
  refine lv_istore (lv' := [(5, .int (nI f)), (4, .int 0), (0, .ref h), (1, .ref b), (2, .int (nI f)), (3, .int (nI (f + 16)))]) hx hb dL_type_4 hl (by decide) rfl (fun ls hl => ?_)
  exact loop 9 0 (by omega) (by omega) u 0 [] 0 hu (by decide) _ _ ls G hl
theorem hd_L_type : yL_type.cls ≠ "java/lang/invoke/MethodHandle" ∧ yL_type.cls ≠ "java/lang/invoke/VarHandle" ∧ (parseMethodDescriptor yL_type.desc).map (fun d => d.parameters.length) = some 4 := by decide +kernel
