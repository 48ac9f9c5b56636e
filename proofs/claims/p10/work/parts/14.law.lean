/-! THE CLAIM OUT OF ONE WALK OF THE LAW'S BODY. Your part is whole_start (and what it stands on); all else here is the same for every law, but numbers. -/
def R_law : String := "MonitorDeskLaw"
def lw_P (b : Addr) (xs : List Int32) (args : Array Value) (s : State) : Prop := args = #[.ref b] ∧ s.IntsAt b xs ∧ xs.length ≤ 260 ∧ (Jvm.Cond.and given_1 narrow_1).before args s = true
def lw_Q (_ : Array Value) (s : State) (o : Outcome) (t : State) : Prop := o = .returned (some (.int 1)) ∧ Framed s o t [] 9 151
def lw_Z (below : List Frame) (a : Array Value) (s : State) : State → Prop := fun t => ∃ o, t.status = .running ∧ Ended t below o ∧ lw_Q a s o t
/-- the law's own end, with 1 on the stack, nothing written that was there before, its room as the claim has it -/
theorem lw_ret {p : Program} {l : Launch} {e : Env} {s : State} {m : MethodId} {below : List Frame} {meth : Method} {c : Code} {b : Nat} (hx : p.tables.exec = Jvm.exec) (hb : c.code = code) (hr : meth.sig.returnType = ret) (hlocks : meth.locks = false) {pc : Nat} {H : Heap} {ls : Array Slot} (hdg : decode code pc = .ok (.ireturn, 1)) : W p l e room_1 s m #[Value.ref b] below meth c H [] 9 151 (lw_Z below #[Value.ref b] s) (F0 m pc ls [.int 1]) := by
  intro T hT X
  obtain ⟨fs, hret, hrun, hended, hW, hframe⟩ := X.leave (v := some (.int 1)) (hlocks := hlocks) (fun h => by rw [hr] at h; cases h)
  have hmeth' : T.vm.method? m = some meth := X.method'
  refine ⟨T.setFrames fs, ?_, .returned (some (.int 1)), hrun, hended, rfl, ⟨_, rfl⟩, hW, hframe⟩
  jvm_step X.here [X.here.top, hx, hb, hdg, hmeth', hr, ret, narrow_b1]
  (try refine ⟨rfl, ?_⟩); (try refine ⟨rfl, ?_⟩)
  first | (intro acts; rw [hret _ acts rfl rfl rfl]) | rw [hret _ _ rfl rfl rfl]
  exact Steps.refl _
/-- what holds at the law's entry: the machine, the code, the tables' words (any of lw_tbl by 'hts w (by decide +kernel)'), the script of L ints xs at the cell b, what the Statement gives of the start (any of its parts by flat_of_before) -/
def lw_At (p : Program) (s : State) (m : MethodId) (meth : Method) (c : Code) (b L : Nat) (xs : Nat → Int32) : Prop :=
  p.tables.exec = Jvm.exec ∧ c.code = code ∧ meth.sig.returnType = ret ∧ c.maxLocals = 5 ∧ s.vm.findClass R_law = some m.cls ∧ (∀ w ∈ lw_tbl, w.before #[Value.ref b] s = true) ∧ va_X b L xs s s.heap ∧ b < s.heap.size ∧ meth.locks = false ∧ (Jvm.Cond.and given_1 narrow_1).before #[Value.ref b] s = true
theorem sh_1 : ∀ j, j < 4 → nI 2 * nI j = nI (2 * j) := by decide
theorem sh_2 : ∀ j i, j < 4 → i < 2 → ¬ nI j + nI i < 0 ∧ ¬ 5 ≤ nI j + nI i := by
  intro j i hj hi
  rw [nI_add]
  refine ⟨nI_pos (by omega), ?_⟩
  rw [show (5 : Int32) = nI 5 from by decide, nI_leI (by decide) (by omega)]
  omega
theorem sh_3 : ∀ j, j < 8 → ¬ nI j - nI j / 6 * 6 - 2 < -2 ∧ nI j - nI j / 6 * 6 - 2 < 5 := by decide
theorem sx_0 {i : Nat} (h : i < 2 ^ 31) (xs : Nat → Int32) : xs (nI i).toNatClampNeg = xs i := congrArg xs (nI_clamp h)
theorem no_b {dC : Nat → ClassId} {dI : Nat → Nat → Nat} {H0 H : Heap} {locs : List Loc} {ws : va_W} {b : Nat} (G : gx_ (dC, dI) (fun q : Nat => H0.size ≤ q) H0 H locs ws) (hb : b < H0.size) : ∀ (k : Nat) (e : va_E), ¬ ws[k]? = some (b, e) := fun k e hk => by
  have := G.2.1.2 k _ hk
  exact absurd hb (Nat.not_lt.mpr this)
set_option maxHeartbeats 4000000 in
set_option maxRecDepth 100000 in
theorem law_loop {p : Program} {l : Launch} {e : Env} {s : State} {m : MethodId} {below : List Frame} {meth : Method} {c : Code} {dC : Nat → ClassId} {dI : Nat → Nat → Nat} {cI cZ : ClassId} {b L : Nat} {xs : Nat → Int32} {h : Nat} {q : Nat → Nat} (hL : L ≤ 260) (C0 : lw_At p s m meth c b L xs) (hK : va_K (dC, dI) vwCl (ty_IZ cI cZ) s) :
    ∀ (n k : Nat), 16 * k ≤ L → 17 ≤ k + n → ∀ (v : st_T), iv_ v → ∀ (H : Heap) (locs : List Loc) (ls : Array Slot), gx_ (dC, dI) (fun q : Nat => s.heap.size ≤ q) s.heap H locs (gw0_ cI cZ h q v) → lv_has ls 5 [(2, .int (nI (16 * k))), (1, .ref h), (0, .ref b)] → W p l e room_1 s m #[Value.ref b] below meth c H locs 9 151 (lw_Z below #[Value.ref b] s) (F0 m 10 ls []) := by
  obtain ⟨hx, hb, hr, hml, hown, hts, hX, hbl, hlocks, hgv⟩ := C0
  have hown : s.vm.findClass RL = some m.cls := hown
  have hts := fun w h => hts w (wsL_law_in w h)
  have hA : ∀ q : Nat, s.heap.size ≤ q → (fun q : Nat => s.heap.size ≤ q) q := fun _ h => h
  have hbA : ¬ (fun q : Nat => s.heap.size ≤ q) b := Nat.not_le.mpr hbl
  intro n
  induction n with
  | zero =>
    intro k h1 h2
    exact absurd h2 (by omega)
  | succ n ih =>
    intro k hk hn v hv H locs ls G hl
    refine lv_iload_n hx hb dL_law_10 rfl (lv_at hl 0 rfl) ?_
    refine lv_bipush (v := nI 16) hx hb dL_law_11 (by decide) ?_
    refine lv_iadd hx hb dL_law_13 ?_
    refine gx_is (y := nI (16 * k + 16)) (nI_add _ _) ?_
    refine lv_aload_n hx hb dL_law_14 rfl (lv_at hl 2 rfl) ?_
    refine va_slen hx hb hX hbl hbA G.2.2 dL_law_15 ?_
    refine gx_is (y := nI L) rfl ?_
    refine lv_icmp_gt (tgt := 131) hx hb dL_law_16 (by decide) (fun c_16 => ?_) (fun c_16 => ?_)
    · refine lv_iconst (v := 1) hx hb dL_law_131 (by decide) ?_
      refine va_forget (fun q hq => G.2.2.2.2 q hq) ?_
      exact lw_ret hx hb hr hlocks dL_law_132
    · have hk16 : 16 * k + 16 ≤ L := by
        rw [nI_ltI (by omega) (by omega)] at c_16
        omega
      have fr : ∀ (t i : Nat) (r3 : Int32) (v : st_T), i ≤ 5 → 6 ≤ i + t → iv_ v → ∀ (H : Heap) (locs : List Loc) (ls : Array Slot), gx_ (dC, dI) (fun q : Nat => s.heap.size ≤ q) s.heap H locs (gw0_ cI cZ h q v) → lv_has ls 5 [(4, .int (nI i)), (3, .int r3), (2, .int (nI (16 * k))), (1, .ref h), (0, .ref b)] → W p l e room_1 s m #[Value.ref b] below meth c H locs 9 151 (lw_Z below #[Value.ref b] s) (F0 m 102 ls []) := by
        intro t
        induction t with
        | zero => intro i r3 v h1 h2; exact absurd h2 (by omega)
        | succ t it =>
          intro i r3 v hi5 hit hv H locs ls G hl
          refine lv_iload hx hb dL_law_102 (lv_at hl 0 rfl) ?_
          refine lv_iconst (v := nI 5) hx hb dL_law_104 (by decide) ?_
          refine lv_icmp_ge (tgt := 125) hx hb dL_law_105 (by decide) (fun c_105 => ?_) (fun c_105 => ?_)
          · refine lv_iinc (v := nI (16 * (k + 1))) (lv' := [(2, .int (nI (16 * (k + 1)))), (4, .int (nI i)), (3, .int r3), (1, .ref h), (0, .ref b)]) hx hb dL_law_125 hl (k := 2) rfl (by show nI (16 * k) + nI 16 = nI (16 * (k + 1)); rw [nI_add]; rfl) (by decide) rfl (fun ls hl => ?_)
            refine lv_goto (tgt := 10) hx hb dL_law_128 (by decide) ?_
            exact ih (k + 1) (by omega) (by omega) v hv H locs ls G (lv_sub hl [0, 3, 4] rfl)
          · have hi : i < 5 := by
              rw [nI_leI (by decide) (by omega)] at c_105
              omega
            refine lv_aload_n hx hb dL_law_108 rfl (lv_at hl 3 rfl) ?_
            refine lv_iload hx hb dL_law_109 (lv_at hl 0 rfl) ?_
            refine gx_callSi (wf := gw0_ cI cZ h q) (u := v) (B2 := fun _ => True) (As := [.ref h, .int (nI i)]) (rest := []) 2 hx hb hml hown hts hK hA G (kt_free l dC dI cI cZ h q H.size v i hi hv) gL_law_L_free rfl rfl rfl hd_L_free ⟨Nat.le_of_ble_eq_true rfl, Nat.le_of_ble_eq_true rfl⟩ rfl hl.1 rfl (Nat.le_of_ble_eq_true rfl) dL_law_111 (Nat.le_of_ble_eq_true rfl) (Nat.le_of_ble_eq_true rfl) (fun _ _ _ _ _ => trivial) (fun _ _ _ => trivial) (fun r u1 H locs hp G => ?_)
            obtain ⟨rfl, hv1⟩ := hp
            refine lv_if_ne (tgt := 119) hx hb dL_law_114 (by decide) (fun _ => ?_) (fun z => absurd z (by decide))
            refine lv_iinc (v := nI (i + 1)) (lv' := [(4, .int (nI (i + 1))), (3, .int r3), (2, .int (nI (16 * k))), (1, .ref h), (0, .ref b)]) hx hb dL_law_119 hl (k := 0) rfl (nI_1 i) (by decide) rfl (fun ls hl => ?_)
            refine lv_goto (tgt := 102) hx hb dL_law_122 (by decide) ?_
            exact it (i + 1) r3 u1 (by omega) (by omega) hv1 H locs ls G hl
      have at69 : ∀ (r3 : Int32) (v : st_T), iv_ v → ∀ (H : Heap) (locs : List Loc) (ls : Array Slot), gx_ (dC, dI) (fun q : Nat => s.heap.size ≤ q) s.heap H locs (gw0_ cI cZ h q v) → lv_has ls 5 [(3, .int r3), (2, .int (nI (16 * k))), (1, .ref h), (0, .ref b)] → W p l e room_1 s m #[Value.ref b] below meth c H locs 9 151 (lw_Z below #[Value.ref b] s) (F0 m 69 ls []) := by
        intro r3 v hv H locs ls G hl
        obtain ⟨nn, Ls, hj⟩ := hv
        refine lv_aload_n hx hb dL_law_69 rfl (lv_at hl 2 rfl) ?_
        refine gx_calli (wf := gw0_ cI cZ h q) (u := v) (f := (pd_clear v)) (As := []) (rest := []) 0 hx hb hml hown hts hK hA G rfl rfl (kd_clear l dC dI cI cZ h q _ v) gL_law_X0_clear rfl rfl rfl hd_X0_clear ⟨Nat.le_of_ble_eq_true rfl, Nat.le_of_ble_eq_true rfl⟩ rfl hl.1 rfl (Nat.le_of_ble_eq_true rfl) dL_law_70 (Nat.le_of_ble_eq_true rfl) (Nat.le_of_ble_eq_true rfl) (fun H locs G => ?_)
        obtain ⟨hc1, hc2⟩ := clear_ok hj
        refine lv_if_ge (tgt := 78) hx hb dL_law_73 (by decide) (fun _ => ?_) (fun z => absurd (i_ge1 hc1) z)
        refine lv_aload_n hx hb dL_law_78 rfl (lv_at hl 2 rfl) ?_
        refine lv_aload_n hx hb dL_law_79 rfl (lv_at hl 3 rfl) ?_
        refine lv_iload_n hx hb dL_law_80 rfl (lv_at hl 1 rfl) ?_
        refine lv_iload_n hx hb dL_law_81 rfl (lv_at hl 1 rfl) ?_
        refine lv_bipush (v := nI 16) hx hb dL_law_82 (by decide) ?_
        refine lv_iadd hx hb dL_law_84 ?_
        refine gx_is (y := nI (16 * k + 16)) (nI_add _ _) ?_
        refine gx_callSv (wf := gw0_ cI cZ h q) (u := (pd_clear v).2) (B2 := fun U => va_X b L xs U U.heap ∧ ∀ (k : Nat) (e : va_E), ¬ (gw0_ cI cZ h q (pd_clear v).2)[k]? = some (b, e)) (As := [.ref h, .ref b, .int (nI (16 * k)), .int (nI (16 * k + 16))]) (rest := []) 4 hx hb hml hown hts hK hA G (kt_type l dC dI cI cZ h q _ (pd_clear v).2 b L (16 * k) xs hk16 hL hc2) gL_law_L_type rfl rfl rfl hd_L_type ⟨Nat.le_of_ble_eq_true rfl, Nat.le_of_ble_eq_true rfl⟩ rfl hl.1 rfl (Nat.le_of_ble_eq_true rfl) dL_law_85 (Nat.le_of_ble_eq_true rfl) (Nat.le_of_ble_eq_true rfl) (fun a U g mk z => ⟨va_X.moved (u := U) (U := U.calling g mk a) (Vm.Alike.refl U.vm) z.1, z.2⟩) (fun U hU hal => ⟨by rw [hU]; exact va_X.moved hal (hX.kept (G.2.2.2.1 b hbl hbA)), no_b G hbl⟩) (fun v1 H locs hp G => ?_)
        obtain ⟨⟨n1, L1, hj1⟩, h10⟩ := hp
        obtain ⟨hr1, hr2⟩ := run_ok hj1 h10
        refine lv_aload_n hx hb dL_law_88 rfl (lv_at hl 2 rfl) ?_
        refine gx_calli (wf := gw0_ cI cZ h q) (u := v1) (f := (pd_run v1)) (As := []) (rest := []) 0 hx hb hml hown hts hK hA G rfl rfl (kd_run l dC dI cI cZ h q _ v1 (run_pre hj1)) gL_law_X0_run rfl rfl rfl hd_X0_run ⟨Nat.le_of_ble_eq_true rfl, Nat.le_of_ble_eq_true rfl⟩ rfl hl.1 rfl (Nat.le_of_ble_eq_true rfl) dL_law_89 (Nat.le_of_ble_eq_true rfl) (Nat.le_of_ble_eq_true rfl) (fun H locs G => ?_)
        refine lv_istore_n (lv' := [(3, .int (pd_run v1).1), (2, .int (nI (16 * k))), (1, .ref h), (0, .ref b)]) hx hb dL_law_92 rfl hl (by decide) rfl (fun ls hl => ?_)
        refine lv_iload_n hx hb dL_law_93 rfl (lv_at hl 0 rfl) ?_
        refine lv_if_ge (tgt := 99) hx hb dL_law_94 (by decide) (fun _ => ?_) (fun z => absurd (i_ge1 hr1) z)
        refine lv_iconst (v := 0) hx hb dL_law_99 (by decide) ?_
        refine lv_istore (lv' := [(4, .int 0), (3, .int (pd_run v1).1), (2, .int (nI (16 * k))), (1, .ref h), (0, .ref b)]) hx hb dL_law_100 hl (by decide) rfl (fun ls hl => ?_)
        exact fr 6 0 _ (pd_run v1).2 (by omega) (by omega) ⟨n1, L1, hr2⟩ H locs ls G hl
      have ho : ∀ (t j : Nat) (v : st_T), j ≤ 4 → 5 ≤ j + t → iv_ v → ∀ (H : Heap) (locs : List Loc) (ls : Array Slot), gx_ (dC, dI) (fun q : Nat => s.heap.size ≤ q) s.heap H locs (gw0_ cI cZ h q v) → lv_has ls 5 [(3, .int (nI j)), (2, .int (nI (16 * k))), (1, .ref h), (0, .ref b)] → W p l e room_1 s m #[Value.ref b] below meth c H locs 9 151 (lw_Z below #[Value.ref b] s) (F0 m 21 ls []) := by
        intro t
        induction t with
        | zero => intro j v h1 h2; exact absurd h2 (by omega)
        | succ t it =>
          intro j v hj4 hjt hv H locs ls G hl
          refine lv_iload_n hx hb dL_law_21 rfl (lv_at hl 0 rfl) ?_
          refine lv_iconst (v := nI 4) hx hb dL_law_22 (by decide) ?_
          refine lv_icmp_ge (tgt := 69) hx hb dL_law_23 (by decide) (fun c_23 => ?_) (fun c_23 => ?_)
          · exact at69 _ v hv H locs ls G hl
          · have hj : j < 4 := by
              rw [nI_leI (by decide) (by omega)] at c_23
              omega
            refine lv_aload_n hx hb dL_law_26 rfl (lv_at hl 2 rfl) ?_
            refine lv_iload_n hx hb dL_law_27 rfl (lv_at hl 0 rfl) ?_
            refine lv_aload_n hx hb dL_law_28 rfl (lv_at hl 3 rfl) ?_
            refine lv_iload_n hx hb dL_law_29 rfl (lv_at hl 1 rfl) ?_
            refine va_sld hx hb hX hbl hbA G.2.2 (vp_in_nI (by omega) (by omega)) dL_law_30 ?_
            refine lv_bipush (v := 6) hx hb dL_law_31 (by decide) ?_
            refine lv_ishr hx hb dL_law_33 ?_
            refine lv_iconst (v := 1) hx hb dL_law_34 (by decide) ?_
            refine lv_iand hx hb dL_law_35 ?_
            obtain ⟨i1, hi1, ei1⟩ := pk_andE (xs (nI (16 * k)).toNatClampNeg >>> ((6 : Int32) &&& 31)) (m := 1) 1 (by decide)
            refine gx_is (y := nI i1) ei1 ?_
            refine lv_iadd hx hb dL_law_36 ?_
            refine lv_aload_n hx hb dL_law_37 rfl (lv_at hl 3 rfl) ?_
            refine lv_iload_n hx hb dL_law_38 rfl (lv_at hl 1 rfl) ?_
            refine lv_iconst (v := nI 2) hx hb dL_law_39 (by decide) ?_
            refine lv_iload_n hx hb dL_law_40 rfl (lv_at hl 0 rfl) ?_
            refine lv_imul hx hb dL_law_41 ?_
            refine gx_is (y := nI (2 * j)) (sh_1 j hj) ?_
            refine lv_iadd hx hb dL_law_42 ?_
            refine gx_is (y := nI (16 * k + 2 * j)) (nI_add _ _) ?_
            refine va_sld hx hb hX hbl hbA G.2.2 (vp_in_nI (by omega) (by omega)) dL_law_43 ?_
            refine lv_bipush (v := 7) hx hb dL_law_44 (by decide) ?_
            refine lv_ishr hx hb dL_law_46 ?_
            refine lv_bipush (v := 7) hx hb dL_law_47 (by decide) ?_
            refine lv_iand hx hb dL_law_49 ?_
            obtain ⟨i2, hi2, ei2⟩ := pk_andE (xs (nI (16 * k + 2 * j)).toNatClampNeg >>> ((7 : Int32) &&& 31)) (m := 7) 3 (by decide)
            refine gx_is (y := nI i2) ei2 ?_
            refine lv_bipush (v := 6) hx hb dL_law_50 (by decide) ?_
            refine lv_irem hx hb dL_law_52 (by decide) ?_
            refine lv_iconst (v := 2) hx hb dL_law_53 (by decide) ?_
            refine lv_isub hx hb dL_law_54 ?_
            obtain ⟨q1, q2⟩ := hold_ok (u := v) (sh_2 j i1 hj hi1).1 (sh_2 j i1 hj hi1).2 (sh_3 i2 hi2).1 (sh_3 i2 hi2).2
            refine gx_calli (wf := gw0_ cI cZ h q) (u := v) (f := (pd_hold v (nI j + nI i1) (nI i2 - nI i2 / 6 * 6 - 2))) (As := [.int (nI j + nI i1), .int (nI i2 - nI i2 / 6 * 6 - 2)]) (rest := []) 2 hx hb hml hown hts hK hA G rfl rfl (kd_hold l dC dI cI cZ h q _ v (nI j + nI i1) (nI i2 - nI i2 / 6 * 6 - 2)) gL_law_X0_hold rfl rfl rfl hd_X0_hold ⟨Nat.le_of_ble_eq_true rfl, Nat.le_of_ble_eq_true rfl⟩ rfl hl.1 rfl (Nat.le_of_ble_eq_true rfl) dL_law_55 (Nat.le_of_ble_eq_true rfl) (Nat.le_of_ble_eq_true rfl) (fun H locs G => ?_)
            refine lv_if_eq (tgt := 63) hx hb dL_law_58 (by decide) (fun _ => ?_) (fun z => absurd q1 z)
            obtain ⟨nn, Ls, hjv⟩ := hv
            refine lv_iinc (v := nI (j + 1)) (lv' := [(3, .int (nI (j + 1))), (2, .int (nI (16 * k))), (1, .ref h), (0, .ref b)]) hx hb dL_law_63 hl (k := 0) rfl (nI_1 j) (by decide) rfl (fun ls hl => ?_)
            refine lv_goto (tgt := 21) hx hb dL_law_66 (by decide) ?_
            exact it (j + 1) _ (by omega) (by omega) ⟨nn, Ls, q2 nn Ls hjv⟩ H locs ls G hl
      refine lv_iconst (v := 0) hx hb dL_law_19 (by decide) ?_
      refine lv_istore_n (lv' := [(3, .int 0), (2, .int (nI (16 * k))), (1, .ref h), (0, .ref b)]) hx hb dL_law_20 rfl hl (by decide) rfl (fun ls hl => ?_)
      exact ho 5 0 v (by omega) (by omega) hv H locs ls G hl
set_option maxHeartbeats 4000000 in
set_option maxRecDepth 100000 in
/-- THE LAW, from its entry -/
theorem whole_start {p : Program} {e : Env} {s : State} {m : MethodId} {below : List Frame} {meth : Method} {c : Code} (l : Launch) (hflags : l.flags = flags0) {b L : Nat} {xs : Nat → Int32} (hL : L ≤ 260) (C0 : lw_At p s m meth c b L xs) : W p l e room_1 s m #[Value.ref b] below meth c s.heap [] 0 0 (lw_Z below #[Value.ref b] s) (entryFrame m ([Value.ref b] : List Value).toArray 5) := by
  obtain ⟨hx, hb, hr, hml, hown, hts0, hX, hbl, hlocks, hgv⟩ := id C0
  have hown : s.vm.findClass RL = some m.cls := hown
  have hts := fun w h => hts0 w (wsL_law_in w h)
  have hA : ∀ q : Nat, s.heap.size ≤ q → (fun q : Nat => s.heap.size ≤ q) q := fun _ h => h
  obtain ⟨c0, iS0, hKn0⟩ := u_known (C := RX0) (T := TX0) (N := 17) (n := 17) hts inlX0 (hts (.instantiable RX0 17) (by decide +kernel))
  obtain ⟨dC, dI, hKc⟩ : ∃ (dC : Nat → ClassId) (dI : Nat → Nat → Nat), ∀ (k : Nat) (q : vw_C), vwCl[k]? = some q → u_Kn s q.1 q.2.1 q.2.2 (dC k) (dI k) := by
    refine ⟨fun k => c0, fun k => iS0, ?_⟩
    intro k q hq
    match k, hq with
    | 0, hq => cases hq; exact hKn0
    | k + 1, hq => simp [vwCl] at hq
  have hS : va_S (fun q : Nat => s.heap.size ≤ q) s.heap s.heap [] := va_S.rf
  have hK : va_K (dC, dI) vwCl [] s := ⟨hKc, fun k q h => by simp at h⟩
  have hP : va_P (dC, dI) vwCl [] s.heap := fun k q h => by simp at h
  have hD : va_D (fun q : Nat => s.heap.size ≤ q) [] := ⟨fun i j p q h => by simp at h, fun k q h => by simp at h⟩
  have hl := lv_entry ([.ref b]) (n := 5) (Nat.le_of_ble_eq_true rfl)
  rw [lg_entry_eq]
  generalize (lg_sl ([.ref b]) ++ List.replicate (5 - (lg_sl ([.ref b])).length) Slot.unset).toArray = ls at hl ⊢
  have hl : lv_has ls 5 [(0, .ref b)] := hl
  refine va_new (ci := 0) (fs := [.null, .int 0, .null, .int 0, .int 0, .null, .null, .null, .null, .int 0, .int 0, .int 0, .null, .int 0, .null, .int 0, .int 0]) (C := RX0) (T := TX0) (N := 17) hx hb hts inlX0 tyX0 tyX0_ok hown (hts (.classLink RL 8 RX0) (by decide +kernel)) (hts (.instantiable RX0 17) (by decide +kernel)) (hts (.initialized RX0) (by decide +kernel)) hK hP hD hS hA rfl (fun j hj => by
    match j, hj with
    | 0, _ => rfl
    | 1, _ => rfl
    | 2, _ => rfl
    | 3, _ => rfl
    | 4, _ => rfl
    | 5, _ => rfl
    | 6, _ => rfl
    | 7, _ => rfl
    | 8, _ => rfl
    | 9, _ => rfl
    | 10, _ => rfl
    | 11, _ => rfl
    | 12, _ => rfl
    | 13, _ => rfl
    | 14, _ => rfl
    | 15, _ => rfl
    | 16, _ => rfl
    | j + 17, hj => exact absurd hj (by omega)) (Nat.le_of_ble_eq_true rfl) (Nat.le_of_ble_eq_true rfl) dL_law_0 (fun h H hP hD hS => ?_)
  have hP : va_P (dC, dI) vwCl (gn0_ h) H := hP
  have hD : va_D (fun q : Nat => s.heap.size ≤ q) (gn0_ h) := hD
  refine W.widen (k := 1) (n := 17) (Nat.le_of_ble_eq_true rfl) (Nat.le_of_ble_eq_true rfl) ?_
  refine lv_dup hx hb dL_law_3 rfl ?_
  have hPc := hP.sub (ws' := gn0_ h) [0] rfl
  have hDc := hD.sub (ws' := gn0_ h) [0] (by decide) rfl
  have hKc0 := hK.sub (tys' := []) [] rfl
  have hFc := va_free (wc := gn0_ h) hD hS hA [0] rfl
  refine va_callv (va_runI (As := []) (rest := [.ref h]) ⟨hx, hb, hml, hown, hts⟩ (kd_init l dC dI h H.size) (cwI 0 hts gL_law_X0_init rfl rfl rfl (hts (.initialized RX0) (by decide +kernel)) (hts (.methodLink RL 30 yX0_init) (by decide +kernel)) (hts (.instanceMethod yX0_init) (by decide +kernel)) rfl (by decide +kernel) ⟨Nat.le_of_ble_eq_true rfl, Nat.le_of_ble_eq_true rfl⟩) ⟨fun a U g mk q => by obtain ⟨q0, q1, qP, qK, qD⟩ := q; exact ⟨q0, q1, qP, va_K.moved (u := U) (U := U.calling g mk a) (Vm.Alike.refl U.vm) qK, qD⟩, fun U hU hW => ⟨rfl, by rw [hU], by rw [hU]; exact hPc, va_K.moved hW.alike hKc0, hDc.weaken (fun _ _ _ _ => trivial)⟩⟩ rfl rfl hl.1 rfl (lv_room (Nat.le_of_ble_eq_true rfl)) dL_law_4 ⟨Nat.le_of_ble_eq_true rfl, Nat.le_of_ble_eq_true rfl⟩) hS (fun q _ h => hFc q h) hFc (fun un t H1 locs ht hvm hw hB hz1 hk1 hS => ?_)
  obtain ⟨cI, cZ, q, hP1, hK1, hD1⟩ := hB
  rw [ht] at hP1
  have hK1 := va_K.moved hvm.symm hK1
  obtain ⟨hP, hD⟩ := va_join (wr := []) (w1 := gw0_ cI cZ h q pd_init) hP hD [0] [] rfl rfl (by decide) (by decide) hk1 hFc hP1 hD1
  have hK : va_K (dC, dI) vwCl (ty_IZ cI cZ) s := hK1
  generalize H1 = H at hP hS ⊢
  have hP : va_P (dC, dI) vwCl (gw0_ cI cZ h q pd_init) H := hP
  have hD : va_D (fun q : Nat => s.heap.size ≤ q) (gw0_ cI cZ h q pd_init) := hD
  refine W.widen (k := 9) (n := 151) (Nat.le_of_ble_eq_true rfl) (Nat.le_of_ble_eq_true rfl) ?_
  refine lv_astore_n (lv' := [(1, .ref h), (0, .ref b)]) hx hb dL_law_7 rfl hl (by decide) rfl (fun ls hl => ?_)
  refine lv_iconst (v := 0) hx hb dL_law_8 (by decide) ?_
  refine lv_istore_n (lv' := [(2, .int 0), (1, .ref h), (0, .ref b)]) hx hb dL_law_9 rfl hl (by decide) rfl (fun ls hl => ?_)
  exact law_loop hL C0 hK 17 0 (Nat.zero_le _) (by decide) pd_init ⟨0, [], jv_init⟩ H locs ls ⟨hP, hD, hS⟩ hl
set_option maxHeartbeats 4000000 in
theorem lw_walk (l : Launch) (hflags : l.flags = flags0) (b : Addr) (xs : List Int32) : MetFree l x (headSpec (Jvm.Cond.code x code maxLocals ret :: tables_1) room_1) (lw_P b xs) (fun _ _ _ _ _ => True) lw_Q := by
  refine MetFree.of_bodyS (code := code) (maxLocals := maxLocals) (ret := ret) (by decide) ?_ ?_
  · intro args s m h hn
    obtain ⟨meth, c, h1, h2, h3, h4, h5, h6, -, -⟩ := Cond.code_spec hn (atoms_spec (ws := Jvm.Cond.code x code maxLocals ret :: tables_1) h _ List.mem_cons_self)
    exact ⟨meth, c, h1, h2, h3, h4, h5, h6⟩
  · intro p e s m args below meth c s₁ B hml0 hP _
    obtain ⟨rfl, hx, hbd, hgv⟩ := hP
    obtain ⟨scr, harrAt, hlist, hof, hsmall⟩ := hx
    obtain ⟨hcb, hkn, -, -⟩ := State.arrayAt?_spec harrAt
    have hown : s.vm.findClass R_law = some m.cls := findClass_of_methodNamed B.named
    have hts0 : ∀ c ∈ (Jvm.Cond.code x code maxLocals ret :: tables_1), c.before #[Value.ref b] s = true := atoms_spec (ws := Jvm.Cond.code x code maxLocals ret :: tables_1) B.pre
    have hts : ∀ w ∈ lw_tbl, w.before #[Value.ref b] s = true := k2_hts_sels lw_privs (fun w hw => hts0 w (List.mem_cons_of_mem _ hw)) lw_privs_ok
    have hml : c.maxLocals = 5 := B.maxLocals_eq (hts0 _ List.mem_cons_self)
    have X₀ : Stand p l e room_1 s m #[Value.ref b] below meth c s₁ [] 0 0 := Stand.of_body B
    have hh0 : s₁.heap = s.heap := by rw [B.state]; rfl
    have hsz : scr.slots.size = xs.length := by rw [← Array.length_toList, hlist, List.length_map]
    have hval : ∀ j : Nat, j < xs.length → scr.slots[j]? = some (.int (xs.getD j 0)) := fun j hj => by
      rw [← Array.getElem?_toList, hlist]
      simp [hj]
    have hbl : b < s.heap.size := (Array.getElem?_eq_some_iff.mp hcb).1
    have hX : va_X b xs.length (fun j => xs.getD j 0) s s.heap := ⟨scr, hcb, hof, hkn, hsz, hval⟩
    have K : W p l e room_1 s m #[Value.ref b] below meth c s₁.heap [] 0 0 (lw_Z below #[Value.ref b] s) (entryFrame m ([Value.ref b] : List Value).toArray 5) := by
      rw [hh0]
      exact whole_start l hflags hbd ⟨B.exec, B.bytes, B.returns, hml, hown, hts, hX, hbl, B.notSynchronized, hgv⟩
    obtain ⟨t, a1, o, b1, b2, b3⟩ := K s₁ rfl X₀
    exact ⟨t, o, a1, b1, b2, b3⟩
theorem lw_pre_spec {args : Array Value} {s : State} (h : (Jvm.Cond.and given_1 narrow_1).before args s = true) (hr : rest_1_c.before args s = true) : ∃ (b : Addr) (xs : List Int32), lw_P b xs args s := by
  have hs := flat_of_before _ h
  have hq := flat_of_before _ hr
  have hc : (Cond.count 1).before args s = true := hs _ (by decide +kernel)
  have harr : (Cond.arrayOf (.arg 0) .int).before args s = true := hs _ (by decide +kernel)
  have hle : (Cond.le (.length (.arg 0)) (.int 260)).before args s = true := hs _ (by decide +kernel)
  have hlen : (Cond.isInt (.length (.arg 0))).before args s = true := hq _ (by decide +kernel)
  have hall : (Cond.all (.arg 0) (.isInt (.elem (.arg 0) (.index 0)))).before args s = true := hq _ (by decide +kernel)
  obtain ⟨b, xs, hb, hx⟩ := State.ints_of_pre rfl harr hlen hall
  have hsm : xs.length < 2 ^ 31 := hx.choose_spec.2.2.2
  have hev : (Term.length (.arg 0)).eval args s none [] s = some (.int xs.length.toInt32) := hx.length_eval hb
  have hv := Cond.le_ints hev (show (Term.int 260).eval args s none [] s = some (.int 260) from rfl)
  have hd : xs.length.toInt32 ≤ 260 := by
    simpa [Cond.before, Cond.holds, hv] using hle
  have hN : xs.length ≤ 260 := (Int32.ofNat_le_ofNat hsm (by decide)).mp (show Int32.ofNat xs.length ≤ Int32.ofNat 260 from hd)
  exact ⟨b, xs, Cond.one_arg hc (show args[0]? = some (.ref b) from hb), hx, hN, h⟩
theorem lw_comes (l : Launch) (hflags : l.flags = flags0) : Comes l x (Jvm.Cond.code x code maxLocals ret :: tables_1) room_1 (fun tb e args s => Calls_1 tb e args s ∧ rest_1 tb e args s ∧ Pre_1 tb e args s)
    (fun _ _ args s o t => lw_Q args s o t) := by
  intro p e ha hc hk s m args below hf hfit hheap happ hpre
  obtain ⟨b, xs, hP⟩ := lw_pre_spec hpre.2.2 hpre.2.1
  obtain ⟨k, o, h1, h2, h3, hQ⟩ := lw_walk l hflags b xs p e ha hc hk s m args below hf ((Spec.applies_iff_loose hf).mp happ).1 hP trivial
  exact ⟨k, o, h1, h2, h3, hQ⟩
theorem lw_frame {s t : State} {o : Outcome} {args : Array Value} (h : Framed s o t [] 9 151) :
    Framed s o t (fieldLocs frame_1_writes args s ++ arrayLocs frame_1_arrays args s ++ staticLocs frame_1_statics s) 9 151 := h
theorem lw_limb (L : Cond) (hL : ∀ (args : Array Value) (s t : State), L.after args s (.returned (some (.int 1))) t = true) :
    ArmFor flags0 classFile x code maxLocals ret World_1 tables_1 room_1 Calls_1 rest_1 Pre_1
      (fun tb e a s o t => postC L tb e a s o t ∧ Framed s o t (fieldLocs frame_1_writes a s ++ arrayLocs frame_1_arrays a s ++ staticLocs frame_1_statics s) 9 151) := by
  intro l hflags _ _ p e ha hc hk s m args below hf hfit hheap happ hpre
  obtain ⟨k, o, h1, h2, h3, rfl, hF⟩ := lw_comes l hflags p e ha hc hk s m args below hf hfit hheap happ hpre
  exact ⟨k, _, h1, h2, h3, hL args s _, lw_frame hF⟩
theorem i_vc : Claimed_1_1 ∧ Claimed_1_2 := ⟨lw_limb limb_1_1 (fun args s t => by simp [limb_1_1, Cond.after, Cond.holds, Cond.value]), lw_limb limb_1_2 (fun args s t => Cond.after_iff.mpr (by
  first | (rw [show limb_1_2 = Cond.eq .result (.int 1) from rfl, Cond.eq_ints (x := 1) (y := 1) rfl rfl]; simp; done) | (simp [limb_1_2, Cond.value, Term.eval]; done)))⟩
