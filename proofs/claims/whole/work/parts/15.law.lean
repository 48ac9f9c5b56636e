/-! THE CLAIM OUT OF ONE WALK OF THE LAW'S BODY. Your part is whole_start (and what it stands on); all else here is the same for every law, but numbers. -/
def R_law : String := "MonitorDeskLaw"
def lw_P (b : Addr) (xs : List Int32) (args : Array Value) (s : State) : Prop := args = #[.ref b] ∧ s.IntsAt b xs ∧ xs.length ≤ 1536 ∧ (Jvm.Cond.and given_1 narrow_1).before args s = true
def lw_Q (_ : Array Value) (s : State) (o : Outcome) (t : State) : Prop := o = .returned (some (.int 1)) ∧ Framed s o t [] 17 775
def lw_Z (below : List Frame) (a : Array Value) (s : State) : State → Prop := fun t => ∃ o, t.status = .running ∧ Ended t below o ∧ lw_Q a s o t
/-- the law's own end, with 1 on the stack, nothing written that was there before, its room as the claim has it -/
theorem lw_ret {p : Program} {l : Launch} {e : Env} {s : State} {m : MethodId} {below : List Frame} {meth : Method} {c : Code} {b : Nat} (hx : p.tables.exec = Jvm.exec) (hb : c.code = code) (hr : meth.sig.returnType = ret) (hlocks : meth.locks = false) {pc : Nat} {H : Heap} {ls : Array Slot} (hdg : decode code pc = .ok (.ireturn, 1)) : W p l e room_1 s m #[Value.ref b] below meth c H [] 17 775 (lw_Z below #[Value.ref b] s) (F0 m pc ls [.int 1]) := by
  intro T hT X
  obtain ⟨fs, hret, hrun, hended, hW, hframe⟩ := X.leave (v := some (.int 1)) (hlocks := hlocks) (fun h => by rw [hr] at h; cases h)
  have hmeth' : T.vm.method? m = some meth := X.method'
  refine ⟨T.setFrames fs, ?_, .returned (some (.int 1)), hrun, hended, rfl, ⟨_, rfl⟩, hW, hframe⟩
  jvm_step X.here [X.here.top, hx, hb, hdg, hmeth', hr, ret, narrow_b1]
  (try refine ⟨rfl, ?_⟩); (try refine ⟨rfl, ?_⟩)
  first | (intro acts; rw [hret _ acts rfl rfl rfl]) | rw [hret _ _ rfl rfl rfl]
  exact Steps.refl _
/-- what holds at the law's entry: the machine, the code, the tables' words (any of lw_tbl by 'hts w (by decide +kernel)'), the script of L ints xs at the cell b, what the Statement gives of the start (any of its parts by flat_of_before) -/
def lw_At (p : Program) (s : State) (m : MethodId) (meth : Method) (c : Code) (b L : Nat) (xs : Nat → Int32) : Prop :=
  p.tables.exec = Jvm.exec ∧ c.code = code ∧ meth.sig.returnType = ret ∧ c.maxLocals = 4 ∧ s.vm.findClass R_law = some m.cls ∧ (∀ w ∈ lw_tbl, w.before #[Value.ref b] s = true) ∧ va_X b L xs s s.heap ∧ b < s.heap.size ∧ meth.locks = false ∧ (Jvm.Cond.and given_1 narrow_1).before #[Value.ref b] s = true
section GL
variable {p : Program} {l : Launch} {e : Env} {R : Room} {s : State} {m : MethodId} {args : Array Value} {below : List Frame} {meth : Method} {c : Code} {H : Heap} {locs : List Loc} {cells slots : Nat} {Q : State → Prop}
variable {cc : ByteArray} {pc : Nat} {ls : Array Slot} {rest : List Value} {dC : Nat → ClassId} {dI : Nat → Nat → Nat} {A : Nat → Prop} {H0 : Heap} {cI cZ : ClassId} {h h2 : Nat} {q q2 : Nat → Nat} {u v : st_T} {Ts : List Cond} {own : String}
theorem gl_0 {f : Int32 × st_T} {index maxL nL : Nat} {y : MethodName} {bytes : ByteArray} {ret : Option FieldType} {wsy ws' : List Cond} {rm : Room} {As st0 : List Value} (n : Nat)
    (hx : p.tables.exec = Jvm.exec) (hb : c.code = cc) (hml : c.maxLocals = nL) (hown : s.vm.findClass own = some m.cls) (hts : ∀ w ∈ Ts, w.before args s = true) (hK : va_K (dC, dI) vwCl (ty_IZ cI cZ) s) (hA : ∀ x, H0.size ≤ x → A x) (G : gx_ (dC, dI) A H0 H locs (gw0_ cI cZ h q u ++ gw1_ cI cZ h2 q2 v))
    (hM : gx_Mi l y wsy rm (.ref h :: As) (dC, dI) cI cZ (gw0_ cI cZ h q) u H.size f) (gin : GoodIn Ts (wsV own index RX0 y wsy)) (hw : wsy = Cond.code y bytes maxL ret :: ws') (hr0 : rm.cells = 0) (hr1 : rm.slots = 0)
    (hd : y.cls = RX0 ∧ y.cls ≠ "java/lang/invoke/MethodHandle" ∧ y.cls ≠ "java/lang/invoke/VarHandle" ∧ (parseMethodDescriptor y.desc).map (fun d => d.parameters.length) = some n) (hR : rm.frames + 1 ≤ R.frames ∧ 8 + (maxL + 11) + rm.locals ≤ R.locals)
    (hn : As.length = n) (hls : ls.size = nL) (hst : st0 = As.reverse ++ .ref h :: rest) (hroom : (rest.map fun v => v.category).sum ≤ 8) (hdg : decode cc pc = .ok (.invokevirtual index, 3)) (hcl : cells ≤ R.cells) (hsl : slots ≤ R.slots)
    (kk : ∀ (H1 : Heap) (locs1 : List Loc), gx_ (dC, dI) A H0 H1 locs1 (gw0_ cI cZ h q f.2 ++ gw1_ cI cZ h2 q2 v) → W p l e R s m args below meth c H1 locs1 cells slots Q (F0 m (pc + 3) ls (.int f.1 :: rest))) : W p l e R s m args below meth c H locs cells slots Q (F0 m pc ls st0) := by
  obtain ⟨hP, hD, hS⟩ := G
  have hPc := hP.sub (ws' := gw0_ cI cZ h q u) [0, 1, 2, 3, 4, 5, 6, 7, 8] rfl
  have hDc := hD.sub (ws' := gw0_ cI cZ h q u) [0, 1, 2, 3, 4, 5, 6, 7, 8] (by decide) rfl
  have hFc := va_free (wc := gw0_ cI cZ h q u) hD hS hA [0, 1, 2, 3, 4, 5, 6, 7, 8] rfl
  refine va_calli (va_runV (As := As) (rest := rest) ⟨hx, hb, hml, hown, hts⟩ hM (cwV n hts gin hw hr0 hr1 hd hR) ⟨gx_blind, va_recv hK hPc (ci := 0) (q0 := 0) rfl rfl, fun U hU hW => ⟨rfl, by rw [hU], by rw [hU]; exact hPc, va_K.moved hW.alike hK, hDc.weaken (fun _ _ _ _ => trivial)⟩⟩ rfl hn hls hst (lv_room hroom) hdg ⟨hcl, hsl⟩) hS (fun x _ h => hFc x h) hFc (fun r u1 t H1 locs1 ht hvm hw hB hz1 hk1 hS1 => ?_)
  obtain ⟨hP1, hK1, hD1⟩ := hB
  obtain ⟨rfl, rfl⟩ := hw
  rw [ht] at hP1
  obtain ⟨hP2, hD2⟩ := va_join (wr := gw1_ cI cZ h2 q2 v) (w1 := gw0_ cI cZ h q f.2) hP hD [0, 1, 2, 3, 4, 5, 6, 7, 8] [9, 10, 11, 12, 13, 14, 15, 16] rfl rfl (by decide) (by decide) hk1 hFc hP1 hD1
  exact kk H1 locs1 ⟨hP2.sub [8, 9, 10, 11, 12, 13, 14, 15, 16, 0, 1, 2, 3, 4, 5, 6, 7] rfl, hD2.sub [8, 9, 10, 11, 12, 13, 14, 15, 16, 0, 1, 2, 3, 4, 5, 6, 7] (by decide) rfl, hS1⟩
theorem gl_1 {f : Int32 × st_T} {index maxL nL : Nat} {y : MethodName} {bytes : ByteArray} {ret : Option FieldType} {wsy ws' : List Cond} {rm : Room} {As st0 : List Value} (n : Nat)
    (hx : p.tables.exec = Jvm.exec) (hb : c.code = cc) (hml : c.maxLocals = nL) (hown : s.vm.findClass own = some m.cls) (hts : ∀ w ∈ Ts, w.before args s = true) (hK : va_K (dC, dI) vwCl (ty_IZ cI cZ) s) (hA : ∀ x, H0.size ≤ x → A x) (G : gx_ (dC, dI) A H0 H locs (gw0_ cI cZ h q u ++ gw1_ cI cZ h2 q2 v))
    (hM : gx_Mi l y wsy rm (.ref h2 :: As) (dC, dI) cI cZ (gw1_ cI cZ h2 q2) v H.size f) (gin : GoodIn Ts (wsV own index RX1 y wsy)) (hw : wsy = Cond.code y bytes maxL ret :: ws') (hr0 : rm.cells = 0) (hr1 : rm.slots = 0)
    (hd : y.cls = RX1 ∧ y.cls ≠ "java/lang/invoke/MethodHandle" ∧ y.cls ≠ "java/lang/invoke/VarHandle" ∧ (parseMethodDescriptor y.desc).map (fun d => d.parameters.length) = some n) (hR : rm.frames + 1 ≤ R.frames ∧ 8 + (maxL + 11) + rm.locals ≤ R.locals)
    (hn : As.length = n) (hls : ls.size = nL) (hst : st0 = As.reverse ++ .ref h2 :: rest) (hroom : (rest.map fun v => v.category).sum ≤ 8) (hdg : decode cc pc = .ok (.invokevirtual index, 3)) (hcl : cells ≤ R.cells) (hsl : slots ≤ R.slots)
    (kk : ∀ (H1 : Heap) (locs1 : List Loc), gx_ (dC, dI) A H0 H1 locs1 (gw0_ cI cZ h q u ++ gw1_ cI cZ h2 q2 f.2) → W p l e R s m args below meth c H1 locs1 cells slots Q (F0 m (pc + 3) ls (.int f.1 :: rest))) : W p l e R s m args below meth c H locs cells slots Q (F0 m pc ls st0) := by
  obtain ⟨hP, hD, hS⟩ := G
  have hPc := hP.sub (ws' := gw1_ cI cZ h2 q2 v) [9, 10, 11, 12, 13, 14, 15, 16] rfl
  have hDc := hD.sub (ws' := gw1_ cI cZ h2 q2 v) [9, 10, 11, 12, 13, 14, 15, 16] (by decide) rfl
  have hFc := va_free (wc := gw1_ cI cZ h2 q2 v) hD hS hA [9, 10, 11, 12, 13, 14, 15, 16] rfl
  refine va_calli (va_runV (As := As) (rest := rest) ⟨hx, hb, hml, hown, hts⟩ hM (cwV n hts gin hw hr0 hr1 hd hR) ⟨gx_blind, va_recv hK hPc (ci := 1) (q0 := 0) rfl rfl, fun U hU hW => ⟨rfl, by rw [hU], by rw [hU]; exact hPc, va_K.moved hW.alike hK, hDc.weaken (fun _ _ _ _ => trivial)⟩⟩ rfl hn hls hst (lv_room hroom) hdg ⟨hcl, hsl⟩) hS (fun x _ h => hFc x h) hFc (fun r u1 t H1 locs1 ht hvm hw hB hz1 hk1 hS1 => ?_)
  obtain ⟨hP1, hK1, hD1⟩ := hB
  obtain ⟨rfl, rfl⟩ := hw
  rw [ht] at hP1
  obtain ⟨hP2, hD2⟩ := va_join (wr := gw0_ cI cZ h q u) (w1 := gw1_ cI cZ h2 q2 f.2) hP hD [9, 10, 11, 12, 13, 14, 15, 16] [0, 1, 2, 3, 4, 5, 6, 7, 8] rfl rfl (by decide) (by decide) hk1 hFc hP1 hD1
  exact kk H1 locs1 ⟨hP2, hD2, hS1⟩
end GL
theorem sx_0 {i : Nat} (h : i < 2 ^ 31) (xs : Nat → Int32) : xs (nI i).toNatClampNeg = xs i := congrArg xs (nI_clamp h)
theorem sx_k {i j : Nat} (h : i + j < 2 ^ 31) (xs : Nat → Int32) : xs (nI i + nI j).toNatClampNeg = xs (i + j) := congrArg xs (by rw [nI_add]; exact nI_clamp h)
theorem sm_3 {L : Nat} (h : L ≤ 1536) : (Int32.ofNat L - 3).toInt = (L : Int) - 3 := by
  have h1 : (Int32.ofNat L).toInt = (L : Int) := nI_toInt (n := L) (by omega)
  rw [Int32.toInt_sub, h1, show (3 : Int32).toInt = 3 by decide]
  exact Int.bmod_eq_of_le_mul_two (by omega) (by omega)
set_option maxHeartbeats 4000000 in
set_option maxRecDepth 100000 in
theorem law_loop {p : Program} {l : Launch} {e : Env} {s : State} {m : MethodId} {below : List Frame} {meth : Method} {c : Code} {dC : Nat → ClassId} {dI : Nat → Nat → Nat} {cI cZ : ClassId} {b L : Nat} {xs : Nat → Int32} {h h2 : Nat} {q q2 : Nat → Nat} (hL : L ≤ 1536) (C0 : lw_At p s m meth c b L xs) (hK : va_K (dC, dI) vwCl (ty_IZ cI cZ) s) :
    ∀ (n k : Nat), 3 * k ≤ L → 513 ≤ k + n → ∀ (u v : st_T), ri_ u v k → ∀ (H : Heap) (locs : List Loc), gx_ (dC, dI) (fun q : Nat => s.heap.size ≤ q) s.heap H locs (gw0_ cI cZ h q u ++ gw1_ cI cZ h2 q2 v) → ∀ (ls : Array Slot), lv_has ls 4 [(3, .int (nI (3 * k))), (2, .ref h2), (1, .ref h), (0, .ref b)] → W p l e room_1 s m #[Value.ref b] below meth c H locs 17 775 (lw_Z below #[Value.ref b] s) (F0 m 18 ls []) := by
  obtain ⟨hx, hb, hr, hml, hown, hts, hX, hbl, hlocks, hgv⟩ := C0
  have hown : s.vm.findClass RL = some m.cls := hown
  have hts := fun w h => hts w (wsL_law_in w h)
  have hA : ∀ q : Nat, s.heap.size ≤ q → (fun q : Nat => s.heap.size ≤ q) q := fun _ h => h
  have hbA : ¬ (fun q : Nat => s.heap.size ≤ q) b := Nat.not_le.mpr hbl
  intro n
  induction n with
  | zero =>
    intro k h1 h2
    exact absurd h2 (by omega)
  | succ n ih =>
    intro k hk hn u v hri H locs G ls hl
    refine lv_iload_n hx hb dL_law_18 rfl (lv_at hl 0 rfl) ?_
    refine lv_aload_n hx hb dL_law_19 rfl (lv_at hl 3 rfl) ?_
    refine va_slen hx hb hX hbl hbA G.2.2 dL_law_20 ?_
    refine lv_iconst (v := 3) hx hb dL_law_21 (by decide) ?_
    refine lv_isub hx hb dL_law_22 ?_
    refine lv_icmp_gt (tgt := 233) hx hb dL_law_23 (by decide) (fun c_23 => ?_) (fun c_23 => ?_)
    · refine lv_iconst (v := 1) hx hb dL_law_233 (by decide) ?_
      refine va_forget (fun q hq => G.2.2.2.2 q hq) ?_
      exact lw_ret hx hb hr hlocks dL_law_234
    · have hk3 : 3 * k + 3 ≤ L := by
        rw [Int32.lt_iff_toInt_lt, sm_3 hL, nI_toInt (by omega)] at c_23
        omega
      have hk5 : k < 512 := by omega
      have next : ∀ (u v : st_T), ri_ u v (k + 1) → ∀ (H : Heap) (locs : List Loc), gx_ (dC, dI) (fun q : Nat => s.heap.size ≤ q) s.heap H locs (gw0_ cI cZ h q u ++ gw1_ cI cZ h2 q2 v) → ∀ (ls : Array Slot), lv_has ls 4 [(3, .int (nI (3 * k))), (2, .ref h2), (1, .ref h), (0, .ref b)] → W p l e room_1 s m #[Value.ref b] below meth c H locs 17 775 (lw_Z below #[Value.ref b] s) (F0 m 227 ls []) := by
        intro u v hri H locs G ls hl
        refine lv_iinc (v := nI (3 * (k + 1))) (lv' := [(3, .int (nI (3 * (k + 1)))), (2, .ref h2), (1, .ref h), (0, .ref b)]) hx hb dL_law_227 hl (k := 0) rfl (by show nI (3 * k) + nI 3 = nI (3 * (k + 1)); rw [nI_add]; rfl) (by decide) rfl (fun ls hl => ?_)
        refine lv_goto (tgt := 18) hx hb dL_law_230 (by decide) ?_
        exact ih (k + 1) (by omega) (by omega) u v hri H locs G ls hl
      have i0 : vp_in (nI (3 * k)) L := vp_in_nI (by omega) (by omega)
      have i1 : vp_in (nI (3 * k) + nI 1) L := by rw [nI_add]; exact vp_in_nI (by omega) (by omega)
      have i2 : vp_in (nI (3 * k) + nI 2) L := by rw [nI_add]; exact vp_in_nI (by omega) (by omega)
      refine lv_aload_n hx hb dL_law_26 rfl (lv_at hl 3 rfl) ?_
      refine lv_iload_n hx hb dL_law_27 rfl (lv_at hl 0 rfl) ?_
      refine va_sld hx hb hX hbl hbA G.2.2 i0 dL_law_28 ?_
      refine gx_is (y := xs (3 * k)) (sx_0 (by omega) xs) ?_
      refine lv_bipush (v := 7) hx hb dL_law_29 (by decide) ?_
      refine lv_iand hx hb dL_law_31 ?_
      obtain ⟨a, ea⟩ : ∃ a, a = xs (3 * k) &&& 7 := ⟨_, rfl⟩
      refine gx_is (y := a) ea.symm ?_
      obtain ⟨x1, ex1⟩ : ∃ a, a = xs (3 * k + 1) := ⟨_, rfl⟩
      obtain ⟨x2, ex2⟩ : ∃ a, a = xs (3 * k + 2) := ⟨_, rfl⟩
      by_cases c_0 : a = 0
      · refine lv_tableIn (tgt := 76) hx hb dL_law_32 (by rw [c_0]; decide) (by rw [c_0]; decide) (by rw [c_0]; rfl) (by decide) ?_
        have hca := ca_hold hri hk5 x1 x2
        refine lv_aload_n hx hb dL_law_76 rfl (lv_at hl 2 rfl) ?_
        refine lv_aload_n hx hb dL_law_77 rfl (lv_at hl 3 rfl) ?_
        refine lv_iload_n hx hb dL_law_78 rfl (lv_at hl 0 rfl) ?_
        refine lv_iconst (v := nI 1) hx hb dL_law_79 (by decide) ?_
        refine lv_iadd hx hb dL_law_80 ?_
        refine va_sld hx hb hX hbl hbA G.2.2 i1 dL_law_81 ?_
        refine gx_is (y := x1) ((sx_k (by omega) xs).trans ex1.symm) ?_
        refine lv_aload_n hx hb dL_law_82 rfl (lv_at hl 3 rfl) ?_
        refine lv_iload_n hx hb dL_law_83 rfl (lv_at hl 0 rfl) ?_
        refine lv_iconst (v := nI 2) hx hb dL_law_84 (by decide) ?_
        refine lv_iadd hx hb dL_law_85 ?_
        refine va_sld hx hb hX hbl hbA G.2.2 i2 dL_law_86 ?_
        refine gx_is (y := x2) ((sx_k (by omega) xs).trans ex2.symm) ?_
        refine gl_0 (f := (pd_hold u x1 x2)) (As := [.int x1, .int x2]) (rest := []) 2 hx hb hml hown hts hK hA G (kd_hold l dC dI cI cZ h q H.size u x1 x2 ) gL_law_X0_hold rfl rfl rfl hd_X0_hold ⟨Nat.le_of_ble_eq_true rfl, Nat.le_of_ble_eq_true rfl⟩ rfl hl.1 rfl (Nat.le_of_ble_eq_true rfl) dL_law_87 (Nat.le_of_ble_eq_true rfl) (Nat.le_of_ble_eq_true rfl) (fun H locs G => ?_)
        refine lv_aload_n hx hb dL_law_90 rfl (lv_at hl 1 rfl) ?_
        refine lv_aload_n hx hb dL_law_91 rfl (lv_at hl 3 rfl) ?_
        refine lv_iload_n hx hb dL_law_92 rfl (lv_at hl 0 rfl) ?_
        refine lv_iconst (v := nI 1) hx hb dL_law_93 (by decide) ?_
        refine lv_iadd hx hb dL_law_94 ?_
        refine va_sld hx hb hX hbl hbA G.2.2 i1 dL_law_95 ?_
        refine gx_is (y := x1) ((sx_k (by omega) xs).trans ex1.symm) ?_
        refine lv_aload_n hx hb dL_law_96 rfl (lv_at hl 3 rfl) ?_
        refine lv_iload_n hx hb dL_law_97 rfl (lv_at hl 0 rfl) ?_
        refine lv_iconst (v := nI 2) hx hb dL_law_98 (by decide) ?_
        refine lv_iadd hx hb dL_law_99 ?_
        refine va_sld hx hb hX hbl hbA G.2.2 i2 dL_law_100 ?_
        refine gx_is (y := x2) ((sx_k (by omega) xs).trans ex2.symm) ?_
        refine gl_1 (f := (pm_hold v x1 x2)) (As := [.int x1, .int x2]) (rest := [.int (pd_hold u x1 x2).1]) 2 hx hb hml hown hts hK hA G (km_hold l dC dI cI cZ h2 q2 H.size v x1 x2 ) gL_law_X1_hold rfl rfl rfl hd_X1_hold ⟨Nat.le_of_ble_eq_true rfl, Nat.le_of_ble_eq_true rfl⟩ rfl hl.1 rfl (Nat.le_of_ble_eq_true rfl) dL_law_101 (Nat.le_of_ble_eq_true rfl) (Nat.le_of_ble_eq_true rfl) (fun H locs G => ?_)
        refine lv_icmp_eq (tgt := 227) hx hb dL_law_104 (by decide) (fun _ => ?_) (fun z => absurd (hca.1) z)
        exact next _ _ (hca.2) H locs G ls hl
      by_cases c_1 : a = 1
      · refine lv_tableIn (tgt := 109) hx hb dL_law_32 (by rw [c_1]; decide) (by rw [c_1]; decide) (by rw [c_1]; rfl) (by decide) ?_
        have hca := ca_step hri hk5 x1 x2
        refine lv_aload_n hx hb dL_law_109 rfl (lv_at hl 2 rfl) ?_
        refine lv_aload_n hx hb dL_law_110 rfl (lv_at hl 3 rfl) ?_
        refine lv_iload_n hx hb dL_law_111 rfl (lv_at hl 0 rfl) ?_
        refine lv_iconst (v := nI 1) hx hb dL_law_112 (by decide) ?_
        refine lv_iadd hx hb dL_law_113 ?_
        refine va_sld hx hb hX hbl hbA G.2.2 i1 dL_law_114 ?_
        refine gx_is (y := x1) ((sx_k (by omega) xs).trans ex1.symm) ?_
        refine lv_aload_n hx hb dL_law_115 rfl (lv_at hl 3 rfl) ?_
        refine lv_iload_n hx hb dL_law_116 rfl (lv_at hl 0 rfl) ?_
        refine lv_iconst (v := nI 2) hx hb dL_law_117 (by decide) ?_
        refine lv_iadd hx hb dL_law_118 ?_
        refine va_sld hx hb hX hbl hbA G.2.2 i2 dL_law_119 ?_
        refine gx_is (y := x2) ((sx_k (by omega) xs).trans ex2.symm) ?_
        refine gl_0 (f := (pd_step u x1 x2)) (As := [.int x1, .int x2]) (rest := []) 2 hx hb hml hown hts hK hA G (kd_step l dC dI cI cZ h q H.size u x1 x2 hca.1 hca.2.1) gL_law_X0_step rfl rfl rfl hd_X0_step ⟨Nat.le_of_ble_eq_true rfl, Nat.le_of_ble_eq_true rfl⟩ rfl hl.1 rfl (Nat.le_of_ble_eq_true rfl) dL_law_120 (Nat.le_of_ble_eq_true rfl) (Nat.le_of_ble_eq_true rfl) (fun H locs G => ?_)
        refine lv_aload_n hx hb dL_law_123 rfl (lv_at hl 1 rfl) ?_
        refine lv_aload_n hx hb dL_law_124 rfl (lv_at hl 3 rfl) ?_
        refine lv_iload_n hx hb dL_law_125 rfl (lv_at hl 0 rfl) ?_
        refine lv_iconst (v := nI 1) hx hb dL_law_126 (by decide) ?_
        refine lv_iadd hx hb dL_law_127 ?_
        refine va_sld hx hb hX hbl hbA G.2.2 i1 dL_law_128 ?_
        refine gx_is (y := x1) ((sx_k (by omega) xs).trans ex1.symm) ?_
        refine lv_aload_n hx hb dL_law_129 rfl (lv_at hl 3 rfl) ?_
        refine lv_iload_n hx hb dL_law_130 rfl (lv_at hl 0 rfl) ?_
        refine lv_iconst (v := nI 2) hx hb dL_law_131 (by decide) ?_
        refine lv_iadd hx hb dL_law_132 ?_
        refine va_sld hx hb hX hbl hbA G.2.2 i2 dL_law_133 ?_
        refine gx_is (y := x2) ((sx_k (by omega) xs).trans ex2.symm) ?_
        refine gl_1 (f := (pm_step v x1 x2)) (As := [.int x1, .int x2]) (rest := [.int (pd_step u x1 x2).1]) 2 hx hb hml hown hts hK hA G (km_step l dC dI cI cZ h2 q2 H.size v x1 x2 hca.2.2.1) gL_law_X1_step rfl rfl rfl hd_X1_step ⟨Nat.le_of_ble_eq_true rfl, Nat.le_of_ble_eq_true rfl⟩ rfl hl.1 rfl (Nat.le_of_ble_eq_true rfl) dL_law_134 (Nat.le_of_ble_eq_true rfl) (Nat.le_of_ble_eq_true rfl) (fun H locs G => ?_)
        refine lv_icmp_eq (tgt := 227) hx hb dL_law_137 (by decide) (fun _ => ?_) (fun z => absurd (hca.2.2.2.1) z)
        exact next _ _ (hca.2.2.2.2) H locs G ls hl
      by_cases c_2 : a = 2
      · refine lv_tableIn (tgt := 142) hx hb dL_law_32 (by rw [c_2]; decide) (by rw [c_2]; decide) (by rw [c_2]; rfl) (by decide) ?_
        have hca := ca_clear hri hk5
        refine lv_aload_n hx hb dL_law_142 rfl (lv_at hl 2 rfl) ?_
        refine gl_0 (f := (pd_clear u)) (As := []) (rest := []) 0 hx hb hml hown hts hK hA G (kd_clear l dC dI cI cZ h q H.size u  ) gL_law_X0_clear rfl rfl rfl hd_X0_clear ⟨Nat.le_of_ble_eq_true rfl, Nat.le_of_ble_eq_true rfl⟩ rfl hl.1 rfl (Nat.le_of_ble_eq_true rfl) dL_law_143 (Nat.le_of_ble_eq_true rfl) (Nat.le_of_ble_eq_true rfl) (fun H locs G => ?_)
        refine lv_aload_n hx hb dL_law_146 rfl (lv_at hl 1 rfl) ?_
        refine gl_1 (f := (pm_clear v)) (As := []) (rest := [.int (pd_clear u).1]) 0 hx hb hml hown hts hK hA G (km_clear l dC dI cI cZ h2 q2 H.size v  ) gL_law_X1_clear rfl rfl rfl hd_X1_clear ⟨Nat.le_of_ble_eq_true rfl, Nat.le_of_ble_eq_true rfl⟩ rfl hl.1 rfl (Nat.le_of_ble_eq_true rfl) dL_law_147 (Nat.le_of_ble_eq_true rfl) (Nat.le_of_ble_eq_true rfl) (fun H locs G => ?_)
        refine lv_icmp_eq (tgt := 227) hx hb dL_law_150 (by decide) (fun _ => ?_) (fun z => absurd (hca.1) z)
        exact next _ _ (hca.2) H locs G ls hl
      by_cases c_3 : a = 3
      · refine lv_tableIn (tgt := 155) hx hb dL_law_32 (by rw [c_3]; decide) (by rw [c_3]; decide) (by rw [c_3]; rfl) (by decide) ?_
        have hca := ca_run hri hk5
        refine lv_aload_n hx hb dL_law_155 rfl (lv_at hl 2 rfl) ?_
        refine gl_0 (f := (pd_run u)) (As := []) (rest := []) 0 hx hb hml hown hts hK hA G (kd_run l dC dI cI cZ h q H.size u  hca.1) gL_law_X0_run rfl rfl rfl hd_X0_run ⟨Nat.le_of_ble_eq_true rfl, Nat.le_of_ble_eq_true rfl⟩ rfl hl.1 rfl (Nat.le_of_ble_eq_true rfl) dL_law_156 (Nat.le_of_ble_eq_true rfl) (Nat.le_of_ble_eq_true rfl) (fun H locs G => ?_)
        refine lv_aload_n hx hb dL_law_159 rfl (lv_at hl 1 rfl) ?_
        refine gl_1 (f := (pm_run v)) (As := []) (rest := [.int (pd_run u).1]) 0 hx hb hml hown hts hK hA G (km_run l dC dI cI cZ h2 q2 H.size v  hca.2.1) gL_law_X1_run rfl rfl rfl hd_X1_run ⟨Nat.le_of_ble_eq_true rfl, Nat.le_of_ble_eq_true rfl⟩ rfl hl.1 rfl (Nat.le_of_ble_eq_true rfl) dL_law_160 (Nat.le_of_ble_eq_true rfl) (Nat.le_of_ble_eq_true rfl) (fun H locs G => ?_)
        refine lv_icmp_eq (tgt := 227) hx hb dL_law_163 (by decide) (fun _ => ?_) (fun z => absurd (hca.2.2.1) z)
        exact next _ _ (hca.2.2.2) H locs G ls hl
      by_cases c_4 : a = 4
      · refine lv_tableIn (tgt := 168) hx hb dL_law_32 (by rw [c_4]; decide) (by rw [c_4]; decide) (by rw [c_4]; rfl) (by decide) ?_
        refine lv_aload_n hx hb dL_law_168 rfl (lv_at hl 2 rfl) ?_
        refine lv_aload_n hx hb dL_law_169 rfl (lv_at hl 3 rfl) ?_
        refine lv_iload_n hx hb dL_law_170 rfl (lv_at hl 0 rfl) ?_
        refine lv_iconst (v := nI 1) hx hb dL_law_171 (by decide) ?_
        refine lv_iadd hx hb dL_law_172 ?_
        refine va_sld hx hb hX hbl hbA G.2.2 i1 dL_law_173 ?_
        refine gx_is (y := x1) ((sx_k (by omega) xs).trans ex1.symm) ?_
        refine gl_0 (f := (pd_result u x1, u)) (As := [.int x1]) (rest := []) 1 hx hb hml hown hts hK hA G (kd_result l dC dI cI cZ h q H.size u x1 ) gL_law_X0_result rfl rfl rfl hd_X0_result ⟨Nat.le_of_ble_eq_true rfl, Nat.le_of_ble_eq_true rfl⟩ rfl hl.1 rfl (Nat.le_of_ble_eq_true rfl) dL_law_174 (Nat.le_of_ble_eq_true rfl) (Nat.le_of_ble_eq_true rfl) (fun H locs G => ?_)
        refine lv_aload_n hx hb dL_law_177 rfl (lv_at hl 1 rfl) ?_
        refine lv_aload_n hx hb dL_law_178 rfl (lv_at hl 3 rfl) ?_
        refine lv_iload_n hx hb dL_law_179 rfl (lv_at hl 0 rfl) ?_
        refine lv_iconst (v := nI 1) hx hb dL_law_180 (by decide) ?_
        refine lv_iadd hx hb dL_law_181 ?_
        refine va_sld hx hb hX hbl hbA G.2.2 i1 dL_law_182 ?_
        refine gx_is (y := x1) ((sx_k (by omega) xs).trans ex1.symm) ?_
        refine gl_1 (f := (pm_result v x1, v)) (As := [.int x1]) (rest := [.int (pd_result u x1)]) 1 hx hb hml hown hts hK hA G (km_result l dC dI cI cZ h2 q2 H.size v x1 ) gL_law_X1_result rfl rfl rfl hd_X1_result ⟨Nat.le_of_ble_eq_true rfl, Nat.le_of_ble_eq_true rfl⟩ rfl hl.1 rfl (Nat.le_of_ble_eq_true rfl) dL_law_183 (Nat.le_of_ble_eq_true rfl) (Nat.le_of_ble_eq_true rfl) (fun H locs G => ?_)
        refine lv_icmp_eq (tgt := 227) hx hb dL_law_186 (by decide) (fun _ => ?_) (fun z => absurd (ca_result hri x1) z)
        exact next _ _ (ri_next hri hk5) H locs G ls hl
      by_cases c_5 : a = 5
      · refine lv_tableIn (tgt := 191) hx hb dL_law_32 (by rw [c_5]; decide) (by rw [c_5]; decide) (by rw [c_5]; rfl) (by decide) ?_
        refine lv_aload_n hx hb dL_law_191 rfl (lv_at hl 2 rfl) ?_
        refine gl_0 (f := (pd_failure u, u)) (As := []) (rest := []) 0 hx hb hml hown hts hK hA G (kd_failure l dC dI cI cZ h q H.size u  ) gL_law_X0_failure rfl rfl rfl hd_X0_failure ⟨Nat.le_of_ble_eq_true rfl, Nat.le_of_ble_eq_true rfl⟩ rfl hl.1 rfl (Nat.le_of_ble_eq_true rfl) dL_law_192 (Nat.le_of_ble_eq_true rfl) (Nat.le_of_ble_eq_true rfl) (fun H locs G => ?_)
        refine lv_aload_n hx hb dL_law_195 rfl (lv_at hl 1 rfl) ?_
        refine gl_1 (f := (pm_failure v, v)) (As := []) (rest := [.int (pd_failure u)]) 0 hx hb hml hown hts hK hA G (km_failure l dC dI cI cZ h2 q2 H.size v  ) gL_law_X1_failure rfl rfl rfl hd_X1_failure ⟨Nat.le_of_ble_eq_true rfl, Nat.le_of_ble_eq_true rfl⟩ rfl hl.1 rfl (Nat.le_of_ble_eq_true rfl) dL_law_196 (Nat.le_of_ble_eq_true rfl) (Nat.le_of_ble_eq_true rfl) (fun H locs G => ?_)
        refine lv_icmp_eq (tgt := 227) hx hb dL_law_199 (by decide) (fun _ => ?_) (fun z => absurd (ca_failure hri) z)
        exact next _ _ (ri_next hri hk5) H locs G ls hl
      by_cases c_6 : a = 6
      · refine lv_tableIn (tgt := 204) hx hb dL_law_32 (by rw [c_6]; decide) (by rw [c_6]; decide) (by rw [c_6]; rfl) (by decide) ?_
        refine lv_aload_n hx hb dL_law_204 rfl (lv_at hl 2 rfl) ?_
        refine lv_aload_n hx hb dL_law_205 rfl (lv_at hl 3 rfl) ?_
        refine lv_iload_n hx hb dL_law_206 rfl (lv_at hl 0 rfl) ?_
        refine lv_iconst (v := nI 1) hx hb dL_law_207 (by decide) ?_
        refine lv_iadd hx hb dL_law_208 ?_
        refine va_sld hx hb hX hbl hbA G.2.2 i1 dL_law_209 ?_
        refine gx_is (y := x1) ((sx_k (by omega) xs).trans ex1.symm) ?_
        refine gl_0 (f := (pd_state u x1, u)) (As := [.int x1]) (rest := []) 1 hx hb hml hown hts hK hA G (kd_state l dC dI cI cZ h q H.size u x1 ) gL_law_X0_state rfl rfl rfl hd_X0_state ⟨Nat.le_of_ble_eq_true rfl, Nat.le_of_ble_eq_true rfl⟩ rfl hl.1 rfl (Nat.le_of_ble_eq_true rfl) dL_law_210 (Nat.le_of_ble_eq_true rfl) (Nat.le_of_ble_eq_true rfl) (fun H locs G => ?_)
        refine lv_aload_n hx hb dL_law_213 rfl (lv_at hl 1 rfl) ?_
        refine lv_aload_n hx hb dL_law_214 rfl (lv_at hl 3 rfl) ?_
        refine lv_iload_n hx hb dL_law_215 rfl (lv_at hl 0 rfl) ?_
        refine lv_iconst (v := nI 1) hx hb dL_law_216 (by decide) ?_
        refine lv_iadd hx hb dL_law_217 ?_
        refine va_sld hx hb hX hbl hbA G.2.2 i1 dL_law_218 ?_
        refine gx_is (y := x1) ((sx_k (by omega) xs).trans ex1.symm) ?_
        refine gl_1 (f := (pm_state v x1, v)) (As := [.int x1]) (rest := [.int (pd_state u x1)]) 1 hx hb hml hown hts hK hA G (km_state l dC dI cI cZ h2 q2 H.size v x1 ) gL_law_X1_state rfl rfl rfl hd_X1_state ⟨Nat.le_of_ble_eq_true rfl, Nat.le_of_ble_eq_true rfl⟩ rfl hl.1 rfl (Nat.le_of_ble_eq_true rfl) dL_law_219 (Nat.le_of_ble_eq_true rfl) (Nat.le_of_ble_eq_true rfl) (fun H locs G => ?_)
        refine lv_icmp_eq (tgt := 227) hx hb dL_law_222 (by decide) (fun _ => ?_) (fun z => absurd (ca_state hri x1) z)
        exact next _ _ (ri_next hri hk5) H locs G ls hl
      refine lv_tableOut (tgt := 227) hx hb dL_law_32 (by have z0 := lv_neT c_0 (a := 0) (by decide); have z1 := lv_neT c_1 (a := 1) (by decide); have z2 := lv_neT c_2 (a := 2) (by decide); have z3 := lv_neT c_3 (a := 3) (by decide); have z4 := lv_neT c_4 (a := 4) (by decide); have z5 := lv_neT c_5 (a := 5) (by decide); have z6 := lv_neT c_6 (a := 6) (by decide); omega) (by decide) ?_
      exact next _ _ (ri_next hri hk5) H locs G ls hl
set_option maxHeartbeats 4000000 in
set_option maxRecDepth 100000 in
/-- THE LAW, from its entry -/
theorem whole_start {p : Program} {e : Env} {s : State} {m : MethodId} {below : List Frame} {meth : Method} {c : Code} (l : Launch) (hflags : l.flags = flags0) {b L : Nat} {xs : Nat → Int32} (hL : L ≤ 1536) (C0 : lw_At p s m meth c b L xs) : W p l e room_1 s m #[Value.ref b] below meth c s.heap [] 0 0 (lw_Z below #[Value.ref b] s) (entryFrame m ([Value.ref b] : List Value).toArray 4) := by
  obtain ⟨hx, hb, hr, hml, hown, hts0, hX, hbl, hlocks, hgv⟩ := id C0
  have hown : s.vm.findClass RL = some m.cls := hown
  have hts := fun w h => hts0 w (wsL_law_in w h)
  have hA : ∀ q : Nat, s.heap.size ≤ q → (fun q : Nat => s.heap.size ≤ q) q := fun _ h => h
  obtain ⟨c0, iS0, hKn0⟩ := u_known (C := RX0) (T := TX0) (N := 17) (n := 17) hts inlX0 (hts (.instantiable RX0 17) (by decide +kernel))
  obtain ⟨c1, iS1, hKn1⟩ := u_known (C := RX1) (T := TX1) (N := 15) (n := 15) hts inlX1 (hts (.instantiable RX1 15) (by decide +kernel))
  obtain ⟨dC, dI, hKc⟩ : ∃ (dC : Nat → ClassId) (dI : Nat → Nat → Nat), ∀ (k : Nat) (q : vw_C), vwCl[k]? = some q → u_Kn s q.1 q.2.1 q.2.2 (dC k) (dI k) := by
    refine ⟨fun k => if k = 0 then c0 else c1, fun k => if k = 0 then iS0 else iS1, ?_⟩
    intro k q hq
    match k, hq with
    | 0, hq => cases hq; exact hKn0
    | 1, hq => cases hq; exact hKn1
    | k + 2, hq => simp [vwCl] at hq
  have hS : va_S (fun q : Nat => s.heap.size ≤ q) s.heap s.heap [] := va_S.rf
  have hK : va_K (dC, dI) vwCl [] s := ⟨hKc, fun k q h => by simp at h⟩
  have hP : va_P (dC, dI) vwCl [] s.heap := fun k q h => by simp at h
  have hD : va_D (fun q : Nat => s.heap.size ≤ q) [] := ⟨fun i j p q h => by simp at h, fun k q h => by simp at h⟩
  have hl := lv_entry ([.ref b]) (n := 4) (Nat.le_of_ble_eq_true rfl)
  rw [lg_entry_eq]
  generalize (lg_sl ([.ref b]) ++ List.replicate (4 - (lg_sl ([.ref b])).length) Slot.unset).toArray = ls at hl ⊢
  have hl : lv_has ls 4 [(0, .ref b)] := hl
  refine va_new (ci := 0) (fs := [.null, .int 0, .null, .int 0, .int 0, .null, .null, .null, .null, .int 0, .int 0, .int 0, .null, .int 0, .null, .int 0, .int 0]) (C := RX0) (T := TX0) (N := 17) hx hb hts inlX0 tyX0 tyX0_ok hown (hts (.classLink RL 7 RX0) (by decide +kernel)) (hts (.instantiable RX0 17) (by decide +kernel)) (hts (.initialized RX0) (by decide +kernel)) hK hP hD hS hA rfl (fun j hj => by
    match j, hj with
    | 0, _ => rfl
    | 1, _ => rfl
    | 2, _ => rfl
    | 3, _ => rfl
    | 4, _ => rfl
    | 5, _ => rfl
    | 6, _ => rfl
    | 7, _ => rfl
    | 8, _ => rfl
    | 9, _ => rfl
    | 10, _ => rfl
    | 11, _ => rfl
    | 12, _ => rfl
    | 13, _ => rfl
    | 14, _ => rfl
    | 15, _ => rfl
    | 16, _ => rfl
    | j + 17, hj => exact absurd hj (by omega)) (Nat.le_of_ble_eq_true rfl) (Nat.le_of_ble_eq_true rfl) dL_law_0 (fun h H hP hD hS => ?_)
  have hP : va_P (dC, dI) vwCl (gn0_ h) H := hP
  have hD : va_D (fun q : Nat => s.heap.size ≤ q) (gn0_ h) := hD
  refine W.widen (k := 1) (n := 17) (Nat.le_of_ble_eq_true rfl) (Nat.le_of_ble_eq_true rfl) ?_
  refine lv_dup hx hb dL_law_3 rfl ?_
  have hPc := hP.sub (ws' := gn0_ h) [0] rfl
  have hDc := hD.sub (ws' := gn0_ h) [0] (by decide) rfl
  have hKc0 := hK.sub (tys' := []) [] rfl
  have hFc := va_free (wc := gn0_ h) hD hS hA [0] rfl
  refine va_callv (va_runI (As := []) (rest := [.ref h]) ⟨hx, hb, hml, hown, hts⟩ (kd_init l dC dI h H.size) (cwI 0 hts gL_law_X0_init rfl rfl rfl (hts (.initialized RX0) (by decide +kernel)) (hts (.methodLink RL 9 yX0_init) (by decide +kernel)) (hts (.instanceMethod yX0_init) (by decide +kernel)) rfl (by decide +kernel) ⟨Nat.le_of_ble_eq_true rfl, Nat.le_of_ble_eq_true rfl⟩) ⟨fun a U g mk q => by obtain ⟨q0, q1, qP, qK, qD⟩ := q; exact ⟨q0, q1, qP, va_K.moved (u := U) (U := U.calling g mk a) (Vm.Alike.refl U.vm) qK, qD⟩, fun U hU hW => ⟨rfl, by rw [hU], by rw [hU]; exact hPc, va_K.moved hW.alike hKc0, hDc.weaken (fun _ _ _ _ => trivial)⟩⟩ rfl rfl hl.1 rfl (lv_room (Nat.le_of_ble_eq_true rfl)) dL_law_4 ⟨Nat.le_of_ble_eq_true rfl, Nat.le_of_ble_eq_true rfl⟩) hS (fun q _ h => hFc q h) hFc (fun un t H1 locs ht hvm hw hB hz1 hk1 hS => ?_)
  obtain ⟨cI, cZ, q, hP1, hK1, hD1⟩ := hB
  rw [ht] at hP1
  have hK1 := va_K.moved hvm.symm hK1
  obtain ⟨hP, hD⟩ := va_join (wr := []) (w1 := gw0_ cI cZ h q pd_init) hP hD [0] [] rfl rfl (by decide) (by decide) hk1 hFc hP1 hD1
  have hK : va_K (dC, dI) vwCl (ty_IZ cI cZ) s := hK1
  generalize H1 = H at hP hS ⊢
  have hP : va_P (dC, dI) vwCl (gw0_ cI cZ h q pd_init) H := hP
  have hD : va_D (fun q : Nat => s.heap.size ≤ q) (gw0_ cI cZ h q pd_init) := hD
  refine W.widen (k := 9) (n := 151) (Nat.le_of_ble_eq_true rfl) (Nat.le_of_ble_eq_true rfl) ?_
  refine lv_astore_n (lv' := [(1, .ref h), (0, .ref b)]) hx hb dL_law_7 rfl hl (by decide) rfl (fun ls hl => ?_)
  refine va_new (ci := 1) (fs := [.null, .null, .int 0, .null, .int 0, .int 0, .null, .null, .int 0, .int 0, .null, .int 0, .null, .int 0, .int 0]) (C := RX1) (T := TX1) (N := 15) hx hb hts inlX1 tyX1 tyX1_ok hown (hts (.classLink RL 10 RX1) (by decide +kernel)) (hts (.instantiable RX1 15) (by decide +kernel)) (hts (.initialized RX1) (by decide +kernel)) hK hP hD hS hA rfl (fun j hj => by
    match j, hj with
    | 0, _ => rfl
    | 1, _ => rfl
    | 2, _ => rfl
    | 3, _ => rfl
    | 4, _ => rfl
    | 5, _ => rfl
    | 6, _ => rfl
    | 7, _ => rfl
    | 8, _ => rfl
    | 9, _ => rfl
    | 10, _ => rfl
    | 11, _ => rfl
    | 12, _ => rfl
    | 13, _ => rfl
    | 14, _ => rfl
    | j + 15, hj => exact absurd hj (by omega)) (Nat.le_of_ble_eq_true rfl) (Nat.le_of_ble_eq_true rfl) dL_law_8 (fun h2 H hP hD hS => ?_)
  have hP : va_P (dC, dI) vwCl (gw0_ cI cZ h q pd_init ++ gn1_ h2) H := hP
  have hD : va_D (fun q : Nat => s.heap.size ≤ q) (gw0_ cI cZ h q pd_init ++ gn1_ h2) := hD
  refine W.widen (k := 10) (n := 166) (Nat.le_of_ble_eq_true rfl) (Nat.le_of_ble_eq_true rfl) ?_
  refine lv_dup hx hb dL_law_11 rfl ?_
  have hPc := hP.sub (ws' := gn1_ h2) [9] rfl
  have hDc := hD.sub (ws' := gn1_ h2) [9] (by decide) rfl
  have hKc1 := hK.sub (tys' := []) [] rfl
  have hFc := va_free (wc := gn1_ h2) hD hS hA [9] rfl
  refine va_callv (va_runI (As := []) (rest := [.ref h2]) ⟨hx, hb, hml, hown, hts⟩ (km_init l dC dI h2 H.size) (cwI 0 hts gL_law_X1_init rfl rfl rfl (hts (.initialized RX1) (by decide +kernel)) (hts (.methodLink RL 12 yX1_init) (by decide +kernel)) (hts (.instanceMethod yX1_init) (by decide +kernel)) rfl (by decide +kernel) ⟨Nat.le_of_ble_eq_true rfl, Nat.le_of_ble_eq_true rfl⟩) ⟨fun a U g mk q => by obtain ⟨q0, q1, qP, qK, qD⟩ := q; exact ⟨q0, q1, qP, va_K.moved (u := U) (U := U.calling g mk a) (Vm.Alike.refl U.vm) qK, qD⟩, fun U hU hW => ⟨rfl, by rw [hU], by rw [hU]; exact hPc, va_K.moved hW.alike hKc1, hDc.weaken (fun _ _ _ _ => trivial)⟩⟩ rfl rfl hl.1 rfl (lv_room (Nat.le_of_ble_eq_true rfl)) dL_law_12 ⟨Nat.le_of_ble_eq_true rfl, Nat.le_of_ble_eq_true rfl⟩) hS (fun q _ h => hFc q h) hFc (fun un t H1 locs ht hvm hw hB hz1 hk1 hS => ?_)
  obtain ⟨cI2, cZ2, q2, hP1, hK1, hD1⟩ := hB
  rw [ht] at hP1
  have hK1 := va_K.moved hvm.symm hK1
  have hKK := hK.app hK1
  obtain rfl : cI = cI2 := ty_u hKK (i := 0) (j := 2) rfl rfl (Or.inl rfl)
  obtain rfl : cZ = cZ2 := ty_u hKK (i := 1) (j := 3) rfl rfl (Or.inr rfl)
  obtain ⟨hP, hD⟩ := va_join (wr := gw0_ cI cZ h q pd_init) (w1 := gw1_ cI cZ h2 q2 pm_init) hP hD [9] [0, 1, 2, 3, 4, 5, 6, 7, 8] rfl rfl (by decide) (by decide) hk1 hFc hP1 hD1
  have hK : va_K (dC, dI) vwCl (ty_IZ cI cZ) s := hK1
  generalize H1 = H at hP hS ⊢
  have hP : va_P (dC, dI) vwCl (gw0_ cI cZ h q pd_init ++ gw1_ cI cZ h2 q2 pm_init) H := hP
  have hD : va_D (fun q : Nat => s.heap.size ≤ q) (gw0_ cI cZ h q pd_init ++ gw1_ cI cZ h2 q2 pm_init) := hD
  refine W.widen (k := 17) (n := 775) (Nat.le_of_ble_eq_true rfl) (Nat.le_of_ble_eq_true rfl) ?_
  refine lv_astore_n (lv' := [(2, .ref h2), (1, .ref h), (0, .ref b)]) hx hb dL_law_15 rfl hl (by decide) rfl (fun ls hl => ?_)
  refine lv_iconst (v := 0) hx hb dL_law_16 (by decide) ?_
  refine lv_istore_n (lv' := [(3, .int 0), (2, .ref h2), (1, .ref h), (0, .ref b)]) hx hb dL_law_17 rfl hl (by decide) rfl (fun ls hl => ?_)
  exact law_loop hL C0 hK 513 0 (Nat.zero_le _) (by decide) _ _ ri_init H locs ⟨hP, hD, hS⟩ ls hl
set_option maxHeartbeats 4000000 in
theorem lw_walk (l : Launch) (hflags : l.flags = flags0) (b : Addr) (xs : List Int32) : MetFree l x (headSpec (Jvm.Cond.code x code maxLocals ret :: tables_1) room_1) (lw_P b xs) (fun _ _ _ _ _ => True) lw_Q := by
  refine MetFree.of_bodyS (code := code) (maxLocals := maxLocals) (ret := ret) (by decide) ?_ ?_
  · intro args s m h hn
    obtain ⟨meth, c, h1, h2, h3, h4, h5, h6, -, -⟩ := Cond.code_spec hn (atoms_spec (ws := Jvm.Cond.code x code maxLocals ret :: tables_1) h _ List.mem_cons_self)
    exact ⟨meth, c, h1, h2, h3, h4, h5, h6⟩
  · intro p e s m args below meth c s₁ B hml0 hP _
    obtain ⟨rfl, hx, hbd, hgv⟩ := hP
    obtain ⟨scr, harrAt, hlist, hof, hsmall⟩ := hx
    obtain ⟨hcb, hkn, -, -⟩ := State.arrayAt?_spec harrAt
    have hown : s.vm.findClass R_law = some m.cls := findClass_of_methodNamed B.named
    have hts0 : ∀ c ∈ (Jvm.Cond.code x code maxLocals ret :: tables_1), c.before #[Value.ref b] s = true := atoms_spec (ws := Jvm.Cond.code x code maxLocals ret :: tables_1) B.pre
    have hts : ∀ w ∈ lw_tbl, w.before #[Value.ref b] s = true := k2_hts_sels lw_privs (fun w hw => hts0 w (List.mem_cons_of_mem _ hw)) lw_privs_ok
    have hml : c.maxLocals = 4 := B.maxLocals_eq (hts0 _ List.mem_cons_self)
    have X₀ : Stand p l e room_1 s m #[Value.ref b] below meth c s₁ [] 0 0 := Stand.of_body B
    have hh0 : s₁.heap = s.heap := by rw [B.state]; rfl
    have hsz : scr.slots.size = xs.length := by rw [← Array.length_toList, hlist, List.length_map]
    have hval : ∀ j : Nat, j < xs.length → scr.slots[j]? = some (.int (xs.getD j 0)) := fun j hj => by
      rw [← Array.getElem?_toList, hlist]
      simp [hj]
    have hbl : b < s.heap.size := (Array.getElem?_eq_some_iff.mp hcb).1
    have hX : va_X b xs.length (fun j => xs.getD j 0) s s.heap := ⟨scr, hcb, hof, hkn, hsz, hval⟩
    have K : W p l e room_1 s m #[Value.ref b] below meth c s₁.heap [] 0 0 (lw_Z below #[Value.ref b] s) (entryFrame m ([Value.ref b] : List Value).toArray 4) := by
      rw [hh0]
      exact whole_start l hflags hbd ⟨B.exec, B.bytes, B.returns, hml, hown, hts, hX, hbl, B.notSynchronized, hgv⟩
    obtain ⟨t, a1, o, b1, b2, b3⟩ := K s₁ rfl X₀
    exact ⟨t, o, a1, b1, b2, b3⟩
theorem lw_pre_spec {args : Array Value} {s : State} (h : (Jvm.Cond.and given_1 narrow_1).before args s = true) (hr : rest_1_c.before args s = true) : ∃ (b : Addr) (xs : List Int32), lw_P b xs args s := by
  have hs := flat_of_before _ h
  have hq := flat_of_before _ hr
  have hc : (Cond.count 1).before args s = true := hs _ (by decide +kernel)
  have harr : (Cond.arrayOf (.arg 0) .int).before args s = true := hs _ (by decide +kernel)
  have hle : (Cond.le (.length (.arg 0)) (.int 1536)).before args s = true := hs _ (by decide +kernel)
  have hlen : (Cond.isInt (.length (.arg 0))).before args s = true := hq _ (by decide +kernel)
  have hall : (Cond.all (.arg 0) (.isInt (.elem (.arg 0) (.index 0)))).before args s = true := hq _ (by decide +kernel)
  obtain ⟨b, xs, hb, hx⟩ := State.ints_of_pre rfl harr hlen hall
  have hsm : xs.length < 2 ^ 31 := hx.choose_spec.2.2.2
  have hev : (Term.length (.arg 0)).eval args s none [] s = some (.int xs.length.toInt32) := hx.length_eval hb
  have hv := Cond.le_ints hev (show (Term.int 1536).eval args s none [] s = some (.int 1536) from rfl)
  have hd : xs.length.toInt32 ≤ 1536 := by
    simpa [Cond.before, Cond.holds, hv] using hle
  have hN : xs.length ≤ 1536 := (Int32.ofNat_le_ofNat hsm (by decide)).mp (show Int32.ofNat xs.length ≤ Int32.ofNat 1536 from hd)
  exact ⟨b, xs, Cond.one_arg hc (show args[0]? = some (.ref b) from hb), hx, hN, h⟩
theorem lw_comes (l : Launch) (hflags : l.flags = flags0) : Comes l x (Jvm.Cond.code x code maxLocals ret :: tables_1) room_1 (fun tb e args s => Calls_1 tb e args s ∧ rest_1 tb e args s ∧ Pre_1 tb e args s)
    (fun _ _ args s o t => lw_Q args s o t) := by
  intro p e ha hc hk s m args below hf hfit hheap happ hpre
  obtain ⟨b, xs, hP⟩ := lw_pre_spec hpre.2.2 hpre.2.1
  obtain ⟨k, o, h1, h2, h3, hQ⟩ := lw_walk l hflags b xs p e ha hc hk s m args below hf ((Spec.applies_iff_loose hf).mp happ).1 hP trivial
  exact ⟨k, o, h1, h2, h3, hQ⟩
theorem lw_frame {s t : State} {o : Outcome} {args : Array Value} (h : Framed s o t [] 17 775) :
    Framed s o t (fieldLocs frame_1_writes args s ++ arrayLocs frame_1_arrays args s ++ staticLocs frame_1_statics s) 17 775 := h
theorem lw_limb (L : Cond) (hL : ∀ (args : Array Value) (s t : State), L.after args s (.returned (some (.int 1))) t = true) :
    ArmFor flags0 classFile x code maxLocals ret World_1 tables_1 room_1 Calls_1 rest_1 Pre_1
      (fun tb e a s o t => postC L tb e a s o t ∧ Framed s o t (fieldLocs frame_1_writes a s ++ arrayLocs frame_1_arrays a s ++ staticLocs frame_1_statics s) 17 775) := by
  intro l hflags _ _ p e ha hc hk s m args below hf hfit hheap happ hpre
  obtain ⟨k, o, h1, h2, h3, rfl, hF⟩ := lw_comes l hflags p e ha hc hk s m args below hf hfit hheap happ hpre
  exact ⟨k, _, h1, h2, h3, hL args s _, lw_frame hF⟩
theorem i_vc : Claimed_1_1 ∧ Claimed_1_2 := ⟨lw_limb limb_1_1 (fun args s t => by simp [limb_1_1, Cond.after, Cond.holds, Cond.value]), lw_limb limb_1_2 (fun args s t => Cond.after_iff.mpr (by
  first | (rw [show limb_1_2 = Cond.eq .result (.int 1) from rfl, Cond.eq_ints (x := 1) (y := 1) rfl rfl]; simp; done) | (simp [limb_1_2, Cond.value, Term.eval]; done)))⟩
