/-! what a state is: scalar fields and arrays by the field's slot; worlds; rows of the kit for whole worlds -/
abbrev st_T : Type := (Nat → Int32) × (Nat → Nat → Int32)
def st_si (u : st_T) (k : Nat) (v : Int32) : st_T := (va_up u.1 k v, u.2)
def st_sa (u : st_T) (k i : Nat) (v : Int32) : st_T := (u.1, va_up u.2 k (upd (u.2 k) i v))
def st_sf (u : st_T) (k : Nat) (f : Nat → Int32) : st_T := (u.1, va_up u.2 k f)
theorem st_si_2 (u : st_T) (k : Nat) (v : Int32) (j : Nat) : (st_si u k v).2 j = u.2 j := rfl
theorem st_sa_2 (u : st_T) {k j : Nat} (i : Nat) (v : Int32) (h : j ≠ k) : (st_sa u k i v).2 j = u.2 j := va_up_ne _ _ h
theorem st_sf_2 (u : st_T) {k j : Nat} (f : Nat → Int32) (h : j ≠ k) : (st_sf u k f).2 j = u.2 j := va_up_ne _ _ h
def pj_fill (n : Nat) (v : Int32) (f : Nat → Int32) : Nat → Int32 := fun j => if j < n then v else f j
abbrev ix (i : Int32) : Nat := i.toNatClampNeg
abbrev ty_IZ (cI cZ : ClassId) : List (ClassId × FieldType) := [(cI, .int), (cZ, .boolean)]
def gx_ (D : va_G) (A : Nat → Prop) (H0 H : Heap) (locs : List Loc) (ws : va_W) : Prop := va_P D vwCl ws H ∧ va_D A ws ∧ va_S A H0 H locs
def gx_I (D : va_G) (cI cZ : ClassId) (ws : va_W) (sz : Nat) : State → Prop := fun U => U.heap.size = sz ∧ va_P D vwCl ws U.heap ∧ va_K D vwCl (ty_IZ cI cZ) U ∧ va_D (fun _ => True) ws
def gx_O {S : Type} (D : va_G) (cI cZ : ClassId) (wf : S → va_W) (ws : va_W) (sz : Nat) : S → State → Prop := fun u t => va_P D vwCl (wf u) t.heap ∧ va_K D vwCl (ty_IZ cI cZ) t ∧ va_D (va_A ws sz) (wf u)
theorem gx_blind {av : List Value} {D : va_G} {cI cZ : ClassId} {ws : va_W} {sz : Nat} : FrameBlind (va_Pc av (gx_I D cI cZ ws sz)) := fun a U g mk h => by
  obtain ⟨h0, h1, h2, h3, h4⟩ := h
  exact ⟨h0, h1, h2, va_K.moved (u := U) (U := U.calling g mk a) (Vm.Alike.refl U.vm) h3, h4⟩
theorem gx_in {C : String} {T : u_T} {N : Nat} {x : Cond} {l : List Cond} : ∀ w ∈ u_ws C T N, w ∈ x :: (l ++ u_ws C T N) := fun _ h => List.mem_cons_of_mem _ (List.mem_append_right _ h)
/-- the contracts of this proof: an int or nothing comes back, the world goes over -/
abbrev gx_Mi {S : Type} (l : Launch) (y : MethodName) (wsy : List Cond) (rm : Room) (av : List Value) (D : va_G) (cI cZ : ClassId) (wf : S → va_W) (u : S) (sz : Nat) (f : Int32 × S) : Prop :=
  Met l y wsy rm (va_Pc av (gx_I D cI cZ (wf u) sz)) (va_Qi (fun r u1 => r = f.1 ∧ u1 = f.2) (gx_O D cI cZ wf (wf u) sz) (va_A (wf u) sz)) 0 0 (va_A (wf u) sz)
abbrev gx_Mv {S : Type} (l : Launch) (y : MethodName) (wsy : List Cond) (rm : Room) (av : List Value) (D : va_G) (cI cZ : ClassId) (wf : S → va_W) (u : S) (sz : Nat) (f : S) : Prop :=
  Met l y wsy rm (va_Pc av (gx_I D cI cZ (wf u) sz)) (va_Qv (fun u1 => u1 = f) (gx_O D cI cZ wf (wf u) sz) (va_A (wf u) sz)) 0 0 (va_A (wf u) sz)
abbrev gx_Ms (l : Launch) (y : MethodName) (wsy : List Cond) (rm : Room) (av : List Value) (f : Int32) : Prop :=
  Met l y wsy rm (fun v _ => v = av.toArray) (vp_Si (fun r => r = f)) 0 0 (fun _ => False)
theorem gx_met {y : MethodName} {l : Launch} {wsy ws' : List Cond} {rm : Room} {cc : ByteArray} {maxL : Nat} {ret : Option FieldType} {av : List Value} {D : va_G} {cI cZ : ClassId} {ws0 : va_W} {sz : Nat} {Qc : Array Value → State → Outcome → State → Prop} {free : Addr → Prop}
    (hy : plainFor y = true) (hw : wsy = Cond.code y cc maxL ret :: ws') (hle : (lg_sl av).length ≤ maxL)
    (body : ∀ (p : Program) (e : Env) (s : State) (m : MethodId) (args : Array Value) (below : List Frame) (meth : Method) (c : Code) (A : Nat → Prop) (ls : Array Slot), s.heap.size = sz → p.tables.exec = Jvm.exec → c.code = cc → meth.sig.returnType = ret → meth.locks = false → (∀ w ∈ wsy, w.before args s = true) → s.vm.findClass y.cls = some m.cls → c.maxLocals = maxL → va_K D vwCl (ty_IZ cI cZ) s → A = va_A ws0 sz → (∀ x, s.heap.size ≤ x → A x) → gx_ D A s.heap s.heap [] ws0 → lv_has ls maxL (lv_args 0 av) →
      W p l e rm s m args below meth c s.heap [] 0 0 (MQ below Qc args s 0 0 free) (F0 m 0 ls [])) : Met l y wsy rm (va_Pc av (gx_I D cI cZ ws0 sz)) Qc 0 0 free := by
  refine va_MetF (cc := cc) (maxL := maxL) (ret := ret) hy hw ?_
  intro p e s m args below meth c s₁ B hml hv
  obtain ⟨rfl, hsz, hP, hK, hD0⟩ := hv
  have hts := atoms_spec (ws := wsy) B.pre
  rw [lg_entry_eq]
  subst hsz
  exact body p e s m _ below meth c (va_A ws0 s.heap.size) _ rfl B.exec B.bytes B.returns B.notSynchronized hts (findClass_of_methodNamed B.named) hml hK rfl (fun x hx => Or.inr hx) ⟨hP, hD0.self, va_S.rf⟩ (lv_entry av hle)
theorem gx_metS {y : MethodName} {l : Launch} {wsy ws' : List Cond} {rm : Room} {cc : ByteArray} {maxL : Nat} {ret : Option FieldType} {av : List Value} {Qc : Array Value → State → Outcome → State → Prop} {free : Addr → Prop}
    (hy : plainFor y = true) (hw : wsy = Cond.code y cc maxL ret :: ws') (hle : (lg_sl av).length ≤ maxL)
    (body : ∀ (p : Program) (e : Env) (s : State) (m : MethodId) (args : Array Value) (below : List Frame) (meth : Method) (c : Code) (ls : Array Slot), p.tables.exec = Jvm.exec → c.code = cc → meth.sig.returnType = ret → meth.locks = false → (∀ w ∈ wsy, w.before args s = true) → s.vm.findClass y.cls = some m.cls → c.maxLocals = maxL → lv_has ls maxL (lv_args 0 av) →
      W p l e rm s m args below meth c s.heap [] 0 0 (MQ below Qc args s 0 0 free) (F0 m 0 ls [])) : Met l y wsy rm (fun v _ => v = av.toArray) Qc 0 0 free := by
  refine va_MetF (cc := cc) (maxL := maxL) (ret := ret) hy hw ?_
  intro p e s m args below meth c s₁ B hml hv
  subst hv
  have hts := atoms_spec (ws := wsy) B.pre
  rw [lg_entry_eq]
  exact body p e s m _ below meth c _ B.exec B.bytes B.returns B.notSynchronized hts (findClass_of_methodNamed B.named) hml (lv_entry av hle)
section GX
variable {p : Program} {l : Launch} {e : Env} {R : Room} {s : State} {m : MethodId} {args : Array Value} {below : List Frame} {meth : Method} {c : Code} {H : Heap} {locs : List Loc} {cells slots : Nat} {Q : State → Prop}
variable {cc : ByteArray} {pc : Nat} {ls : Array Slot} {rest : List Value} {D : va_G} {A : Nat → Prop} {H0 : Heap} {cI cZ : ClassId} {h : Nat} {q : Nat → Nat} {u : st_T} {Ts : List Cond} {own : String} {sz : Nat} {ws0 : va_W}
theorem gx_iret {S : Type} {wf : S → va_W} {u1 : S} {f : Int32 × S} {v : Int32} (hx : p.tables.exec = Jvm.exec) (hb : c.code = cc) (hr : meth.sig.returnType = some .int) (hlocks : meth.locks = false) (hsz : s.heap.size = sz) (hK : va_K D vwCl (ty_IZ cI cZ) s) (hAe : A = va_A ws0 sz) (G : gx_ D A s.heap H locs (wf u1)) (hdg : decode cc pc = .ok (.ireturn, 1)) (hp : f = (v, u1)) :
    W p l e R s m args below meth c H locs cells slots (MQ below (va_Qi (fun r u1 => r = f.1 ∧ u1 = f.2) (gx_O D cI cZ wf ws0 sz) (va_A ws0 sz)) args s cells slots (va_A ws0 sz)) (F0 m pc ls [.int v]) := by
  subst hAe
  subst hp
  exact W.iret hx hb hr (fun t ht hW => ⟨⟨v, u1, rfl, ⟨rfl, rfl⟩, by rw [ht]; exact G.1, va_K.moved hW.alike hK, G.2.1⟩, G.2.2.F ht⟩) G.2.2.2.2 hdg hlocks
theorem gx_zret {S : Type} {wf : S → va_W} {u1 : S} {f : Int32 × S} {v : Int32} (hx : p.tables.exec = Jvm.exec) (hb : c.code = cc) (hr : meth.sig.returnType = some .boolean) (hlocks : meth.locks = false) (hsz : s.heap.size = sz) (hK : va_K D vwCl (ty_IZ cI cZ) s) (hAe : A = va_A ws0 sz) (G : gx_ D A s.heap H locs (wf u1)) (hdg : decode cc pc = .ok (.ireturn, 1)) (hn : narrow .boolean (.int v) = .int v) (hp : f = (v, u1)) :
    W p l e R s m args below meth c H locs cells slots (MQ below (va_Qi (fun r u1 => r = f.1 ∧ u1 = f.2) (gx_O D cI cZ wf ws0 sz) (va_A ws0 sz)) args s cells slots (va_A ws0 sz)) (F0 m pc ls [.int v]) := by
  subst hAe
  subst hp
  exact W.zret hx hb hr hn (fun t ht hW => ⟨⟨v, u1, rfl, ⟨rfl, rfl⟩, by rw [ht]; exact G.1, va_K.moved hW.alike hK, G.2.1⟩, G.2.2.F ht⟩) G.2.2.2.2 hdg hlocks
theorem gx_vret {S : Type} {wf : S → va_W} {u1 : S} {f : S} (hx : p.tables.exec = Jvm.exec) (hb : c.code = cc) (hr : meth.sig.returnType = none) (hlocks : meth.locks = false) (hsz : s.heap.size = sz) (hK : va_K D vwCl (ty_IZ cI cZ) s) (hAe : A = va_A ws0 sz) (G : gx_ D A s.heap H locs (wf u1)) (hdg : decode cc pc = .ok (.return_, 1)) (hp : f = u1) :
    W p l e R s m args below meth c H locs cells slots (MQ below (va_Qv (fun u1 => u1 = f) (gx_O D cI cZ wf ws0 sz) (va_A ws0 sz)) args s cells slots (va_A ws0 sz)) (F0 m pc ls []) := by
  subst hAe
  subst hp
  exact W.vret hx hb hr (fun t ht hW => ⟨⟨_, rfl, rfl, by rw [ht]; exact G.1, va_K.moved hW.alike hK, G.2.1⟩, G.2.2.F ht⟩) G.2.2.2.2 hdg hlocks
theorem gx_sret {f v : Int32} (hx : p.tables.exec = Jvm.exec) (hb : c.code = cc) (hr : meth.sig.returnType = some .int) (hlocks : meth.locks = false) (hdg : decode cc pc = .ok (.ireturn, 1)) (hp : f = v) :
    W p l e R s m args below meth c s.heap [] cells slots (MQ below (vp_Si (fun r => r = f)) args s cells slots (fun _ => False)) (F0 m pc ls [.int v]) := by
  subst hp
  exact W.iret hx hb hr (fun t ht hW => ⟨_, rfl, rfl, ht⟩) (fun _ h => by cases h) hdg hlocks
theorem gx_szret {f v : Int32} (hx : p.tables.exec = Jvm.exec) (hb : c.code = cc) (hr : meth.sig.returnType = some .boolean) (hlocks : meth.locks = false) (hdg : decode cc pc = .ok (.ireturn, 1)) (hn : narrow .boolean (.int v) = .int v) (hp : f = v) :
    W p l e R s m args below meth c s.heap [] cells slots (MQ below (vp_Si (fun r => r = f)) args s cells slots (fun _ => False)) (F0 m pc ls [.int v]) := by
  subst hp
  exact W.zret hx hb hr hn (fun t ht hW => ⟨_, rfl, rfl, ht⟩) (fun _ h => by cases h) hdg hlocks
theorem gx_free {ws : va_W} (hA : ∀ x, H0.size ≤ x → A x) (G : gx_ D A H0 H locs ws) : ∀ x, va_A ws H.size x → A x := fun x hx => hx.elim (fun ⟨k, e, hk⟩ => G.2.1.2 k (x, e) hk) (fun hx => hA x (Nat.le_trans G.2.2.1 hx))
theorem gx_calli {S : Type} {wf : S → va_W} {u : S} {f : Int32 × S} {C : String} {T : u_T} {N ci : Nat} {fs : List Value} {index maxL nL : Nat} {y : MethodName} {bytes : ByteArray} {ret : Option FieldType} {wsy ws' : List Cond} {rm : Room} {As st0 : List Value} (n : Nat)
    (hx : p.tables.exec = Jvm.exec) (hb : c.code = cc) (hml : c.maxLocals = nL) (hown : s.vm.findClass own = some m.cls) (hts : ∀ w ∈ Ts, w.before args s = true) (hK : va_K D vwCl (ty_IZ cI cZ) s) (hA : ∀ x, H0.size ≤ x → A x) (G : gx_ D A H0 H locs (wf u)) (hrec : (wf u)[0]? = some (h, .inr (ci, fs))) (hc : vwCl[ci]? = some (C, T, N))
    (hM : gx_Mi l y wsy rm (.ref h :: As) D cI cZ wf u H.size f) (gin : GoodIn Ts (wsV own index C y wsy)) (hw : wsy = Cond.code y bytes maxL ret :: ws') (hr0 : rm.cells = 0) (hr1 : rm.slots = 0)
    (hd : y.cls = C ∧ y.cls ≠ "java/lang/invoke/MethodHandle" ∧ y.cls ≠ "java/lang/invoke/VarHandle" ∧ (parseMethodDescriptor y.desc).map (fun d => d.parameters.length) = some n) (hR : rm.frames + 1 ≤ R.frames ∧ 8 + (maxL + 11) + rm.locals ≤ R.locals)
    (hn : As.length = n) (hls : ls.size = nL) (hst : st0 = As.reverse ++ .ref h :: rest) (hroom : (rest.map fun v => v.category).sum ≤ 8) (hdg : decode cc pc = .ok (.invokevirtual index, 3)) (hcl : cells ≤ R.cells) (hsl : slots ≤ R.slots)
    (kk : ∀ (H1 : Heap) (locs1 : List Loc), gx_ D A H0 H1 locs1 (wf f.2) → W p l e R s m args below meth c H1 locs1 cells slots Q (F0 m (pc + 3) ls (.int f.1 :: rest))) : W p l e R s m args below meth c H locs cells slots Q (F0 m pc ls st0) := by
  have hFc := gx_free hA G
  obtain ⟨hP, hD, hS⟩ := G
  refine va_calli (va_runV (As := As) (rest := rest) ⟨hx, hb, hml, hown, hts⟩ hM (cwV n hts gin hw hr0 hr1 hd hR) ⟨gx_blind, va_recv hK hP hc hrec, fun U hU hW => ⟨rfl, by rw [hU], by rw [hU]; exact hP, va_K.moved hW.alike hK, hD.weaken (fun _ _ _ _ => trivial)⟩⟩ rfl hn hls hst (lv_room hroom) hdg ⟨hcl, hsl⟩) hS (fun x _ h => hFc x h) hFc (fun r u1 t H1 locs1 ht hvm hw hB hz1 hk1 hS1 => ?_)
  obtain ⟨hP1, hK1, hD1⟩ := hB
  obtain ⟨rfl, rfl⟩ := hw
  rw [ht] at hP1
  exact kk H1 locs1 ⟨hP1, hD1.weaken (fun _ _ _ z => hFc _ z), hS1⟩
theorem gx_callv {S : Type} {wf : S → va_W} {u : S} {f : S} {C : String} {T : u_T} {N ci : Nat} {fs : List Value} {index maxL nL : Nat} {y : MethodName} {bytes : ByteArray} {ret : Option FieldType} {wsy ws' : List Cond} {rm : Room} {As st0 : List Value} (n : Nat)
    (hx : p.tables.exec = Jvm.exec) (hb : c.code = cc) (hml : c.maxLocals = nL) (hown : s.vm.findClass own = some m.cls) (hts : ∀ w ∈ Ts, w.before args s = true) (hK : va_K D vwCl (ty_IZ cI cZ) s) (hA : ∀ x, H0.size ≤ x → A x) (G : gx_ D A H0 H locs (wf u)) (hrec : (wf u)[0]? = some (h, .inr (ci, fs))) (hc : vwCl[ci]? = some (C, T, N))
    (hM : gx_Mv l y wsy rm (.ref h :: As) D cI cZ wf u H.size f) (gin : GoodIn Ts (wsV own index C y wsy)) (hw : wsy = Cond.code y bytes maxL ret :: ws') (hr0 : rm.cells = 0) (hr1 : rm.slots = 0)
    (hd : y.cls = C ∧ y.cls ≠ "java/lang/invoke/MethodHandle" ∧ y.cls ≠ "java/lang/invoke/VarHandle" ∧ (parseMethodDescriptor y.desc).map (fun d => d.parameters.length) = some n) (hR : rm.frames + 1 ≤ R.frames ∧ 8 + (maxL + 11) + rm.locals ≤ R.locals)
    (hn : As.length = n) (hls : ls.size = nL) (hst : st0 = As.reverse ++ .ref h :: rest) (hroom : (rest.map fun v => v.category).sum ≤ 8) (hdg : decode cc pc = .ok (.invokevirtual index, 3)) (hcl : cells ≤ R.cells) (hsl : slots ≤ R.slots)
    (kk : ∀ (H1 : Heap) (locs1 : List Loc), gx_ D A H0 H1 locs1 (wf f) → W p l e R s m args below meth c H1 locs1 cells slots Q (F0 m (pc + 3) ls rest)) : W p l e R s m args below meth c H locs cells slots Q (F0 m pc ls st0) := by
  have hFc := gx_free hA G
  obtain ⟨hP, hD, hS⟩ := G
  refine va_callv (va_runV (As := As) (rest := rest) ⟨hx, hb, hml, hown, hts⟩ hM (cwV n hts gin hw hr0 hr1 hd hR) ⟨gx_blind, va_recv hK hP hc hrec, fun U hU hW => ⟨rfl, by rw [hU], by rw [hU]; exact hP, va_K.moved hW.alike hK, hD.weaken (fun _ _ _ _ => trivial)⟩⟩ rfl hn hls hst (lv_room hroom) hdg ⟨hcl, hsl⟩) hS (fun x _ h => hFc x h) hFc (fun u1 t H1 locs1 ht hvm hw hB hz1 hk1 hS1 => ?_)
  obtain ⟨hP1, hK1, hD1⟩ := hB
  subst hw
  rw [ht] at hP1
  exact kk H1 locs1 ⟨hP1, hD1.weaken (fun _ _ _ z => hFc _ z), hS1⟩
theorem gx_calls {f : Int32} {index maxL nL : Nat} {y : MethodName} {bytes : ByteArray} {ret : Option FieldType} {wsy ws' : List Cond} {rm : Room} {As st0 : List Value} (n : Nat)
    (hx : p.tables.exec = Jvm.exec) (hb : c.code = cc) (hml : c.maxLocals = nL) (hown : s.vm.findClass own = some m.cls) (hts : ∀ w ∈ Ts, w.before args s = true)
    (hM : gx_Ms l y wsy rm As f) (gin : GoodIn Ts (va_wsS own index y wsy)) (hw : wsy = Cond.code y bytes maxL ret :: ws') (hr0 : rm.cells = 0) (hr1 : rm.slots = 0)
    (hd : y.cls ≠ "java/lang/invoke/MethodHandle" ∧ y.cls ≠ "java/lang/invoke/VarHandle" ∧ (parseMethodDescriptor y.desc).map (fun d => d.parameters.length) = some n) (hR : rm.frames + 1 ≤ R.frames ∧ 8 + (maxL + 11) + rm.locals ≤ R.locals)
    (hn : As.length = n) (hls : ls.size = nL) (hst : st0 = As.reverse ++ rest) (hroom : (rest.map fun v => v.category).sum ≤ 8) (hdg : decode cc pc = .ok (.invokestatic index, 3)) (hcl : cells ≤ R.cells) (hsl : slots ≤ R.slots)
    (kk : W p l e R s m args below meth c H locs cells slots Q (F0 m (pc + 3) ls (.int f :: rest))) : W p l e R s m args below meth c H locs cells slots Q (F0 m pc ls st0) :=
  vp_callSi (W.runS ⟨hx, hb, hml, hown, hts⟩ hM (va_cwS n hts gin hw hr0 hr1 hd hR) preEq rfl hn hls hst (lv_room hroom) hdg ⟨hcl, hsl⟩) (fun r hr => by subst hr; exact kk)
def gf0_ (q : Nat → Nat) (u : st_T) : List Value := [.ref (q 0), .int (u.1 1), .ref (q 2), .int (u.1 3), .int (u.1 4), .ref (q 5), .ref (q 6), .ref (q 7), .ref (q 8), .int (u.1 9), .int (u.1 10), .int (u.1 11), .ref (q 12), .int (u.1 13), .ref (q 14), .int (u.1 15), .int (u.1 16)]
def gw0_ (cI cZ : ClassId) (h : Nat) (q : Nat → Nat) (u : st_T) : va_W := [(h, .inr (0, gf0_ q u)), (q 0, .inl (cI, 5, .inl (u.2 0))), (q 2, .inl (cZ, 4, .inl (u.2 2))), (q 5, .inl (cI, 24, .inl (u.2 5))), (q 6, .inl (cI, 24, .inl (u.2 6))), (q 7, .inl (cI, 24, .inl (u.2 7))), (q 8, .inl (cI, 24, .inl (u.2 8))), (q 12, .inl (cI, 24, .inl (u.2 12))), (q 14, .inl (cI, 5, .inl (u.2 14)))]
theorem gt0_ : ∀ k, (TX0 k).1 = "MonitorDesk" := fun k => by unfold TX0; split <;> rfl
theorem gg0_get (hx : p.tables.exec = Jvm.exec) (hb : c.code = cc) (hts : ∀ w ∈ Ts, w.before args s = true) (hin : ∀ w ∈ wsX00, w ∈ Ts) (hown : s.vm.findClass RX0 = some m.cls) (hK : va_K D vwCl (ty_IZ cI cZ) s) (G : gx_ D A H0 H locs (gw0_ cI cZ h q u)) (k : Nat) (hk : k < 17) {index : Nat} (hlk : (Cond.fieldLink RX0 index "MonitorDesk" (TX0 k).2.1 (TX0 k).2.2.1) ∈ Ts) {v : Value} (hv : (gf0_ q u)[k]? = some v) (hdg : decode cc pc = .ok (.getfield index, 3))
    (kk : W p l e R s m args below meth c H locs cells slots Q (F0 m (pc + 3) ls (v :: rest))) : W p l e R s m args below meth c H locs cells slots Q (F0 m pc ls (.ref h :: rest)) :=
  va_get (D := D) (ci := 0) (C := RX0) (T := TX0) (N := 17) hx hb hts hin hown hK G.1 0 rfl rfl k hk (hts _ hlk) (fun x h9 => by rw [gt0_ k] at h9; exact h9) hv hdg kk
theorem gg0_putW (hx : p.tables.exec = Jvm.exec) (hb : c.code = cc) (hts : ∀ w ∈ Ts, w.before args s = true) (hin : ∀ w ∈ wsX00, w ∈ Ts) (hown : s.vm.findClass RX0 = some m.cls) (hK : va_K D vwCl (ty_IZ cI cZ) s) (G : gx_ D A H0 H locs (gw0_ cI cZ h q u)) (k : Nat) (hk : k < 17) {index : Nat} (hlk : (Cond.fieldLink RX0 index "MonitorDesk" (TX0 k).2.1 (TX0 k).2.2.1) ∈ Ts) {v : Int32} (hfin : (TX0 k).2.2.2 = false) (hn : narrow (tyX0 k) (.int v) = .int v) (hfit : fits (tyX0 k) (.int v) = true) (hset : (gw0_ cI cZ h q u).set 0 (h, .inr (0, (gf0_ q u).set k (.int v))) = gw0_ cI cZ h q (st_si u k v)) (hdg : decode cc pc = .ok (.putfield index, 3))
    (kk : ∀ (H1 : Heap) (locs1 : List Loc), gx_ D A H0 H1 locs1 (gw0_ cI cZ h q (st_si u k v)) → W p l e R s m args below meth c H1 locs1 cells slots Q (F0 m (pc + 3) ls rest)) : W p l e R s m args below meth c H locs cells slots Q (F0 m pc ls (.int v :: .ref h :: rest)) :=
  va_put (D := D) (ci := 0) (ty := tyX0 k) (C := RX0) (T := TX0) (N := 17) hx hb hts hin tyX0 tyX0_ok nmX0 hown hK G.1 G.2.1 G.2.2 0 rfl rfl k hk (hts _ hlk) (fun x h9 => by rw [gt0_ k] at h9; exact h9) hfin (tyX0_ok k hk) hn hfit (by simpa [gf0_] using hk) hdg (fun H1 locs1 h1 h2 h3 => kk H1 locs1 ⟨hset ▸ h1, hset ▸ h2, h3⟩)
theorem gg0_ld0 (hx : p.tables.exec = Jvm.exec) (hb : c.code = cc) (hK : va_K D vwCl (ty_IZ cI cZ) s) (G : gx_ D A H0 H locs (gw0_ cI cZ h q u)) {i : Int32} (hi : vp_in i 5) (hdg : decode cc pc = .ok (.iaload, 1))
    (kk : W p l e R s m args below meth c H locs cells slots Q (F0 m (pc + 1) ls (.int (u.2 0 (ix i)) :: rest))) : W p l e R s m args below meth c H locs cells slots Q (F0 m pc ls (.int i :: .ref (q 0) :: rest)) :=
  va_iald hx hb hK G.1 1 0 rfl rfl hi hdg kk
theorem gg0_st0 (hx : p.tables.exec = Jvm.exec) (hb : c.code = cc) (hK : va_K D vwCl (ty_IZ cI cZ) s) (G : gx_ D A H0 H locs (gw0_ cI cZ h q u)) {i x : Int32} (hi : vp_in i 5) (hdg : decode cc pc = .ok (.iastore, 1))
    (kk : ∀ (H1 : Heap) (locs1 : List Loc), gx_ D A H0 H1 locs1 (gw0_ cI cZ h q (st_sa u 0 (ix i) x)) → W p l e R s m args below meth c H1 locs1 cells slots Q (F0 m (pc + 1) ls rest)) : W p l e R s m args below meth c H locs cells slots Q (F0 m pc ls (.int x :: .int i :: .ref (q 0) :: rest)) :=
  va_iast hx hb hK G.1 G.2.1 G.2.2 1 0 rfl rfl hi hdg (fun H1 locs1 h1 h2 h3 => kk H1 locs1 ⟨h1, h2, h3⟩)
theorem gg0_put1 (hx : p.tables.exec = Jvm.exec) (hb : c.code = cc) (hts : ∀ w ∈ Ts, w.before args s = true) (hin : ∀ w ∈ wsX00, w ∈ Ts) (hown : s.vm.findClass RX0 = some m.cls) (hK : va_K D vwCl (ty_IZ cI cZ) s) (G : gx_ D A H0 H locs (gw0_ cI cZ h q u)) {index : Nat} (hlk : (Cond.fieldLink RX0 index "MonitorDesk" (TX0 1).2.1 (TX0 1).2.2.1) ∈ Ts) {v : Int32} (hdg : decode cc pc = .ok (.putfield index, 3))
    (kk : ∀ (H1 : Heap) (locs1 : List Loc), gx_ D A H0 H1 locs1 (gw0_ cI cZ h q (st_si u 1 v)) → W p l e R s m args below meth c H1 locs1 cells slots Q (F0 m (pc + 3) ls rest)) : W p l e R s m args below meth c H locs cells slots Q (F0 m pc ls (.int v :: .ref h :: rest)) :=
  gg0_putW hx hb hts hin hown hK G 1 (by decide) hlk rfl rfl rfl rfl hdg kk
theorem gg0_ld2 (hx : p.tables.exec = Jvm.exec) (hb : c.code = cc) (hK : va_K D vwCl (ty_IZ cI cZ) s) (G : gx_ D A H0 H locs (gw0_ cI cZ h q u)) {i : Int32} (hi : vp_in i 4) (hdg : decode cc pc = .ok (.baload, 1))
    (kk : W p l e R s m args below meth c H locs cells slots Q (F0 m (pc + 1) ls (.int (u.2 2 (ix i)) :: rest))) : W p l e R s m args below meth c H locs cells slots Q (F0 m pc ls (.int i :: .ref (q 2) :: rest)) :=
  va_zald hx hb hK G.1 2 1 rfl rfl hi hdg kk
theorem gg0_st2 (hx : p.tables.exec = Jvm.exec) (hb : c.code = cc) (hK : va_K D vwCl (ty_IZ cI cZ) s) (G : gx_ D A H0 H locs (gw0_ cI cZ h q u)) {i x : Int32} (hi : vp_in i 4) (hn : vp_nar .boolean x = x) (hdg : decode cc pc = .ok (.bastore, 1))
    (kk : ∀ (H1 : Heap) (locs1 : List Loc), gx_ D A H0 H1 locs1 (gw0_ cI cZ h q (st_sa u 2 (ix i) x)) → W p l e R s m args below meth c H1 locs1 cells slots Q (F0 m (pc + 1) ls rest)) : W p l e R s m args below meth c H locs cells slots Q (F0 m pc ls (.int x :: .int i :: .ref (q 2) :: rest)) :=
  va_zast hx hb hK G.1 G.2.1 G.2.2 2 1 rfl rfl hi hdg (fun H1 locs1 h1 h2 h3 => by rw [hn] at h1 h2; exact kk H1 locs1 ⟨h1, h2, h3⟩)
theorem gg0_put3 (hx : p.tables.exec = Jvm.exec) (hb : c.code = cc) (hts : ∀ w ∈ Ts, w.before args s = true) (hin : ∀ w ∈ wsX00, w ∈ Ts) (hown : s.vm.findClass RX0 = some m.cls) (hK : va_K D vwCl (ty_IZ cI cZ) s) (G : gx_ D A H0 H locs (gw0_ cI cZ h q u)) {index : Nat} (hlk : (Cond.fieldLink RX0 index "MonitorDesk" (TX0 3).2.1 (TX0 3).2.2.1) ∈ Ts) {v : Int32} (hdg : decode cc pc = .ok (.putfield index, 3))
    (kk : ∀ (H1 : Heap) (locs1 : List Loc), gx_ D A H0 H1 locs1 (gw0_ cI cZ h q (st_si u 3 v)) → W p l e R s m args below meth c H1 locs1 cells slots Q (F0 m (pc + 3) ls rest)) : W p l e R s m args below meth c H locs cells slots Q (F0 m pc ls (.int v :: .ref h :: rest)) :=
  gg0_putW hx hb hts hin hown hK G 3 (by decide) hlk rfl rfl rfl rfl hdg kk
theorem gg0_put4 (hx : p.tables.exec = Jvm.exec) (hb : c.code = cc) (hts : ∀ w ∈ Ts, w.before args s = true) (hin : ∀ w ∈ wsX00, w ∈ Ts) (hown : s.vm.findClass RX0 = some m.cls) (hK : va_K D vwCl (ty_IZ cI cZ) s) (G : gx_ D A H0 H locs (gw0_ cI cZ h q u)) {index : Nat} (hlk : (Cond.fieldLink RX0 index "MonitorDesk" (TX0 4).2.1 (TX0 4).2.2.1) ∈ Ts) {v : Int32} (hn : narrow .boolean (.int v) = .int v) (hf : fits .boolean (.int v) = true) (hdg : decode cc pc = .ok (.putfield index, 3))
    (kk : ∀ (H1 : Heap) (locs1 : List Loc), gx_ D A H0 H1 locs1 (gw0_ cI cZ h q (st_si u 4 v)) → W p l e R s m args below meth c H1 locs1 cells slots Q (F0 m (pc + 3) ls rest)) : W p l e R s m args below meth c H locs cells slots Q (F0 m pc ls (.int v :: .ref h :: rest)) :=
  gg0_putW hx hb hts hin hown hK G 4 (by decide) hlk rfl hn hf rfl hdg kk
theorem gg0_ld5 (hx : p.tables.exec = Jvm.exec) (hb : c.code = cc) (hK : va_K D vwCl (ty_IZ cI cZ) s) (G : gx_ D A H0 H locs (gw0_ cI cZ h q u)) {i : Int32} (hi : vp_in i 24) (hdg : decode cc pc = .ok (.iaload, 1))
    (kk : W p l e R s m args below meth c H locs cells slots Q (F0 m (pc + 1) ls (.int (u.2 5 (ix i)) :: rest))) : W p l e R s m args below meth c H locs cells slots Q (F0 m pc ls (.int i :: .ref (q 5) :: rest)) :=
  va_iald hx hb hK G.1 3 0 rfl rfl hi hdg kk
theorem gg0_st5 (hx : p.tables.exec = Jvm.exec) (hb : c.code = cc) (hK : va_K D vwCl (ty_IZ cI cZ) s) (G : gx_ D A H0 H locs (gw0_ cI cZ h q u)) {i x : Int32} (hi : vp_in i 24) (hdg : decode cc pc = .ok (.iastore, 1))
    (kk : ∀ (H1 : Heap) (locs1 : List Loc), gx_ D A H0 H1 locs1 (gw0_ cI cZ h q (st_sa u 5 (ix i) x)) → W p l e R s m args below meth c H1 locs1 cells slots Q (F0 m (pc + 1) ls rest)) : W p l e R s m args below meth c H locs cells slots Q (F0 m pc ls (.int x :: .int i :: .ref (q 5) :: rest)) :=
  va_iast hx hb hK G.1 G.2.1 G.2.2 3 0 rfl rfl hi hdg (fun H1 locs1 h1 h2 h3 => kk H1 locs1 ⟨h1, h2, h3⟩)
theorem gg0_ld6 (hx : p.tables.exec = Jvm.exec) (hb : c.code = cc) (hK : va_K D vwCl (ty_IZ cI cZ) s) (G : gx_ D A H0 H locs (gw0_ cI cZ h q u)) {i : Int32} (hi : vp_in i 24) (hdg : decode cc pc = .ok (.iaload, 1))
    (kk : W p l e R s m args below meth c H locs cells slots Q (F0 m (pc + 1) ls (.int (u.2 6 (ix i)) :: rest))) : W p l e R s m args below meth c H locs cells slots Q (F0 m pc ls (.int i :: .ref (q 6) :: rest)) :=
  va_iald hx hb hK G.1 4 0 rfl rfl hi hdg kk
theorem gg0_st6 (hx : p.tables.exec = Jvm.exec) (hb : c.code = cc) (hK : va_K D vwCl (ty_IZ cI cZ) s) (G : gx_ D A H0 H locs (gw0_ cI cZ h q u)) {i x : Int32} (hi : vp_in i 24) (hdg : decode cc pc = .ok (.iastore, 1))
    (kk : ∀ (H1 : Heap) (locs1 : List Loc), gx_ D A H0 H1 locs1 (gw0_ cI cZ h q (st_sa u 6 (ix i) x)) → W p l e R s m args below meth c H1 locs1 cells slots Q (F0 m (pc + 1) ls rest)) : W p l e R s m args below meth c H locs cells slots Q (F0 m pc ls (.int x :: .int i :: .ref (q 6) :: rest)) :=
  va_iast hx hb hK G.1 G.2.1 G.2.2 4 0 rfl rfl hi hdg (fun H1 locs1 h1 h2 h3 => kk H1 locs1 ⟨h1, h2, h3⟩)
theorem gg0_ld7 (hx : p.tables.exec = Jvm.exec) (hb : c.code = cc) (hK : va_K D vwCl (ty_IZ cI cZ) s) (G : gx_ D A H0 H locs (gw0_ cI cZ h q u)) {i : Int32} (hi : vp_in i 24) (hdg : decode cc pc = .ok (.iaload, 1))
    (kk : W p l e R s m args below meth c H locs cells slots Q (F0 m (pc + 1) ls (.int (u.2 7 (ix i)) :: rest))) : W p l e R s m args below meth c H locs cells slots Q (F0 m pc ls (.int i :: .ref (q 7) :: rest)) :=
  va_iald hx hb hK G.1 5 0 rfl rfl hi hdg kk
theorem gg0_st7 (hx : p.tables.exec = Jvm.exec) (hb : c.code = cc) (hK : va_K D vwCl (ty_IZ cI cZ) s) (G : gx_ D A H0 H locs (gw0_ cI cZ h q u)) {i x : Int32} (hi : vp_in i 24) (hdg : decode cc pc = .ok (.iastore, 1))
    (kk : ∀ (H1 : Heap) (locs1 : List Loc), gx_ D A H0 H1 locs1 (gw0_ cI cZ h q (st_sa u 7 (ix i) x)) → W p l e R s m args below meth c H1 locs1 cells slots Q (F0 m (pc + 1) ls rest)) : W p l e R s m args below meth c H locs cells slots Q (F0 m pc ls (.int x :: .int i :: .ref (q 7) :: rest)) :=
  va_iast hx hb hK G.1 G.2.1 G.2.2 5 0 rfl rfl hi hdg (fun H1 locs1 h1 h2 h3 => kk H1 locs1 ⟨h1, h2, h3⟩)
theorem gg0_ld8 (hx : p.tables.exec = Jvm.exec) (hb : c.code = cc) (hK : va_K D vwCl (ty_IZ cI cZ) s) (G : gx_ D A H0 H locs (gw0_ cI cZ h q u)) {i : Int32} (hi : vp_in i 24) (hdg : decode cc pc = .ok (.iaload, 1))
    (kk : W p l e R s m args below meth c H locs cells slots Q (F0 m (pc + 1) ls (.int (u.2 8 (ix i)) :: rest))) : W p l e R s m args below meth c H locs cells slots Q (F0 m pc ls (.int i :: .ref (q 8) :: rest)) :=
  va_iald hx hb hK G.1 6 0 rfl rfl hi hdg kk
theorem gg0_st8 (hx : p.tables.exec = Jvm.exec) (hb : c.code = cc) (hK : va_K D vwCl (ty_IZ cI cZ) s) (G : gx_ D A H0 H locs (gw0_ cI cZ h q u)) {i x : Int32} (hi : vp_in i 24) (hdg : decode cc pc = .ok (.iastore, 1))
    (kk : ∀ (H1 : Heap) (locs1 : List Loc), gx_ D A H0 H1 locs1 (gw0_ cI cZ h q (st_sa u 8 (ix i) x)) → W p l e R s m args below meth c H1 locs1 cells slots Q (F0 m (pc + 1) ls rest)) : W p l e R s m args below meth c H locs cells slots Q (F0 m pc ls (.int x :: .int i :: .ref (q 8) :: rest)) :=
  va_iast hx hb hK G.1 G.2.1 G.2.2 6 0 rfl rfl hi hdg (fun H1 locs1 h1 h2 h3 => kk H1 locs1 ⟨h1, h2, h3⟩)
theorem gg0_put9 (hx : p.tables.exec = Jvm.exec) (hb : c.code = cc) (hts : ∀ w ∈ Ts, w.before args s = true) (hin : ∀ w ∈ wsX00, w ∈ Ts) (hown : s.vm.findClass RX0 = some m.cls) (hK : va_K D vwCl (ty_IZ cI cZ) s) (G : gx_ D A H0 H locs (gw0_ cI cZ h q u)) {index : Nat} (hlk : (Cond.fieldLink RX0 index "MonitorDesk" (TX0 9).2.1 (TX0 9).2.2.1) ∈ Ts) {v : Int32} (hdg : decode cc pc = .ok (.putfield index, 3))
    (kk : ∀ (H1 : Heap) (locs1 : List Loc), gx_ D A H0 H1 locs1 (gw0_ cI cZ h q (st_si u 9 v)) → W p l e R s m args below meth c H1 locs1 cells slots Q (F0 m (pc + 3) ls rest)) : W p l e R s m args below meth c H locs cells slots Q (F0 m pc ls (.int v :: .ref h :: rest)) :=
  gg0_putW hx hb hts hin hown hK G 9 (by decide) hlk rfl rfl rfl rfl hdg kk
theorem gg0_put10 (hx : p.tables.exec = Jvm.exec) (hb : c.code = cc) (hts : ∀ w ∈ Ts, w.before args s = true) (hin : ∀ w ∈ wsX00, w ∈ Ts) (hown : s.vm.findClass RX0 = some m.cls) (hK : va_K D vwCl (ty_IZ cI cZ) s) (G : gx_ D A H0 H locs (gw0_ cI cZ h q u)) {index : Nat} (hlk : (Cond.fieldLink RX0 index "MonitorDesk" (TX0 10).2.1 (TX0 10).2.2.1) ∈ Ts) {v : Int32} (hdg : decode cc pc = .ok (.putfield index, 3))
    (kk : ∀ (H1 : Heap) (locs1 : List Loc), gx_ D A H0 H1 locs1 (gw0_ cI cZ h q (st_si u 10 v)) → W p l e R s m args below meth c H1 locs1 cells slots Q (F0 m (pc + 3) ls rest)) : W p l e R s m args below meth c H locs cells slots Q (F0 m pc ls (.int v :: .ref h :: rest)) :=
  gg0_putW hx hb hts hin hown hK G 10 (by decide) hlk rfl rfl rfl rfl hdg kk
theorem gg0_put11 (hx : p.tables.exec = Jvm.exec) (hb : c.code = cc) (hts : ∀ w ∈ Ts, w.before args s = true) (hin : ∀ w ∈ wsX00, w ∈ Ts) (hown : s.vm.findClass RX0 = some m.cls) (hK : va_K D vwCl (ty_IZ cI cZ) s) (G : gx_ D A H0 H locs (gw0_ cI cZ h q u)) {index : Nat} (hlk : (Cond.fieldLink RX0 index "MonitorDesk" (TX0 11).2.1 (TX0 11).2.2.1) ∈ Ts) {v : Int32} (hdg : decode cc pc = .ok (.putfield index, 3))
    (kk : ∀ (H1 : Heap) (locs1 : List Loc), gx_ D A H0 H1 locs1 (gw0_ cI cZ h q (st_si u 11 v)) → W p l e R s m args below meth c H1 locs1 cells slots Q (F0 m (pc + 3) ls rest)) : W p l e R s m args below meth c H locs cells slots Q (F0 m pc ls (.int v :: .ref h :: rest)) :=
  gg0_putW hx hb hts hin hown hK G 11 (by decide) hlk rfl rfl rfl rfl hdg kk
theorem gg0_ld12 (hx : p.tables.exec = Jvm.exec) (hb : c.code = cc) (hK : va_K D vwCl (ty_IZ cI cZ) s) (G : gx_ D A H0 H locs (gw0_ cI cZ h q u)) {i : Int32} (hi : vp_in i 24) (hdg : decode cc pc = .ok (.iaload, 1))
    (kk : W p l e R s m args below meth c H locs cells slots Q (F0 m (pc + 1) ls (.int (u.2 12 (ix i)) :: rest))) : W p l e R s m args below meth c H locs cells slots Q (F0 m pc ls (.int i :: .ref (q 12) :: rest)) :=
  va_iald hx hb hK G.1 7 0 rfl rfl hi hdg kk
theorem gg0_st12 (hx : p.tables.exec = Jvm.exec) (hb : c.code = cc) (hK : va_K D vwCl (ty_IZ cI cZ) s) (G : gx_ D A H0 H locs (gw0_ cI cZ h q u)) {i x : Int32} (hi : vp_in i 24) (hdg : decode cc pc = .ok (.iastore, 1))
    (kk : ∀ (H1 : Heap) (locs1 : List Loc), gx_ D A H0 H1 locs1 (gw0_ cI cZ h q (st_sa u 12 (ix i) x)) → W p l e R s m args below meth c H1 locs1 cells slots Q (F0 m (pc + 1) ls rest)) : W p l e R s m args below meth c H locs cells slots Q (F0 m pc ls (.int x :: .int i :: .ref (q 12) :: rest)) :=
  va_iast hx hb hK G.1 G.2.1 G.2.2 7 0 rfl rfl hi hdg (fun H1 locs1 h1 h2 h3 => kk H1 locs1 ⟨h1, h2, h3⟩)
theorem gg0_put13 (hx : p.tables.exec = Jvm.exec) (hb : c.code = cc) (hts : ∀ w ∈ Ts, w.before args s = true) (hin : ∀ w ∈ wsX00, w ∈ Ts) (hown : s.vm.findClass RX0 = some m.cls) (hK : va_K D vwCl (ty_IZ cI cZ) s) (G : gx_ D A H0 H locs (gw0_ cI cZ h q u)) {index : Nat} (hlk : (Cond.fieldLink RX0 index "MonitorDesk" (TX0 13).2.1 (TX0 13).2.2.1) ∈ Ts) {v : Int32} (hdg : decode cc pc = .ok (.putfield index, 3))
    (kk : ∀ (H1 : Heap) (locs1 : List Loc), gx_ D A H0 H1 locs1 (gw0_ cI cZ h q (st_si u 13 v)) → W p l e R s m args below meth c H1 locs1 cells slots Q (F0 m (pc + 3) ls rest)) : W p l e R s m args below meth c H locs cells slots Q (F0 m pc ls (.int v :: .ref h :: rest)) :=
  gg0_putW hx hb hts hin hown hK G 13 (by decide) hlk rfl rfl rfl rfl hdg kk
theorem gg0_ld14 (hx : p.tables.exec = Jvm.exec) (hb : c.code = cc) (hK : va_K D vwCl (ty_IZ cI cZ) s) (G : gx_ D A H0 H locs (gw0_ cI cZ h q u)) {i : Int32} (hi : vp_in i 5) (hdg : decode cc pc = .ok (.iaload, 1))
    (kk : W p l e R s m args below meth c H locs cells slots Q (F0 m (pc + 1) ls (.int (u.2 14 (ix i)) :: rest))) : W p l e R s m args below meth c H locs cells slots Q (F0 m pc ls (.int i :: .ref (q 14) :: rest)) :=
  va_iald hx hb hK G.1 8 0 rfl rfl hi hdg kk
theorem gg0_st14 (hx : p.tables.exec = Jvm.exec) (hb : c.code = cc) (hK : va_K D vwCl (ty_IZ cI cZ) s) (G : gx_ D A H0 H locs (gw0_ cI cZ h q u)) {i x : Int32} (hi : vp_in i 5) (hdg : decode cc pc = .ok (.iastore, 1))
    (kk : ∀ (H1 : Heap) (locs1 : List Loc), gx_ D A H0 H1 locs1 (gw0_ cI cZ h q (st_sa u 14 (ix i) x)) → W p l e R s m args below meth c H1 locs1 cells slots Q (F0 m (pc + 1) ls rest)) : W p l e R s m args below meth c H locs cells slots Q (F0 m pc ls (.int x :: .int i :: .ref (q 14) :: rest)) :=
  va_iast hx hb hK G.1 G.2.1 G.2.2 8 0 rfl rfl hi hdg (fun H1 locs1 h1 h2 h3 => kk H1 locs1 ⟨h1, h2, h3⟩)
theorem gg0_put15 (hx : p.tables.exec = Jvm.exec) (hb : c.code = cc) (hts : ∀ w ∈ Ts, w.before args s = true) (hin : ∀ w ∈ wsX00, w ∈ Ts) (hown : s.vm.findClass RX0 = some m.cls) (hK : va_K D vwCl (ty_IZ cI cZ) s) (G : gx_ D A H0 H locs (gw0_ cI cZ h q u)) {index : Nat} (hlk : (Cond.fieldLink RX0 index "MonitorDesk" (TX0 15).2.1 (TX0 15).2.2.1) ∈ Ts) {v : Int32} (hdg : decode cc pc = .ok (.putfield index, 3))
    (kk : ∀ (H1 : Heap) (locs1 : List Loc), gx_ D A H0 H1 locs1 (gw0_ cI cZ h q (st_si u 15 v)) → W p l e R s m args below meth c H1 locs1 cells slots Q (F0 m (pc + 3) ls rest)) : W p l e R s m args below meth c H locs cells slots Q (F0 m pc ls (.int v :: .ref h :: rest)) :=
  gg0_putW hx hb hts hin hown hK G 15 (by decide) hlk rfl rfl rfl rfl hdg kk
theorem gg0_put16 (hx : p.tables.exec = Jvm.exec) (hb : c.code = cc) (hts : ∀ w ∈ Ts, w.before args s = true) (hin : ∀ w ∈ wsX00, w ∈ Ts) (hown : s.vm.findClass RX0 = some m.cls) (hK : va_K D vwCl (ty_IZ cI cZ) s) (G : gx_ D A H0 H locs (gw0_ cI cZ h q u)) {index : Nat} (hlk : (Cond.fieldLink RX0 index "MonitorDesk" (TX0 16).2.1 (TX0 16).2.2.1) ∈ Ts) {v : Int32} (hdg : decode cc pc = .ok (.putfield index, 3))
    (kk : ∀ (H1 : Heap) (locs1 : List Loc), gx_ D A H0 H1 locs1 (gw0_ cI cZ h q (st_si u 16 v)) → W p l e R s m args below meth c H1 locs1 cells slots Q (F0 m (pc + 3) ls rest)) : W p l e R s m args below meth c H locs cells slots Q (F0 m pc ls (.int v :: .ref h :: rest)) :=
  gg0_putW hx hb hts hin hown hK G 16 (by decide) hlk rfl rfl rfl rfl hdg kk
theorem gx_is {x y : Int32} (e1 : x = y) (k : W p l e R s m args below meth c H locs cells slots Q (F0 m pc ls (.int y :: rest))) : W p l e R s m args below meth c H locs cells slots Q (F0 m pc ls (.int x :: rest)) := e1 ▸ k
theorem gx_callr {S : Type} {wf : S → va_W} {u : S} {f : Int32} {C : String} {T : u_T} {N ci : Nat} {fs : List Value} {index maxL nL : Nat} {y : MethodName} {bytes : ByteArray} {ret : Option FieldType} {wsy ws' : List Cond} {rm : Room} {As st0 : List Value} (n : Nat)
    (hx : p.tables.exec = Jvm.exec) (hb : c.code = cc) (hml : c.maxLocals = nL) (hown : s.vm.findClass own = some m.cls) (hts : ∀ w ∈ Ts, w.before args s = true) (hK : va_K D vwCl (ty_IZ cI cZ) s) (hA : ∀ x, H0.size ≤ x → A x) (G : gx_ D A H0 H locs (wf u)) (hrec : (wf u)[0]? = some (h, .inr (ci, fs))) (hc : vwCl[ci]? = some (C, T, N))
    (hM : gx_Mi l y wsy rm (.ref h :: As) D cI cZ wf u H.size (f, u)) (gin : GoodIn Ts (wsV own index C y wsy)) (hw : wsy = Cond.code y bytes maxL ret :: ws') (hr0 : rm.cells = 0) (hr1 : rm.slots = 0)
    (hd : y.cls = C ∧ y.cls ≠ "java/lang/invoke/MethodHandle" ∧ y.cls ≠ "java/lang/invoke/VarHandle" ∧ (parseMethodDescriptor y.desc).map (fun d => d.parameters.length) = some n) (hR : rm.frames + 1 ≤ R.frames ∧ 8 + (maxL + 11) + rm.locals ≤ R.locals)
    (hn : As.length = n) (hls : ls.size = nL) (hst : st0 = As.reverse ++ .ref h :: rest) (hroom : (rest.map fun v => v.category).sum ≤ 8) (hdg : decode cc pc = .ok (.invokevirtual index, 3)) (hcl : cells ≤ R.cells) (hsl : slots ≤ R.slots)
    (kk : ∀ (H1 : Heap) (locs1 : List Loc), gx_ D A H0 H1 locs1 (wf u) → W p l e R s m args below meth c H1 locs1 cells slots Q (F0 m (pc + 3) ls (.int f :: rest))) : W p l e R s m args below meth c H locs cells slots Q (F0 m pc ls st0) :=
  gx_calli (wf := wf) (f := (f, u)) n hx hb hml hown hts hK hA G hrec hc hM gin hw hr0 hr1 hd hR hn hls hst hroom hdg hcl hsl kk
end GX
