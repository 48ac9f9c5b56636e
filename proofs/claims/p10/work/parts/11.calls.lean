/-! contracts of the law's own static methods: what they say besides the world; calls of them -/
theorem gx_blindX {av : List Value} {D : va_G} {cI cZ : ClassId} {ws : va_W} {sz : Nat} {B2 : State → Prop} (hb2 : ∀ a (U : State) g mk, B2 U → B2 (U.calling g mk a)) : FrameBlind (va_Pc av (fun U => gx_I D cI cZ ws sz U ∧ B2 U)) := fun a U g mk h => by
  obtain ⟨h0, ⟨h1, h2, h3, h4⟩, h5⟩ := h
  exact ⟨h0, ⟨h1, h2, va_K.moved (u := U) (U := U.calling g mk a) (Vm.Alike.refl U.vm) h3, h4⟩, hb2 a U g mk h5⟩
theorem gx_metX {y : MethodName} {l : Launch} {wsy ws' : List Cond} {rm : Room} {cc : ByteArray} {maxL : Nat} {ret : Option FieldType} {av : List Value} {D : va_G} {cI cZ : ClassId} {ws0 : va_W} {sz : Nat} {Qc : Array Value → State → Outcome → State → Prop} {free : Addr → Prop} {B2 : State → Prop}
    (hy : plainFor y = true) (hw : wsy = Cond.code y cc maxL ret :: ws') (hle : (lg_sl av).length ≤ maxL)
    (body : ∀ (p : Program) (e : Env) (s : State) (m : MethodId) (args : Array Value) (below : List Frame) (meth : Method) (c : Code) (A : Nat → Prop) (ls : Array Slot), s.heap.size = sz → p.tables.exec = Jvm.exec → c.code = cc → meth.sig.returnType = ret → meth.locks = false → (∀ w ∈ wsy, w.before args s = true) → s.vm.findClass y.cls = some m.cls → c.maxLocals = maxL → va_K D vwCl (ty_IZ cI cZ) s → A = va_A ws0 sz → (∀ x, s.heap.size ≤ x → A x) → gx_ D A s.heap s.heap [] ws0 → B2 s → lv_has ls maxL (lv_args 0 av) →
      W p l e rm s m args below meth c s.heap [] 0 0 (MQ below Qc args s 0 0 free) (F0 m 0 ls [])) : Met l y wsy rm (va_Pc av (fun U => gx_I D cI cZ ws0 sz U ∧ B2 U)) Qc 0 0 free := by
  refine va_MetF (cc := cc) (maxL := maxL) (ret := ret) hy hw ?_
  intro p e s m args below meth c s₁ B hml hv
  obtain ⟨rfl, ⟨hsz, hP, hK, hD0⟩, h5⟩ := hv
  have hts := atoms_spec (ws := wsy) B.pre
  rw [lg_entry_eq]
  subst hsz
  exact body p e s m _ below meth c (va_A ws0 s.heap.size) _ rfl B.exec B.bytes B.returns B.notSynchronized hts (findClass_of_methodNamed B.named) hml hK rfl (fun x hx => Or.inr hx) ⟨hP, hD0.self, va_S.rf⟩ h5 (lv_entry av hle)
section GS
variable {p : Program} {l : Launch} {e : Env} {R : Room} {s : State} {m : MethodId} {args : Array Value} {below : List Frame} {meth : Method} {c : Code} {H : Heap} {locs : List Loc} {cells slots : Nat} {Q : State → Prop}
variable {cc : ByteArray} {pc : Nat} {ls : Array Slot} {rest : List Value} {D : va_G} {A : Nat → Prop} {H0 : Heap} {cI cZ : ClassId} {Ts : List Cond} {own : String} {sz : Nat} {ws0 : va_W} {B2 : State → Prop}
theorem gx_pzret {S : Type} {wf : S → va_W} {u1 : S} {post : Int32 → S → Prop} {v : Int32} (hx : p.tables.exec = Jvm.exec) (hb : c.code = cc) (hr : meth.sig.returnType = some .boolean) (hlocks : meth.locks = false) (hK : va_K D vwCl (ty_IZ cI cZ) s) (hAe : A = va_A ws0 sz) (G : gx_ D A s.heap H locs (wf u1)) (hdg : decode cc pc = .ok (.ireturn, 1)) (hn : narrow .boolean (.int v) = .int v) (hp : post v u1) :
    W p l e R s m args below meth c H locs cells slots (MQ below (va_Qi post (gx_O D cI cZ wf ws0 sz) (va_A ws0 sz)) args s cells slots (va_A ws0 sz)) (F0 m pc ls [.int v]) := by
  subst hAe
  exact W.zret hx hb hr hn (fun t ht hW => ⟨⟨v, u1, rfl, hp, by rw [ht]; exact G.1, va_K.moved hW.alike hK, G.2.1⟩, G.2.2.F ht⟩) G.2.2.2.2 hdg hlocks
theorem gx_pvret {S : Type} {wf : S → va_W} {u1 : S} {post : S → Prop} (hx : p.tables.exec = Jvm.exec) (hb : c.code = cc) (hr : meth.sig.returnType = none) (hlocks : meth.locks = false) (hK : va_K D vwCl (ty_IZ cI cZ) s) (hAe : A = va_A ws0 sz) (G : gx_ D A s.heap H locs (wf u1)) (hdg : decode cc pc = .ok (.return_, 1)) (hp : post u1) :
    W p l e R s m args below meth c H locs cells slots (MQ below (va_Qv post (gx_O D cI cZ wf ws0 sz) (va_A ws0 sz)) args s cells slots (va_A ws0 sz)) (F0 m pc ls []) := by
  subst hAe
  exact W.vret hx hb hr (fun t ht hW => ⟨⟨u1, rfl, hp, by rw [ht]; exact G.1, va_K.moved hW.alike hK, G.2.1⟩, G.2.2.F ht⟩) G.2.2.2.2 hdg hlocks
theorem gx_callSi {S : Type} {wf : S → va_W} {u : S} {post : Int32 → S → Prop} {index maxL nL : Nat} {y : MethodName} {bytes : ByteArray} {ret : Option FieldType} {wsy ws' : List Cond} {rm : Room} {As st0 : List Value} (n : Nat)
    (hx : p.tables.exec = Jvm.exec) (hb : c.code = cc) (hml : c.maxLocals = nL) (hown : s.vm.findClass own = some m.cls) (hts : ∀ w ∈ Ts, w.before args s = true) (hK : va_K D vwCl (ty_IZ cI cZ) s) (hA : ∀ x, H0.size ≤ x → A x) (G : gx_ D A H0 H locs (wf u))
    (hM : Met l y wsy rm (va_Pc As (fun U => gx_I D cI cZ (wf u) H.size U ∧ B2 U)) (va_Qi post (gx_O D cI cZ wf (wf u) H.size) (va_A (wf u) H.size)) 0 0 (va_A (wf u) H.size)) (gin : GoodIn Ts (va_wsS own index y wsy)) (hw : wsy = Cond.code y bytes maxL ret :: ws') (hr0 : rm.cells = 0) (hr1 : rm.slots = 0)
    (hd : y.cls ≠ "java/lang/invoke/MethodHandle" ∧ y.cls ≠ "java/lang/invoke/VarHandle" ∧ (parseMethodDescriptor y.desc).map (fun d => d.parameters.length) = some n) (hR : rm.frames + 1 ≤ R.frames ∧ 8 + (maxL + 11) + rm.locals ≤ R.locals)
    (hn : As.length = n) (hls : ls.size = nL) (hst : st0 = As.reverse ++ rest) (hroom : (rest.map fun v => v.category).sum ≤ 8) (hdg : decode cc pc = .ok (.invokestatic index, 3)) (hcl : cells ≤ R.cells) (hsl : slots ≤ R.slots)
    (hb2 : ∀ a (U : State) g mk, B2 U → B2 (U.calling g mk a)) (hB2 : ∀ U : State, U.heap = H → s.vm.Alike U.vm → B2 U)
    (kk : ∀ (r : Int32) (u1 : S) (H1 : Heap) (locs1 : List Loc), post r u1 → gx_ D A H0 H1 locs1 (wf u1) → W p l e R s m args below meth c H1 locs1 cells slots Q (F0 m (pc + 3) ls (.int r :: rest))) : W p l e R s m args below meth c H locs cells slots Q (F0 m pc ls st0) := by
  have hFc := gx_free hA G
  obtain ⟨hP, hD, hS⟩ := G
  refine va_calli (va_runS (As := As) (rest := rest) ⟨hx, hb, hml, hown, hts⟩ hM (va_cwS n hts gin hw hr0 hr1 hd hR) ⟨gx_blindX hb2, fun U hU hW => ⟨rfl, ⟨by rw [hU], by rw [hU]; exact hP, va_K.moved hW.alike hK, hD.weaken (fun _ _ _ _ => trivial)⟩, hB2 U hU hW.alike⟩⟩ rfl hn hls hst (lv_room hroom) hdg ⟨hcl, hsl⟩) hS (fun x _ h => hFc x h) hFc (fun r u1 t H1 locs1 ht hvm hw hB hz1 hk1 hS1 => ?_)
  obtain ⟨hP1, hK1, hD1⟩ := hB
  rw [ht] at hP1
  exact kk r u1 H1 locs1 hw ⟨hP1, hD1.weaken (fun _ _ _ z => hFc _ z), hS1⟩
theorem gx_callSv {S : Type} {wf : S → va_W} {u : S} {post : S → Prop} {index maxL nL : Nat} {y : MethodName} {bytes : ByteArray} {ret : Option FieldType} {wsy ws' : List Cond} {rm : Room} {As st0 : List Value} (n : Nat)
    (hx : p.tables.exec = Jvm.exec) (hb : c.code = cc) (hml : c.maxLocals = nL) (hown : s.vm.findClass own = some m.cls) (hts : ∀ w ∈ Ts, w.before args s = true) (hK : va_K D vwCl (ty_IZ cI cZ) s) (hA : ∀ x, H0.size ≤ x → A x) (G : gx_ D A H0 H locs (wf u))
    (hM : Met l y wsy rm (va_Pc As (fun U => gx_I D cI cZ (wf u) H.size U ∧ B2 U)) (va_Qv post (gx_O D cI cZ wf (wf u) H.size) (va_A (wf u) H.size)) 0 0 (va_A (wf u) H.size)) (gin : GoodIn Ts (va_wsS own index y wsy)) (hw : wsy = Cond.code y bytes maxL ret :: ws') (hr0 : rm.cells = 0) (hr1 : rm.slots = 0)
    (hd : y.cls ≠ "java/lang/invoke/MethodHandle" ∧ y.cls ≠ "java/lang/invoke/VarHandle" ∧ (parseMethodDescriptor y.desc).map (fun d => d.parameters.length) = some n) (hR : rm.frames + 1 ≤ R.frames ∧ 8 + (maxL + 11) + rm.locals ≤ R.locals)
    (hn : As.length = n) (hls : ls.size = nL) (hst : st0 = As.reverse ++ rest) (hroom : (rest.map fun v => v.category).sum ≤ 8) (hdg : decode cc pc = .ok (.invokestatic index, 3)) (hcl : cells ≤ R.cells) (hsl : slots ≤ R.slots)
    (hb2 : ∀ a (U : State) g mk, B2 U → B2 (U.calling g mk a)) (hB2 : ∀ U : State, U.heap = H → s.vm.Alike U.vm → B2 U)
    (kk : ∀ (u1 : S) (H1 : Heap) (locs1 : List Loc), post u1 → gx_ D A H0 H1 locs1 (wf u1) → W p l e R s m args below meth c H1 locs1 cells slots Q (F0 m (pc + 3) ls rest)) : W p l e R s m args below meth c H locs cells slots Q (F0 m pc ls st0) := by
  have hFc := gx_free hA G
  obtain ⟨hP, hD, hS⟩ := G
  refine va_callv (va_runS (As := As) (rest := rest) ⟨hx, hb, hml, hown, hts⟩ hM (va_cwS n hts gin hw hr0 hr1 hd hR) ⟨gx_blindX hb2, fun U hU hW => ⟨rfl, ⟨by rw [hU], by rw [hU]; exact hP, va_K.moved hW.alike hK, hD.weaken (fun _ _ _ _ => trivial)⟩, hB2 U hU hW.alike⟩⟩ rfl hn hls hst (lv_room hroom) hdg ⟨hcl, hsl⟩) hS (fun x _ h => hFc x h) hFc (fun u1 t H1 locs1 ht hvm hw hB hz1 hk1 hS1 => ?_)
  obtain ⟨hP1, hK1, hD1⟩ := hB
  rw [ht] at hP1
  exact kk u1 H1 locs1 hw ⟨hP1, hD1.weaken (fun _ _ _ z => hFc _ z), hS1⟩
end GS
