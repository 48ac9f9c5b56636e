/-! Arrays.fill, and the class's run -/
theorem pj_fill_0 (v : Int32) (f : Nat → Int32) : pj_fill 0 v f = f := funext fun j => if_neg (Nat.not_lt_zero j)
theorem pj_fill_s {i : Nat} (hi : i < 2 ^ 31) (v : Int32) (f : Nat → Int32) : upd (pj_fill i v f) (ix (nI i)) v = pj_fill (i + 1) v f := by
  funext j
  have e : ix (nI i) = i := nI_clamp hi
  rw [e]
  unfold upd pj_fill
  by_cases h1 : j = i
  · rw [if_pos h1, if_pos (by omega)]
  · rw [if_neg h1]
    by_cases h2 : j < i
    · rw [if_pos h2, if_pos (by omega)]
    · rw [if_neg h2, if_neg (by omega)]
set_option maxHeartbeats 4000000 in
set_option maxRecDepth 100000 in
theorem kj_fill (l : Launch) (dC : Nat → ClassId) (dI : Nat → Nat → Nat) (cI cZ : ClassId) (a n sz : Nat) (hn : n < 2 ^ 31) (f : Nat → Int32) (v : Int32) : gx_Mv l yJ7_fill_53178 wsJ7_fill_53178 { frames := 0, cells := 0, slots := 0, locals := 0 } [.ref a, .int v] (dC, dI) cI cZ (fun f : Nat → Int32 => [(a, .inl (cI, n, .inl f))]) f sz (pj_fill n v f) := by
  refine gx_met (cc := cJ7_fill_53178) (maxL := 4) (ret := none) (by decide +kernel) rfl (Nat.le_of_ble_eq_true rfl) (fun p e s m args below meth c A ls hsz hx hb hr hlocks hts hown hml hK hAe hA G hl => ?_)
  have hl : lv_has ls 4 [(0, .ref a), (1, .int v)] := hl
  have loop : ∀ (k i : Nat), i ≤ n → n - i < k → ∀ (H : Heap) (locs : List Loc) (ls : Array Slot), gx_ (dC, dI) A s.heap H locs [(a, .inl (cI, n, .inl (pj_fill i v f)))] → lv_has ls 4 [(2, .int (nI i)), (3, .int (nI n)), (0, .ref a), (1, .int v)] → W p l e { frames := 0, cells := 0, slots := 0, locals := 0 } s m args below meth c H locs 0 0 (MQ below (va_Qv (fun u1 => u1 = pj_fill n v f) (gx_O (dC, dI) cI cZ (fun f : Nat → Int32 => [(a, .inl (cI, n, .inl f))]) [(a, .inl (cI, n, .inl f))] sz) (va_A [(a, .inl (cI, n, .inl f))] sz)) args s 0 0 (va_A [(a, .inl (cI, n, .inl f))] sz)) (F0 m 5 ls []) := by
    intro k
    induction k with
    | zero => intro i h1 h2; exact absurd h2 (Nat.not_lt_zero _)
    | succ k ih =>
      intro i h1 h2 H locs ls G hl
      refine lv_iload_n hx hb dJ7_fill_53178_5 rfl (lv_at hl 0 rfl) ?_
      refine lv_iload_n hx hb dJ7_fill_53178_6 rfl (lv_at hl 1 rfl) ?_
      refine lv_icmp_ge (tgt := 20) hx hb dJ7_fill_53178_7 (by decide) (fun c_7 => ?_) (fun c_7 => ?_)
      · have e : i = n := by
          rw [nI_leI hn (by omega)] at c_7
          omega
        subst e
        exact gx_vret (wf := fun f : Nat → Int32 => [(a, .inl (cI, i, .inl f))]) (u1 := pj_fill i v f) hx hb hr hlocks hsz hK hAe G dJ7_fill_53178_20 rfl
      · have e : i < n := by
          rw [nI_leI hn (by omega)] at c_7
          omega
        refine lv_aload_n hx hb dJ7_fill_53178_10 rfl (lv_at hl 2 rfl) ?_
        refine lv_iload_n hx hb dJ7_fill_53178_11 rfl (lv_at hl 0 rfl) ?_
        refine lv_iload_n hx hb dJ7_fill_53178_12 rfl (lv_at hl 3 rfl) ?_
        refine va_iast hx hb hK G.1 G.2.1 G.2.2 0 0 (n := n) (f := pj_fill i v f) rfl rfl (vp_in_nI e hn) dJ7_fill_53178_13 (fun H locs g1 g2 g3 => ?_)
        refine lv_iinc (v := nI (i + 1)) (lv' := [(2, .int (nI (i + 1))), (3, .int (nI n)), (0, .ref a), (1, .int v)]) hx hb dJ7_fill_53178_14 hl (k := 0) rfl (nI_1 i) (by decide) rfl (fun ls hl => ?_)
        refine lv_goto (tgt := 5) hx hb dJ7_fill_53178_17 (by decide) ?_
        have g1 : va_P (dC, dI) vwCl [(a, .inl (cI, n, .inl (upd (pj_fill i v f) (ix (nI i)) v)))] H := g1
        have g2 : va_D A [(a, .inl (cI, n, .inl (upd (pj_fill i v f) (ix (nI i)) v)))] := g2
        rw [pj_fill_s (by omega)] at g1 g2
        exact ih (i + 1) (by omega) (by omega) H locs ls ⟨g1, g2, g3⟩ hl
  refine lv_iconst (v := 0) hx hb dJ7_fill_53178_0 (by decide) ?_
  refine lv_istore_n (lv' := [(2, .int 0), (0, .ref a), (1, .int v)]) hx hb dJ7_fill_53178_1 rfl hl (by decide) rfl (fun ls hl => ?_)
  refine lv_aload_n hx hb dJ7_fill_53178_2 rfl (lv_at hl 1 rfl) ?_
  refine va_alen (v := nI n) hx hb hK G.1 0 0 rfl rfl rfl dJ7_fill_53178_3 ?_
  refine lv_istore_n (lv' := [(3, .int (nI n)), (2, .int 0), (0, .ref a), (1, .int v)]) hx hb dJ7_fill_53178_4 rfl hl (by decide) rfl (fun ls hl => ?_)
  refine loop (n + 1) 0 (Nat.zero_le _) (by omega) s.heap [] ls ?_ (by rw [nI_0]; exact lv_sub hl [1, 0, 2, 3] rfl)
  rw [pj_fill_0]
  exact G
theorem hd_J7_fill : yJ7_fill_53178.cls ≠ "java/lang/invoke/MethodHandle" ∧ yJ7_fill_53178.cls ≠ "java/lang/invoke/VarHandle" ∧ (parseMethodDescriptor yJ7_fill_53178.desc).map (fun d => d.parameters.length) = some 2 := by decide +kernel
section GXF
variable {p : Program} {l : Launch} {e : Env} {R : Room} {s : State} {m : MethodId} {args : Array Value} {below : List Frame} {meth : Method} {c : Code} {H : Heap} {locs : List Loc} {cells slots : Nat} {Q : State → Prop}
variable {cc : ByteArray} {pc : Nat} {ls : Array Slot} {rest : List Value} {dC : Nat → ClassId} {dI : Nat → Nat → Nat} {A : Nat → Prop} {H0 : Heap} {cI cZ : ClassId} {Ts : List Cond} {own : String}
theorem gx_fill {ws : va_W} {pl a n : Nat} {f : Nat → Int32} {v : Int32} {index nL : Nat} (hx : p.tables.exec = Jvm.exec) (hb : c.code = cc) (hml : c.maxLocals = nL) (hown : s.vm.findClass own = some m.cls) (hts : ∀ w ∈ Ts, w.before args s = true) (hK : va_K (dC, dI) vwCl (ty_IZ cI cZ) s) (hA : ∀ x, H0.size ≤ x → A x) (G : gx_ (dC, dI) A H0 H locs ws)
    (ha : ws[pl]? = some (a, .inl (cI, n, .inl f))) (hn : n < 2 ^ 31) (gin : GoodIn Ts (va_wsS own index yJ7_fill_53178 wsJ7_fill_53178)) (hR : 0 + 1 ≤ R.frames ∧ 8 + (4 + 11) + 0 ≤ R.locals) (hls : ls.size = nL) (hroom : (rest.map fun v => v.category).sum ≤ 8) (hdg : decode cc pc = .ok (.invokestatic index, 3)) (hcl : cells ≤ R.cells) (hsl : slots ≤ R.slots)
    (kk : ∀ (H1 : Heap) (locs1 : List Loc), gx_ (dC, dI) A H0 H1 locs1 (ws.set pl (a, .inl (cI, n, .inl (pj_fill n v f)))) → W p l e R s m args below meth c H1 locs1 cells slots Q (F0 m (pc + 3) ls rest)) : W p l e R s m args below meth c H locs cells slots Q (F0 m pc ls (.int v :: .ref a :: rest)) := by
  obtain ⟨hP, hD, hS⟩ := G
  have hPc := hP.sub (ws' := [(a, .inl (cI, n, .inl f))]) [pl] (by simp [ha])
  have hDc := hD.sub (ws' := [(a, .inl (cI, n, .inl f))]) [pl] (by simp [va_nd]) (by simp [ha])
  have hFc := va_free (wc := [(a, .inl (cI, n, .inl f))]) hD hS hA [pl] (by simp [ha])
  refine va_callv (va_runS (As := [.ref a, .int v]) (rest := rest) ⟨hx, hb, hml, hown, hts⟩ (kj_fill l dC dI cI cZ a n H.size hn f v) (va_cwS 2 hts gin rfl rfl rfl hd_J7_fill hR) ⟨gx_blind, fun U hU hW => ⟨rfl, by rw [hU], by rw [hU]; exact hPc, va_K.moved hW.alike hK, hDc.weaken (fun _ _ _ _ => trivial)⟩⟩ rfl rfl hls rfl (lv_room hroom) hdg ⟨hcl, hsl⟩) hS (fun x _ h => hFc x h) hFc (fun u1 t H1 locs1 ht hvm hw hB hz1 hk1 hS1 => ?_)
  obtain ⟨hP1, hK1, hD1⟩ := hB
  subst hw
  rw [ht] at hP1
  refine kk H1 locs1 ⟨?_, hD.set ha, hS1⟩
  have hlp := (List.getElem?_eq_some_iff.mp ha).1
  intro k x hk
  by_cases hkp : k = pl
  · subst hkp
    rw [List.getElem?_set_self hlp] at hk
    cases hk
    exact hP1 0 _ rfl
  · rw [List.getElem?_set_ne (Ne.symm hkp)] at hk
    refine (hP k x hk).kept (hk1 x.1 (hP k x hk).lt ?_)
    rintro (⟨j, e1, hj⟩ | hj)
    · cases j with
      | zero => exact hkp (hD.1 k pl x _ hk ha (by cases hj; rfl))
      | succ j => cases hj
    · exact absurd (hP k x hk).lt (by show ¬ x.1 < H.size; omega)
end GXF
def pd_rl : Nat → st_T → Int32 → Int32 → Int32 × st_T
  | 0, u, d, _ => (d, u)
  | n + 1, u, d, i => if u.1 9 ≤ i then (d, u) else if i < u.1 16 then pd_rl n u d (i + 1) else pd_rl n (pd_doStep u i) (d + 1) (i + 1)
theorem pd_rl_s (n : Nat) (u : st_T) (d i : Int32) : pd_rl (n + 1) u d i = if u.1 9 ≤ i then (d, u) else if i < u.1 16 then pd_rl n u d (i + 1) else pd_rl n (pd_doStep u i) (d + 1) (i + 1) := rfl
def pd_sok (u : st_T) (p0 : Int32) : Prop := vp_in p0 24 ∧ (u.1 4 = 0 ∨ u.1 4 = 1) ∧ (u.2 7 (ix p0) = -1 ∨ vp_in (u.2 7 (ix p0)) 24) ∧ ∀ j : Nat, j < 24 → (pd_perform (st_si u 15 0) p0).2.2 7 j = -1 ∨ vp_in ((pd_perform (st_si u 15 0) p0).2.2 7 j) 24
def pd_rok : Nat → st_T → Int32 → Prop
  | 0, _, _ => False
  | n + 1, u, i => if u.1 9 ≤ i then True else if i < u.1 16 then pd_rok n u (i + 1) else pd_sok u i ∧ pd_rok n (pd_doStep u i) (i + 1)
def pd_r0 (u : st_T) : st_T := st_si (st_si (st_sf (st_sf u 12 (pj_fill 24 (-9) (u.2 12))) 14 (pj_fill 5 0 ((st_sf u 12 (pj_fill 24 (-9) (u.2 12))).2 14))) 13 0) 16 0
def pd_run (u : st_T) : Int32 × st_T := if u.1 10 = 0 then pd_rl 25 (pd_r0 u) 0 0 else (-1, u)
set_option maxHeartbeats 4000000 in
set_option maxRecDepth 100000 in
theorem kd_run (l : Launch) (dC : Nat → ClassId) (dI : Nat → Nat → Nat) (cI cZ : ClassId) (h : Nat) (q : Nat → Nat) (sz : Nat) (u : st_T) (hok : u.1 10 = 0 → pd_rok 25 (pd_r0 u) 0) : gx_Mi l yX0_run wsX0_run { frames := 5, cells := 0, slots := 0, locals := 111 } [.ref h] (dC, dI) cI cZ (gw0_ cI cZ h q) u sz (pd_run u) := by
  refine gx_met (cc := cX0_run) (maxL := 3) (ret := (some .int)) (by decide +kernel) rfl (Nat.le_of_ble_eq_true rfl) (fun p e s m args below meth c A ls hsz hx hb hr hlocks hts hown hml hK hAe hA G hl => ?_)
  have hown : s.vm.findClass RX0 = some m.cls := hown
  have hin : ∀ w ∈ wsX00, w ∈ wsX0_run := gx_in
  have hl : lv_has ls 3 [(0, .ref h)] := hl
  have loop : ∀ (n : Nat) (v : st_T) (d i : Int32), pd_rok n v i → pd_run u = pd_rl n v d i → ∀ (H : Heap) (locs : List Loc) (ls : Array Slot), gx_ (dC, dI) A s.heap H locs (gw0_ cI cZ h q v) → lv_has ls 3 [(2, .int i), (1, .int d), (0, .ref h)] → W p l e { frames := 5, cells := 0, slots := 0, locals := 111 } s m args below meth c H locs 0 0 (MQ below (va_Qi (fun r u1 => r = (pd_run u).1 ∧ u1 = (pd_run u).2) (gx_O (dC, dI) cI cZ (gw0_ cI cZ h q) (gw0_ cI cZ h q u) sz) (va_A (gw0_ cI cZ h q u) sz)) args s 0 0 (va_A (gw0_ cI cZ h q u) sz)) (F0 m 40 ls []) := by
    intro n
    induction n with
    | zero => intro v d i h1; exact h1.elim
    | succ n ih =>
      intro v d i hok hf H locs ls G hl
      rw [pd_rl_s n v d i] at hf
      have hs : ¬ v.1 9 ≤ i → ¬ i < v.1 16 → pd_sok v i ∧ pd_rok n (pd_doStep v i) (i + 1) := by
        intro a b
        rw [pd_rok, if_neg a, if_neg b] at hok
        exact hok
      have hs2 : ¬ v.1 9 ≤ i → i < v.1 16 → pd_rok n v (i + 1) := by
        intro a b
        rw [pd_rok, if_neg a, if_pos b] at hok
        exact hok
      refine lv_iload_n hx hb dX0_run_40 rfl (lv_at hl 0 rfl) ?_
      refine lv_aload_n hx hb dX0_run_41 rfl (lv_at hl 2 rfl) ?_
      refine gg0_get (v := .int (v.1 9)) hx hb hts hin hown hK G 9 (by decide) (index := 40) (by decide +kernel) rfl dX0_run_42 ?_
      refine lv_icmp_ge (tgt := 70) hx hb dX0_run_45 (by decide) (fun c_45 => ?_) (fun c_45 => ?_)
      · refine lv_iload_n hx hb dX0_run_70 rfl (lv_at hl 1 rfl) ?_
        exact gx_iret (wf := gw0_ cI cZ h q) (u1 := v) hx hb hr hlocks hsz hK hAe G dX0_run_71 (by rw [hf, if_pos c_45])
      · refine lv_iload_n hx hb dX0_run_48 rfl (lv_at hl 0 rfl) ?_
        refine lv_aload_n hx hb dX0_run_49 rfl (lv_at hl 2 rfl) ?_
        refine gg0_get (v := .int (v.1 16)) hx hb hts hin hown hK G 16 (by decide) (index := 61) (by decide +kernel) rfl dX0_run_50 ?_
        refine lv_icmp_lt (tgt := 64) hx hb dX0_run_53 (by decide) (fun c_53 => ?_) (fun c_53 => ?_)
        · refine lv_iinc (v := i + 1) (lv' := [(2, .int (i + 1)), (1, .int d), (0, .ref h)]) hx hb dX0_run_64 hl (k := 0) rfl (congrArg (fun z => i + z) (by decide)) (by decide) rfl (fun ls hl => ?_)
          refine lv_goto (tgt := 40) hx hb dX0_run_67 (by decide) ?_
          exact ih v d (i + 1) (hs2 c_45 c_53) (by rw [hf, if_neg c_45, if_pos c_53]) H locs ls G (lv_sub hl [0, 1, 2] rfl)
        · refine lv_aload_n hx hb dX0_run_56 rfl (lv_at hl 2 rfl) ?_
          refine lv_iload_n hx hb dX0_run_57 rfl (lv_at hl 0 rfl) ?_
          refine gx_callv (wf := gw0_ cI cZ h q) (u := v) (f := pd_doStep v i) (As := [.int i]) (rest := []) 1 hx hb hml hown hts hK hA G rfl rfl (kd_doStep l dC dI cI cZ h q _ v i (hs c_45 c_53).1.1 (hs c_45 c_53).1.2.1 (hs c_45 c_53).1.2.2.1 (hs c_45 c_53).1.2.2.2) gX0_run_X0_doStep rfl rfl rfl hd_X0_doStep ⟨Nat.le_of_ble_eq_true rfl, Nat.le_of_ble_eq_true rfl⟩ rfl hl.1 rfl (Nat.le_of_ble_eq_true rfl) dX0_run_58 (Nat.zero_le _) (Nat.zero_le _) (fun H locs G => ?_)
          refine lv_iinc (v := d + 1) (lv' := [(1, .int (d + 1)), (2, .int i), (0, .ref h)]) hx hb dX0_run_61 hl (k := 1) rfl (congrArg (fun z => d + z) (by decide)) (by decide) rfl (fun ls hl => ?_)
          refine lv_iinc (v := i + 1) (lv' := [(2, .int (i + 1)), (1, .int (d + 1)), (0, .ref h)]) hx hb dX0_run_64 hl (k := 1) rfl (congrArg (fun z => i + z) (by decide)) (by decide) rfl (fun ls hl => ?_)
          refine lv_goto (tgt := 40) hx hb dX0_run_67 (by decide) ?_
          exact ih (pd_doStep v i) (d + 1) (i + 1) (hs c_45 c_53).2 (by rw [hf, if_neg c_45, if_neg c_53]) H locs ls G (lv_sub hl [0, 1, 2] rfl)
  refine lv_aload_n hx hb dX0_run_0 rfl (lv_at hl 0 rfl) ?_
  refine gg0_get (v := .int (u.1 10)) hx hb hts hin hown hK G 10 (by decide) (index := 43) (by decide +kernel) rfl dX0_run_1 ?_
  refine lv_if_eq (tgt := 9) hx hb dX0_run_4 (by decide) (fun c_4 => ?_) (fun c_4 => ?_)
  · refine lv_aload_n hx hb dX0_run_9 rfl (lv_at hl 0 rfl) ?_
    refine gg0_get (v := .ref (q 12)) hx hb hts hin hown hK G 12 (by decide) (index := 49) (by decide +kernel) rfl dX0_run_10 ?_
    refine lv_bipush (v := (-9)) hx hb dX0_run_13 (by decide) ?_
    refine gx_fill (pl := 7) (rest := []) (v := (-9)) hx hb hml hown hts hK hA G rfl (Nat.le_of_ble_eq_true rfl) gX0_run_J7_fill_53178 ⟨Nat.le_of_ble_eq_true rfl, Nat.le_of_ble_eq_true rfl⟩ hl.1 (Nat.le_of_ble_eq_true rfl) dX0_run_15 (Nat.zero_le _) (Nat.zero_le _) (fun H locs G => ?_)
    have G : gx_ (dC, dI) A s.heap H locs (gw0_ cI cZ h q (st_sf u 12 (pj_fill 24 (-9) (u.2 12)))) := G
    refine lv_aload_n hx hb dX0_run_18 rfl (lv_at hl 0 rfl) ?_
    refine gg0_get (v := .ref (q 14)) hx hb hts hin hown hK G 14 (by decide) (index := 55) (by decide +kernel) rfl dX0_run_19 ?_
    refine lv_iconst (v := 0) hx hb dX0_run_22 (by decide) ?_
    refine gx_fill (pl := 8) (rest := []) (v := 0) hx hb hml hown hts hK hA G rfl (Nat.le_of_ble_eq_true rfl) gX0_run_J7_fill_53178 ⟨Nat.le_of_ble_eq_true rfl, Nat.le_of_ble_eq_true rfl⟩ hl.1 (Nat.le_of_ble_eq_true rfl) dX0_run_23 (Nat.zero_le _) (Nat.zero_le _) (fun H locs G => ?_)
    have G : gx_ (dC, dI) A s.heap H locs (gw0_ cI cZ h q (st_sf (st_sf u 12 (pj_fill 24 (-9) (u.2 12))) 14 (pj_fill 5 0 ((st_sf u 12 (pj_fill 24 (-9) (u.2 12))).2 14)))) := G
    refine lv_aload_n hx hb dX0_run_26 rfl (lv_at hl 0 rfl) ?_
    refine lv_iconst (v := 0) hx hb dX0_run_27 (by decide) ?_
    refine gg0_put13 (v := 0) hx hb hts hin hown hK G (index := 52) (by decide +kernel) dX0_run_28 (fun H locs G => ?_)
    refine lv_aload_n hx hb dX0_run_31 rfl (lv_at hl 0 rfl) ?_
    refine lv_iconst (v := 0) hx hb dX0_run_32 (by decide) ?_
    refine gg0_put16 (v := 0) hx hb hts hin hown hK G (index := 61) (by decide +kernel) dX0_run_33 (fun H locs G => ?_)
    refine lv_iconst (v := 0) hx hb dX0_run_36 (by decide) ?_
    refine lv_istore_n (lv' := [(1, .int 0), (0, .ref h)]) hx hb dX0_run_37 rfl hl (by decide) rfl (fun ls hl => ?_)
    refine lv_iconst (v := 0) hx hb dX0_run_38 (by decide) ?_
    refine lv_istore_n (lv' := [(2, .int 0), (1, .int 0), (0, .ref h)]) hx hb dX0_run_39 rfl hl (by decide) rfl (fun ls hl => ?_)
    exact loop 25 (pd_r0 u) 0 0 (hok c_4) (by unfold pd_run; rw [if_pos c_4]) _ _ ls G (lv_sub hl [0, 1, 2] rfl)
  · refine lv_iconst (v := (-1)) hx hb dX0_run_7 (by decide) ?_
    exact gx_iret (wf := gw0_ cI cZ h q) (u1 := u) hx hb hr hlocks hsz hK hAe G dX0_run_8 (by unfold pd_run; rw [if_neg c_4])
theorem hd_X0_run : yX0_run.cls = RX0 ∧ yX0_run.cls ≠ "java/lang/invoke/MethodHandle" ∧ yX0_run.cls ≠ "java/lang/invoke/VarHandle" ∧ (parseMethodDescriptor yX0_run.desc).map (fun d => d.parameters.length) = some 0 := by decide +kernel
