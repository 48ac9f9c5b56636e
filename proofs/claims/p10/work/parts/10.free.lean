/-! the program HOLDS, TRY, NOTIFY, END, in numbers -/
theorem pp_2 {u : st_T} {p0 : Int32} (h : u.2 5 (ix p0) = 2) : pd_perform u p0 = (0, u) := by
  unfold pd_perform
  rw [if_neg (by rw [h]; decide), if_neg (by rw [h]; decide), if_pos h]
theorem pp_3 {u : st_T} {p0 : Int32} (h : u.2 5 (ix p0) = 3) : pd_perform u p0 = ((pd_notifyWaiting u (pj_floorMod_7cf53 (u.2 6 (ix p0)) 5)).1, (pd_notifyWaiting u (pj_floorMod_7cf53 (u.2 6 (ix p0)) 5)).2) := by
  unfold pd_perform
  rw [if_neg (by rw [h]; decide), if_neg (by rw [h]; decide), if_neg (by rw [h]; decide), if_pos h]
theorem pp_5 {u : st_T} {p0 : Int32} (h : u.2 5 (ix p0) = 5) : pd_perform u p0 = ((pd_holdsLock u (pj_floorMod_7cf53 (u.2 6 (ix p0)) 5)).1, (pd_holdsLock u (pj_floorMod_7cf53 (u.2 6 (ix p0)) 5)).2) := by
  unfold pd_perform
  rw [if_neg (by rw [h]; decide), if_neg (by rw [h]; decide), if_neg (by rw [h]; decide), if_neg (by rw [h]; decide), if_neg (by rw [h]; decide), if_pos h]
theorem ix_lt {x : Int32} {n : Nat} (h : vp_in x n) : ix x < n := by
  have := vp_in_iff.mp h
  show x.toInt.toNat < n
  omega
theorem fm_5 {x : Nat} (hx : x < 5) : pj_floorMod_7cf53 (nI x) 5 = nI x := Int32.toInt_inj.mp (by
  rw [fm_toInt (by decide), nI_toInt (by omega), show (5 : Int32).toInt = 5 by decide]
  omega)
theorem i_lt24 {u : st_T} {n : Nat} (h9 : u.1 9 = nI n) (hn : n < 24) : u.1 9 < 24 := by
  rw [h9, show (24 : Int32) = nI 24 from by decide, nI_ltI (by omega) (by decide)]
  exact hn
theorem step_pl {u : st_T} {n : Nat} {a : Int32} (h9 : u.1 9 = nI n) (hn : n < 24) (a1 : ¬ a < 0) (a2 : ¬ 15 < a) (a0 : ¬ a = 0) (ob : pd_opensBlock a = 0) (c : Int32) : pd_step u a c = (nI (n + 1), st_si (st_sa (st_sa (st_sa u 5 n a) 6 n c) 7 n (u.1 11)) 9 (nI (n + 1))) := by
  have e97 : ix (u.1 9) = n := by rw [h9]; exact ix_n (by omega)
  unfold pd_step
  rw [if_neg a1, if_neg a2, if_pos (i_lt24 h9 hn), if_neg a0, if_pos ob]
  unfold pd_step_86
  rw [if_pos ob, if_neg a0, e97, h9, nI_1]
theorem step_op {u : st_T} {n : Nat} (h9 : u.1 9 = nI n) (hn : n < 24) (l8 : u.1 10 < 8) (c : Int32) : pd_step u 2 c = (nI (n + 1), st_si (st_si (st_si (st_sa (st_sa (st_sa u 5 n 2) 6 n c) 7 n (u.1 11)) 11 (nI n)) 10 (u.1 10 + 1)) 9 (nI (n + 1))) := by
  have e97 : ix (u.1 9) = n := by rw [h9]; exact ix_n (by omega)
  have ob : ¬ pd_opensBlock 2 = 0 := by decide
  unfold pd_step
  rw [if_neg (by decide), if_neg (by decide), if_pos (i_lt24 h9 hn), if_neg (by decide), if_neg ob, if_pos l8]
  unfold pd_step_86
  rw [if_neg ob, e97, h9, nI_1]
theorem step_en {u : st_T} {n b : Nat} (h9 : u.1 9 = nI n) (hn : n < 24) (h11 : u.1 11 = nI b) (hb : b < n) (c : Int32) : pd_step u 0 c = (nI (n + 1), st_si (st_si (st_si (st_sa (st_sa (st_sa (st_sa u 5 n 0) 6 n c) 7 n (nI b)) 8 b (nI n)) 11 (u.2 7 b)) 10 (u.1 10 - 1)) 9 (nI (n + 1))) := by
  have e97 : ix (u.1 9) = n := by rw [h9]; exact ix_n (by omega)
  have e117 : ix (u.1 11) = b := by rw [h11]; exact ix_n (by omega)
  unfold pd_step
  rw [if_neg (by decide), if_neg (by decide), if_pos (i_lt24 h9 hn), if_pos rfl, if_neg (by rw [h11]; exact nI_m1 (by omega) : ¬ u.1 11 = -1), if_pos (by decide : pd_opensBlock 0 = 0)]
  unfold pd_step_86
  rw [if_pos (by decide : pd_opensBlock 0 = 0), if_pos rfl]
  have ear : (st_sa (st_sa (st_sa u 5 (ix (u.1 9)) 0) 6 (ix (u.1 9)) c) 7 (ix (u.1 9)) (u.1 11)).2 7 (ix (u.1 11)) = u.2 7 b := by
    show upd (u.2 7) (ix (u.1 9)) (u.1 11) (ix (u.1 11)) = _
    rw [e97, e117, up_n _ _ (by omega)]
  rw [ear, e97, e117, h9, h11, nI_1]
/-- throwing outside of every block, and just within a TRY -/
theorem lv_top {z : st_T} {p0 : Int32} (h : z.2 7 (ix p0) = -1) : pd_leaveBlocks z p0 = st_si (st_si z 13 (z.1 15)) 16 (z.1 9) := by
  have e : pd_lb 9 z (-1) 8 = (-1, z) := by
    rw [pd_lb_s, if_neg (by decide), if_pos (by unfold pd_isEnter; exact if_pos rfl)]
  unfold pd_leaveBlocks
  rw [h, e]
  unfold pd_lt
  exact if_pos rfl
theorem lv_try {z : st_T} {p0 : Int32} {b : Nat} (h : z.2 7 (ix p0) = nI b) (hb : b < 24) (ho : z.2 5 b = 2) : pd_leaveBlocks z p0 = st_si (st_sa z 12 b (z.1 15)) 16 (z.2 8 b + 1) := by
  have e : pd_lb 9 z (nI b) 8 = (nI b, z) := by
    rw [pd_lb_s, if_neg (by decide), if_pos (by unfold pd_isEnter; rw [if_neg (nI_m1 (by omega)), ix_n (by omega), if_neg (by rw [ho]; decide)])]
  unfold pd_leaveBlocks
  rw [h, e]
  unfold pd_lt
  rw [if_neg (nI_m1 (by omega)), ix_n (by omega)]
theorem rl_skip {v : st_T} {d : Int32} (h9 : v.1 9 = nI 4) (h16 : v.1 16 = nI 4) : ∀ (f i : Nat), i ≤ 4 → 4 - i < f → pd_rl f v d (nI i) = (d, v) := by
  intro f
  induction f with
  | zero => intro i h1 h2; omega
  | succ f ih =>
    intro i h1 h2
    rw [pd_rl_s]
    rcases Nat.lt_or_ge i 4 with z | z
    · rw [if_neg (by rw [h9, nI_leI (by omega) (by omega)]; omega), if_pos (by rw [h16, nI_ltI (by omega) (by omega)]; omega), nI_1]
      exact ih (i + 1) (by omega) (by omega)
    · rw [if_pos (by rw [h9, nI_leI (by omega) (by omega)]; omega)]
theorem rl_go {v : st_T} {f i dd : Nat} (h9 : v.1 9 = nI 4) (h16 : v.1 16 = nI 0) (hi : i < 4) : pd_rl (f + 1) v (nI dd) (nI i) = pd_rl f (pd_doStep v (nI i)) (nI (dd + 1)) (nI (i + 1)) := by
  rw [pd_rl_s, if_neg (by rw [h9, nI_leI (by omega) (by omega)]; omega), if_neg (by rw [h16, nI_ltI (by omega) (by omega)]; omega), nI_1, nI_1]
/-- the desk with that program in it -/
def qf_ (w : st_T) (lk : Nat → Int32) (x : Nat) : Prop := w.1 9 = nI 4 ∧ w.1 10 = 0 ∧ w.2 5 0 = 5 ∧ w.2 5 1 = 2 ∧ w.2 5 2 = 3 ∧ w.2 6 0 = nI x ∧ w.2 6 2 = nI x ∧ w.2 7 0 = -1 ∧ w.2 7 2 = nI 1 ∧ w.2 8 1 = nI 3 ∧ w.2 0 = lk
theorem r0_ok {w : st_T} {lk : Nat → Int32} {x : Nat} (h : qf_ w lk x) : ∃ r : st_T, pd_run w = pd_rl 25 r (nI 0) (nI 0) ∧ qf_ r lk x ∧ r.1 16 = nI 0 ∧ r.1 13 = 0 ∧ ∀ j, j < 5 → r.2 14 j = 0 :=
  ⟨pd_r0 w, by unfold pd_run; rw [if_pos h.2.1]; rfl, h, rfl, rfl, fun j hj => by
    show pj_fill 5 0 _ j = 0
    exact if_pos hj⟩
theorem do_null {r : st_T} {lk : Nat → Int32} {x : Nat} (h : qf_ r lk x) (hx : x < 5) (h0 : lk x = 0) : pd_doStep r (nI 0) = st_si (st_si (st_sa (st_si (st_si r 15 0) 15 1) 12 0 (-999)) 13 1) 16 (r.1 9) := by
  obtain ⟨h9, h10, o0, o1, o2, g0, g2, a0, a2, e1, hl⟩ := h
  have p0 : pd_perform (st_si r 15 0) (nI 0) = (0, st_si (st_si r 15 0) 15 1) := by
    have eh : pd_holdsLock (st_si r 15 0) (nI x) = (0, st_si (st_si r 15 0) 15 1) := by
      unfold pd_holdsLock
      rw [if_pos (by show r.2 0 (ix (nI x)) = 0; rw [ix_n (by omega), hl]; exact h0)]
      rfl
    have e6 : (st_si r 15 0).2 6 (ix (nI 0)) = nI x := by
      rw [ix_n (by omega)]
      exact g0
    rw [pp_5 (by rw [ix_n (by omega)]; exact o0), e6, fm_5 hx, eh]
  unfold pd_doStep
  rw [p0, if_neg (by show ¬ (1 : Int32) = 0; decide)]
  show pd_leaveBlocks (st_sa (st_si (st_si r 15 0) 15 1) 12 (ix (nI 0)) (1 + -1000)) (nI 0) = _
  rw [ix_n (by omega), show (1 : Int32) + -1000 = -999 by decide, lv_top (z := st_sa (st_si (st_si r 15 0) 15 1) 12 0 (-999)) (by rw [ix_n (by omega)]; exact a0)]
  rfl
theorem do_holds {r : st_T} {lk : Nat → Int32} {x : Nat} (h : qf_ r lk x) (hx : x < 5) (h0 : ¬ lk x = 0) (h14 : ∀ j, j < 5 → r.2 14 j = 0) : pd_doStep r (nI 0) = st_sa (st_si r 15 0) 12 0 0 := by
  obtain ⟨h9, h10, o0, o1, o2, g0, g2, a0, a2, e1, hl⟩ := h
  have p0 : pd_perform (st_si r 15 0) (nI 0) = (0, st_si r 15 0) := by
    have eh : pd_holdsLock (st_si r 15 0) (nI x) = (pd_asNumber 0, st_si r 15 0) := by
      unfold pd_holdsLock
      have ez : (st_si r 15 0).2 14 (ix (pd_leastHandle (st_si r 15 0) (nI x))) = 0 := h14 _ (ix_lt (least_in (vp_in_nI hx (by decide))))
      rw [if_neg (by show ¬ r.2 0 (ix (nI x)) = 0; rw [ix_n (by omega), hl]; exact h0), ez, if_pos (by decide)]
    have e6 : (st_si r 15 0).2 6 (ix (nI 0)) = nI x := by
      rw [ix_n (by omega)]
      exact g0
    rw [pp_5 (by rw [ix_n (by omega)]; exact o0), e6, fm_5 hx, eh]
    rfl
  unfold pd_doStep
  rw [p0, if_pos (by rfl), ix_n (by omega)]
theorem do_try {r : st_T} (o1 : r.2 5 1 = 2) : pd_doStep r (nI 1) = st_sa (st_si r 15 0) 12 1 0 := by
  have p0 : pd_perform (st_si r 15 0) (nI 1) = (0, st_si r 15 0) := pp_2 (by rw [ix_n (by omega)]; exact o1)
  unfold pd_doStep
  rw [p0, if_pos (by rfl), ix_n (by omega)]
theorem do_notify {r : st_T} {lk : Nat → Int32} {x : Nat} (h : qf_ r lk x) (hx : x < 5) (h0 : ¬ lk x = 0) (h14 : ∀ j, j < 5 → r.2 14 j = 0) : pd_doStep r (nI 2) = st_si (st_sa (st_sa (st_si (st_si r 15 0) 15 2) 12 2 (-998)) 12 1 2) 16 (nI 4) := by
  obtain ⟨h9, h10, o0, o1, o2, g0, g2, a0, a2, e1, hl⟩ := h
  have p0 : pd_perform (st_si r 15 0) (nI 2) = (0, st_si (st_si r 15 0) 15 2) := by
    have eh : pd_notifyWaiting (st_si r 15 0) (nI x) = (0, st_si (st_si r 15 0) 15 2) := by
      unfold pd_notifyWaiting
      have ez : (st_si r 15 0).2 14 (ix (pd_leastHandle (st_si r 15 0) (nI x))) = 0 := h14 _ (ix_lt (least_in (vp_in_nI hx (by decide))))
      rw [if_neg (by show ¬ r.2 0 (ix (nI x)) = 0; rw [ix_n (by omega), hl]; exact h0), if_pos ez]
      rfl
    have e6 : (st_si r 15 0).2 6 (ix (nI 2)) = nI x := by
      rw [ix_n (by omega)]
      exact g2
    rw [pp_3 (by rw [ix_n (by omega)]; exact o2), e6, fm_5 hx, eh]
  have e8 : (st_sa (st_si (st_si r 15 0) 15 2) 12 2 (-998)).2 8 1 + 1 = nI 4 := by
    show r.2 8 1 + 1 = nI 4
    rw [e1, nI_1]
  unfold pd_doStep
  rw [p0, if_neg (by show ¬ (2 : Int32) = 0; decide)]
  show pd_leaveBlocks (st_sa (st_si (st_si r 15 0) 15 2) 12 (ix (nI 2)) (2 + -1000)) (nI 2) = _
  rw [ix_n (by omega), show (2 : Int32) + -1000 = -998 by decide, lv_try (z := st_sa (st_si (st_si r 15 0) 15 2) 12 2 (-998)) (b := 1) (by rw [ix_n (by omega)]; exact a2) (by omega) o1, e8]
  rfl
theorem fr_null {w : st_T} {lk : Nat → Int32} {x : Nat} (h : qf_ w lk x) (hx : x < 5) (h0 : lk x = 0) : ∃ z : st_T, pd_run w = (nI 1, z) ∧ z.2 0 = lk ∧ z.2 12 0 = -999 ∧ z.1 13 = 1 := by
  obtain ⟨r, er, hr, r16, r13, r14⟩ := r0_ok h
  have d0 := do_null hr hx h0
  have e := rl_go (f := 24) (dd := 0) (i := 0) hr.1 r16 (by omega)
  rw [d0] at e
  obtain ⟨r1, hr1⟩ : ∃ r1, r1 = st_si (st_si (st_sa (st_si (st_si r 15 0) 15 1) 12 0 (-999)) 13 1) 16 (r.1 9) := ⟨_, rfl⟩
  rw [← hr1] at e
  exact ⟨r1, by rw [er, e, rl_skip (v := r1) (by rw [hr1]; exact hr.1) (by rw [hr1]; exact hr.1) 24 1 (by omega) (by omega)], by rw [hr1]; exact hr.2.2.2.2.2.2.2.2.2.2, by rw [hr1]; rfl, by rw [hr1]; rfl⟩
theorem fr_lock {w : st_T} {lk : Nat → Int32} {x : Nat} (h : qf_ w lk x) (hx : x < 5) (h0 : ¬ lk x = 0) : ∃ z : st_T, pd_run w = (nI 3, z) ∧ z.2 0 = lk ∧ z.2 12 0 = 0 ∧ z.2 12 2 = -998 ∧ z.1 13 = 0 := by
  obtain ⟨r, er, hr, r16, r13, r14⟩ := r0_ok h
  have d0 := do_holds hr hx h0 r14
  have e0 := rl_go (f := 24) (dd := 0) (i := 0) hr.1 r16 (by omega)
  rw [d0] at e0
  obtain ⟨r1, hr1⟩ : ∃ r1, r1 = st_sa (st_si r 15 0) 12 0 0 := ⟨_, rfl⟩
  rw [← hr1] at e0
  have q1 : qf_ r1 lk x := by rw [hr1]; exact hr
  have k16 : r1.1 16 = nI 0 := by rw [hr1]; exact r16
  have k13 : r1.1 13 = 0 := by rw [hr1]; exact r13
  have k14 : ∀ j, j < 5 → r1.2 14 j = 0 := by rw [hr1]; exact r14
  have k12 : r1.2 12 0 = 0 := by rw [hr1]; rfl
  have e1 := rl_go (f := 23) (dd := 1) (i := 1) q1.1 k16 (by omega)
  rw [do_try q1.2.2.2.1] at e1
  obtain ⟨r2, hr2⟩ : ∃ r2, r2 = st_sa (st_si r1 15 0) 12 1 0 := ⟨_, rfl⟩
  rw [← hr2] at e1
  have q2 : qf_ r2 lk x := by rw [hr2]; exact q1
  have l16 : r2.1 16 = nI 0 := by rw [hr2]; exact k16
  have l13 : r2.1 13 = 0 := by rw [hr2]; exact k13
  have l14 : ∀ j, j < 5 → r2.2 14 j = 0 := by rw [hr2]; exact k14
  have l12 : r2.2 12 0 = 0 := by rw [hr2]; exact k12
  have e2 := rl_go (f := 22) (dd := 2) (i := 2) q2.1 l16 (by omega)
  rw [do_notify q2 hx h0 l14] at e2
  obtain ⟨r3, hr3⟩ : ∃ r3, r3 = st_si (st_sa (st_sa (st_si (st_si r2 15 0) 15 2) 12 2 (-998)) 12 1 2) 16 (nI 4) := ⟨_, rfl⟩
  rw [← hr3] at e2
  exact ⟨r3, by rw [er, e0, e1, e2, rl_skip (v := r3) (by rw [hr3]; exact q2.1) (by rw [hr3]; rfl) 22 3 (by omega) (by omega)], by rw [hr3]; exact q2.2.2.2.2.2.2.2.2.2.2, by rw [hr3]; exact l12, by rw [hr3]; rfl, by rw [hr3]; exact l13⟩
theorem state_h {w : st_T} {x : Nat} (hx : x < 5) : pd_state w (5 + nI x) = if w.2 0 x = 0 then -2 else pd_leastHandle w (nI x) := by
  rcases (by omega : x = 0 ∨ x = 1 ∨ x = 2 ∨ x = 3 ∨ x = 4) with rfl | rfl | rfl | rfl | rfl
  all_goals
    unfold pd_state
    rw [if_neg (by decide), if_neg (by decide), if_neg (by decide), if_neg (by decide), if_neg (by decide)]
    unfold pd_handleState
    rw [if_neg (by decide), if_pos (by decide)]
  · rw [show 5 + nI 0 - 5 = nI 0 from by decide, ix_n (by omega)]
  · rw [show 5 + nI 1 - 5 = nI 1 from by decide, ix_n (by omega)]
  · rw [show 5 + nI 2 - 5 = nI 2 from by decide, ix_n (by omega)]
  · rw [show 5 + nI 3 - 5 = nI 3 from by decide, ix_n (by omega)]
  · rw [show 5 + nI 4 - 5 = nI 4 from by decide, ix_n (by omega)]
theorem result_n (w : st_T) {k : Nat} (hk : k < 24) : pd_result w (nI k) = w.2 12 k := by
  unfold pd_result
  rw [if_neg (nI_pos (by omega)), if_pos (by rw [show (24 : Int32) = nI 24 from by decide, nI_ltI (by omega) (by decide)]; exact hk), ix_n (by omega)]
def iv_ (u : st_T) : Prop := ∃ (n : Nat) (L : List Nat), jv_ u n L
theorem iv_step {u v : st_T} {a c r : Int32} (h : iv_ u) (e : pd_step u a c = (r, v)) : iv_ v := by
  obtain ⟨n, L, h⟩ := h
  obtain ⟨n1, L1, h1, -⟩ := step_ok h a c
  rw [e] at h1
  exact ⟨n1, L1, h1⟩
theorem iv_pre {u : st_T} (h : iv_ u) : ¬ u.1 9 < 0 ∧ (u.1 11 = -1 ∨ vp_in (u.1 11) 24) := by
  obtain ⟨n, L, h⟩ := h
  exact jv_pre h
theorem iv_run {u : st_T} (h : iv_ u) : u.1 10 = 0 → pd_rok 25 (pd_r0 u) 0 := by
  obtain ⟨n, L, h⟩ := h
  exact run_pre h
/-- what 'free' comes by -/
theorem free_ok {u : st_T} (h : iv_ u) {x : Nat} (hx : x < 5) : ∃ (a r : Int32) (v1 v2 v3 v4 v5 w : st_T), pd_clear u = (a, v1) ∧ ¬ a < 0 ∧ iv_ v1 ∧ pd_step v1 5 (nI x) = (1, v2) ∧ iv_ v2 ∧ pd_step v2 2 0 = (2, v3) ∧ iv_ v3 ∧ pd_step v3 3 (nI x) = (3, v4) ∧ iv_ v4 ∧ pd_step v4 0 0 = (4, v5) ∧ iv_ v5 ∧ pd_run v5 = (r, w) ∧ iv_ w ∧
    ((pd_state w (5 + nI x) < 0 ∧ r = 1 ∧ pd_result w 0 = -999 ∧ pd_failure w = 1) ∨ (¬ pd_state w (5 + nI x) < 0 ∧ r = 3 ∧ pd_result w 0 = 0 ∧ pd_result w 2 = -998 ∧ pd_failure w = 0)) := by
  obtain ⟨n, L, hj⟩ := h
  have hc := clear_ok hj
  obtain ⟨v1, e1⟩ : ∃ v1, v1 = (pd_clear u).2 := ⟨_, rfl⟩
  rw [← e1] at hc
  obtain ⟨i9, -, -, -, i10, i11, -, -⟩ := hc.2
  have i10 : v1.1 10 = 0 := i10
  have i11 : v1.1 11 = -1 := i11
  have s1 := step_pl (a := 5) i9 (by omega) (by decide) (by decide) (by decide) (by decide) (nI x)
  obtain ⟨v2, e2⟩ : ∃ v, v = st_si (st_sa (st_sa (st_sa v1 5 0 5) 6 0 (nI x)) 7 0 (v1.1 11)) 9 (nI (0 + 1)) := ⟨_, rfl⟩
  rw [← e2] at s1
  have j9 : v2.1 9 = nI 1 := by rw [e2]; rfl
  have j10 : v2.1 10 = 0 := by rw [e2]; exact i10
  have j11 : v2.1 11 = -1 := by rw [e2]; exact i11
  have j50 : v2.2 5 0 = 5 := by rw [e2]; rfl
  have j60 : v2.2 6 0 = nI x := by rw [e2]; rfl
  have j70 : v2.2 7 0 = -1 := by rw [e2]; exact i11
  have j0 : v2.2 0 = v1.2 0 := by rw [e2]; rfl
  have s2 := step_op j9 (by omega) (by rw [j10]; decide) 0
  obtain ⟨v3, e3⟩ : ∃ v, v = st_si (st_si (st_si (st_sa (st_sa (st_sa v2 5 1 2) 6 1 0) 7 1 (v2.1 11)) 11 (nI 1)) 10 (v2.1 10 + 1)) 9 (nI (1 + 1)) := ⟨_, rfl⟩
  rw [← e3] at s2
  have k9 : v3.1 9 = nI 2 := by rw [e3]; rfl
  have k10 : v3.1 10 = 1 := by rw [e3]; show v2.1 10 + 1 = 1; rw [j10]; decide
  have k11 : v3.1 11 = nI 1 := by rw [e3]; rfl
  have k50 : v3.2 5 0 = 5 := by rw [e3]; exact j50
  have k51 : v3.2 5 1 = 2 := by rw [e3]; rfl
  have k60 : v3.2 6 0 = nI x := by rw [e3]; exact j60
  have k70 : v3.2 7 0 = -1 := by rw [e3]; exact j70
  have k0 : v3.2 0 = v1.2 0 := by rw [e3]; exact j0
  have s3 := step_pl (a := 3) k9 (by omega) (by decide) (by decide) (by decide) (by decide) (nI x)
  obtain ⟨v4, e4⟩ : ∃ v, v = st_si (st_sa (st_sa (st_sa v3 5 2 3) 6 2 (nI x)) 7 2 (v3.1 11)) 9 (nI (2 + 1)) := ⟨_, rfl⟩
  rw [← e4] at s3
  have l9 : v4.1 9 = nI 3 := by rw [e4]; rfl
  have l10 : v4.1 10 = 1 := by rw [e4]; exact k10
  have l11 : v4.1 11 = nI 1 := by rw [e4]; exact k11
  have l50 : v4.2 5 0 = 5 := by rw [e4]; exact k50
  have l51 : v4.2 5 1 = 2 := by rw [e4]; exact k51
  have l52 : v4.2 5 2 = 3 := by rw [e4]; rfl
  have l60 : v4.2 6 0 = nI x := by rw [e4]; exact k60
  have l62 : v4.2 6 2 = nI x := by rw [e4]; rfl
  have l70 : v4.2 7 0 = -1 := by rw [e4]; exact k70
  have l72 : v4.2 7 2 = nI 1 := by rw [e4]; exact k11
  have l0 : v4.2 0 = v1.2 0 := by rw [e4]; exact k0
  have s4 := step_en l9 (by omega) l11 (by omega) 0
  obtain ⟨v5, e5⟩ : ∃ v, v = st_si (st_si (st_si (st_sa (st_sa (st_sa (st_sa v4 5 3 0) 6 3 0) 7 3 (nI 1)) 8 1 (nI 3)) 11 (v4.2 7 1)) 10 (v4.1 10 - 1)) 9 (nI (3 + 1)) := ⟨_, rfl⟩
  rw [← e5] at s4
  have q : qf_ v5 (v1.2 0) x := by
    rw [e5]
    refine ⟨rfl, ?_, l50, l51, l52, l60, l62, l70, l72, rfl, l0⟩
    show v4.1 10 - 1 = 0
    rw [l10]; decide
  have n1 : iv_ v1 := ⟨0, [], hc.2⟩
  have n2 := iv_step n1 s1
  have n3 := iv_step n2 s2
  have n4 := iv_step n3 s3
  have n5 := iv_step n4 s4
  have last : ∀ (r : Int32) (w : st_T), pd_run v5 = (r, w) → iv_ w := fun r w e => by
    obtain ⟨n, L, z⟩ := n5
    have := (run_ok z q.2.1).2
    rw [e] at this
    exact ⟨n, L, this⟩
  have s1 : pd_step v1 5 (nI x) = (1, v2) := s1
  have s2 : pd_step v2 2 0 = (2, v3) := s2
  have s3 : pd_step v3 3 (nI x) = (3, v4) := s3
  have s4 : pd_step v4 0 0 = (4, v5) := s4
  by_cases h0 : v1.2 0 x = 0
  · obtain ⟨w, ew, w0, w12, w13⟩ := fr_null q hx h0
    refine ⟨_, _, v1, v2, v3, v4, v5, w, by rw [e1], hc.1, n1, s1, n2, s2, n3, s3, n4, s4, n5, ew, last _ _ ew, Or.inl ⟨?_, rfl, ?_, w13⟩⟩
    · rw [state_h hx, if_pos (by rw [w0]; exact h0)]; decide
    · exact (result_n w (k := 0) (by omega)).trans w12
  · obtain ⟨w, ew, w0, w12, w122, w13⟩ := fr_lock q hx h0
    refine ⟨_, _, v1, v2, v3, v4, v5, w, by rw [e1], hc.1, n1, s1, n2, s2, n3, s3, n4, s4, n5, ew, last _ _ ew, Or.inr ⟨?_, rfl, ?_, ?_, w13⟩⟩
    · rw [state_h hx, if_neg (by rw [w0]; exact h0), Int32.lt_iff_toInt_lt, Int32.toInt_zero]
      have := vp_in_iff.mp (least_in (u := w) (vp_in_nI hx (by decide)))
      omega
    · exact (result_n w (k := 0) (by omega)).trans w12
    · exact (result_n w (k := 2) (by omega)).trans w122
