/-! one step: perform and work answer alike -/
def ow_ (g : st_T) (i : Nat) (ra : Int32) (P W : Int32 × st_T) : Prop := (P.2.1 15 = 0 ∧ W.2.1 14 = 0 ∧ P.1 = W.1 ∧ rm_ g P.2 W.2 (sk_ (g.2 5) (i + 1)) ra) ∨ ∃ c : Int32, ¬ c = 0 ∧ P.2.1 15 = c ∧ W.2.1 14 = c ∧ ¬ g.2 5 i = 0 ∧ rm_ g P.2 W.2 (sk_ (g.2 5) i) ra
def pv_ (g : st_T) (n : Nat) : Prop := g.1 9 = nI n ∧ n ≤ 24 ∧ (∀ j, j ≤ n → (sk_ (g.2 5) j).length ≤ 8) ∧ (∀ j, j < n → g.2 5 j = 0 → ¬ sk_ (g.2 5) j = []) ∧ (∀ j, j < n → g.2 7 j = tp_ (sk_ (g.2 5) j)) ∧ (∀ j, j < n → g.2 5 j = 0 → ∀ b r, sk_ (g.2 5) j = b :: r → g.2 8 b = nI j) ∧ ∀ j, j < n → vp_in (g.2 5 j) 16
theorem pp_0 {u : st_T} {p0 : Int32} (h : u.2 5 (ix p0) = 0) : pd_perform u p0 = ((pd_endBlock u (u.2 7 (ix p0))).1, (pd_endBlock u (u.2 7 (ix p0))).2) := by
  unfold pd_perform
  rw [if_pos h]
theorem pp_1 {u : st_T} {p0 : Int32} (h : u.2 5 (ix p0) = 1) : pd_perform u p0 = ((pd_enter u (pj_floorMod_7cf53 (u.2 6 (ix p0)) 5)).1, (pd_enter u (pj_floorMod_7cf53 (u.2 6 (ix p0)) 5)).2) := by
  unfold pd_perform
  rw [if_neg (by rw [h]; decide), if_pos h]
theorem pp_2 {u : st_T} {p0 : Int32} (h : u.2 5 (ix p0) = 2) : pd_perform u p0 = (0, u) := by
  unfold pd_perform
  rw [if_neg (by rw [h]; decide), if_neg (by rw [h]; decide), if_pos h]
theorem pp_3 {u : st_T} {p0 : Int32} (h : u.2 5 (ix p0) = 3) : pd_perform u p0 = ((pd_notifyWaiting u (pj_floorMod_7cf53 (u.2 6 (ix p0)) 5)).1, (pd_notifyWaiting u (pj_floorMod_7cf53 (u.2 6 (ix p0)) 5)).2) := by
  unfold pd_perform
  rw [if_neg (by rw [h]; decide), if_neg (by rw [h]; decide), if_neg (by rw [h]; decide), if_pos h]
theorem pp_4 {u : st_T} {p0 : Int32} (h : u.2 5 (ix p0) = 4) : pd_perform u p0 = ((pd_notifyWaiting u (pj_floorMod_7cf53 (u.2 6 (ix p0)) 5)).1, (pd_notifyWaiting u (pj_floorMod_7cf53 (u.2 6 (ix p0)) 5)).2) := by
  unfold pd_perform
  rw [if_neg (by rw [h]; decide), if_neg (by rw [h]; decide), if_neg (by rw [h]; decide), if_neg (by rw [h]; decide), if_pos h]
theorem pp_5 {u : st_T} {p0 : Int32} (h : u.2 5 (ix p0) = 5) : pd_perform u p0 = ((pd_holdsLock u (pj_floorMod_7cf53 (u.2 6 (ix p0)) 5)).1, (pd_holdsLock u (pj_floorMod_7cf53 (u.2 6 (ix p0)) 5)).2) := by
  unfold pd_perform
  rw [if_neg (by rw [h]; decide), if_neg (by rw [h]; decide), if_neg (by rw [h]; decide), if_neg (by rw [h]; decide), if_neg (by rw [h]; decide), if_pos h]
theorem pp_6 {u : st_T} {p0 : Int32} (h : u.2 5 (ix p0) = 6) : pd_perform u p0 = ((pd_awaitNotice u (u.2 6 (ix p0))).1, (pd_awaitNotice u (u.2 6 (ix p0))).2) := by
  unfold pd_perform
  rw [if_neg (by rw [h]; decide), if_neg (by rw [h]; decide), if_neg (by rw [h]; decide), if_neg (by rw [h]; decide), if_neg (by rw [h]; decide), if_neg (by rw [h]; decide), if_pos h]
theorem pp_7 {u : st_T} {p0 : Int32} (h : u.2 5 (ix p0) = 7) : pd_perform u p0 = (0, st_si u 4 1) := by
  unfold pd_perform
  rw [if_neg (by rw [h]; decide), if_neg (by rw [h]; decide), if_neg (by rw [h]; decide), if_neg (by rw [h]; decide), if_neg (by rw [h]; decide), if_neg (by rw [h]; decide), if_neg (by rw [h]; decide), if_pos h]
theorem pp_8 {u : st_T} {p0 : Int32} (h : u.2 5 (ix p0) = 8) : pd_perform u p0 = (pd_asNumber ((pd_takeFlag u).1), (pd_takeFlag u).2) := by
  unfold pd_perform
  rw [if_neg (by rw [h]; decide), if_neg (by rw [h]; decide), if_neg (by rw [h]; decide), if_neg (by rw [h]; decide), if_neg (by rw [h]; decide), if_neg (by rw [h]; decide), if_neg (by rw [h]; decide), if_neg (by rw [h]; decide), if_pos h]
theorem pp_9 {u : st_T} {p0 : Int32} (h : u.2 5 (ix p0) = 9) : pd_perform u p0 = (pd_asNumber (u.1 4), u) := by
  unfold pd_perform
  rw [if_neg (by rw [h]; decide), if_neg (by rw [h]; decide), if_neg (by rw [h]; decide), if_neg (by rw [h]; decide), if_neg (by rw [h]; decide), if_neg (by rw [h]; decide), if_neg (by rw [h]; decide), if_neg (by rw [h]; decide), if_neg (by rw [h]; decide), if_pos h]
theorem pp_10 {u : st_T} {p0 : Int32} (h : u.2 5 (ix p0) = 10) : pd_perform u p0 = ((pd_sleep u (u.2 6 (ix p0))).1, (pd_sleep u (u.2 6 (ix p0))).2) := by
  unfold pd_perform
  rw [if_neg (by rw [h]; decide), if_neg (by rw [h]; decide), if_neg (by rw [h]; decide), if_neg (by rw [h]; decide), if_neg (by rw [h]; decide), if_neg (by rw [h]; decide), if_neg (by rw [h]; decide), if_neg (by rw [h]; decide), if_neg (by rw [h]; decide), if_neg (by rw [h]; decide), if_pos h]
theorem pp_11 {u : st_T} {p0 : Int32} (h : u.2 5 (ix p0) = 11) : pd_perform u p0 = ((pd_raise u (100 + (pj_floorMod_7cf53 (u.2 6 (ix p0)) 100))).1, (pd_raise u (100 + (pj_floorMod_7cf53 (u.2 6 (ix p0)) 100))).2) := by
  unfold pd_perform
  rw [if_neg (by rw [h]; decide), if_neg (by rw [h]; decide), if_neg (by rw [h]; decide), if_neg (by rw [h]; decide), if_neg (by rw [h]; decide), if_neg (by rw [h]; decide), if_neg (by rw [h]; decide), if_neg (by rw [h]; decide), if_neg (by rw [h]; decide), if_neg (by rw [h]; decide), if_neg (by rw [h]; decide), if_pos h]
theorem pp_12 {u : st_T} {p0 : Int32} (h : u.2 5 (ix p0) = 12) : pd_perform u p0 = ((pd_start u (pj_floorMod_7cf53 (u.2 6 (ix p0)) 4)).1, (pd_start u (pj_floorMod_7cf53 (u.2 6 (ix p0)) 4)).2) := by
  unfold pd_perform
  rw [if_neg (by rw [h]; decide), if_neg (by rw [h]; decide), if_neg (by rw [h]; decide), if_neg (by rw [h]; decide), if_neg (by rw [h]; decide), if_neg (by rw [h]; decide), if_neg (by rw [h]; decide), if_neg (by rw [h]; decide), if_neg (by rw [h]; decide), if_neg (by rw [h]; decide), if_neg (by rw [h]; decide), if_neg (by rw [h]; decide), if_pos h]
theorem pp_13 {u : st_T} {p0 : Int32} (h : u.2 5 (ix p0) = 13) : pd_perform u p0 = (pd_asNumber (u.2 2 (ix (pj_floorMod_7cf53 (u.2 6 (ix p0)) 4))), u) := by
  unfold pd_perform
  rw [if_neg (by rw [h]; decide), if_neg (by rw [h]; decide), if_neg (by rw [h]; decide), if_neg (by rw [h]; decide), if_neg (by rw [h]; decide), if_neg (by rw [h]; decide), if_neg (by rw [h]; decide), if_neg (by rw [h]; decide), if_neg (by rw [h]; decide), if_neg (by rw [h]; decide), if_neg (by rw [h]; decide), if_neg (by rw [h]; decide), if_neg (by rw [h]; decide), if_pos h]
theorem pp_14 {u : st_T} {p0 : Int32} (h : u.2 5 (ix p0) = 14) : pd_perform u p0 = (pd_asNumber (u.2 2 (ix (pj_floorMod_7cf53 (u.2 6 (ix p0)) 4))), u) := by
  unfold pd_perform
  rw [if_neg (by rw [h]; decide), if_neg (by rw [h]; decide), if_neg (by rw [h]; decide), if_neg (by rw [h]; decide), if_neg (by rw [h]; decide), if_neg (by rw [h]; decide), if_neg (by rw [h]; decide), if_neg (by rw [h]; decide), if_neg (by rw [h]; decide), if_neg (by rw [h]; decide), if_neg (by rw [h]; decide), if_neg (by rw [h]; decide), if_neg (by rw [h]; decide), if_neg (by rw [h]; decide), if_pos h]
theorem pp_15 {u : st_T} {p0 : Int32} (h : u.2 5 (ix p0) = 15) : pd_perform u p0 = ((u.1 3) + (u.2 6 (ix p0)), st_si u 3 ((u.1 3) + (u.2 6 (ix p0)))) := by
  unfold pd_perform
  rw [if_neg (by rw [h]; decide), if_neg (by rw [h]; decide), if_neg (by rw [h]; decide), if_neg (by rw [h]; decide), if_neg (by rw [h]; decide), if_neg (by rw [h]; decide), if_neg (by rw [h]; decide), if_neg (by rw [h]; decide), if_neg (by rw [h]; decide), if_neg (by rw [h]; decide), if_neg (by rw [h]; decide), if_neg (by rw [h]; decide), if_neg (by rw [h]; decide), if_neg (by rw [h]; decide), if_neg (by rw [h]; decide), if_pos h]
theorem pw_0 {u : st_T} {p0 : Int32} (h : u.2 6 (ix p0) = 0) : pm_work u p0 = ((pm_close u).1, (pm_close u).2) := by
  unfold pm_work
  rw [if_pos h]
theorem pw_1 {u : st_T} {p0 : Int32} (h : u.2 6 (ix p0) = 1) : pm_work u p0 = ((pm_enter u p0).1, (pm_enter u p0).2) := by
  unfold pm_work
  rw [if_neg (by rw [h]; decide), if_pos h]
theorem pw_2 {u : st_T} {p0 : Int32} (h : u.2 6 (ix p0) = 2) : pm_work u p0 = (0, st_si (st_sa u 12 (ix (u.1 13)) p0) 13 ((u.1 13) + 1)) := by
  unfold pm_work
  rw [if_neg (by rw [h]; decide), if_neg (by rw [h]; decide), if_pos h]
theorem pw_3 {u : st_T} {p0 : Int32} (h : u.2 6 (ix p0) = 3) : pm_work u p0 = (0, (pm_monitor u p0 0).2) := by
  unfold pm_work
  rw [if_neg (by rw [h]; decide), if_neg (by rw [h]; decide), if_neg (by rw [h]; decide), if_pos h]
theorem pw_4 {u : st_T} {p0 : Int32} (h : u.2 6 (ix p0) = 4) : pm_work u p0 = (0, (pm_monitor u p0 0).2) := by
  unfold pm_work
  rw [if_neg (by rw [h]; decide), if_neg (by rw [h]; decide), if_neg (by rw [h]; decide), if_neg (by rw [h]; decide), if_pos h]
theorem pw_5 {u : st_T} {p0 : Int32} (h : u.2 6 (ix p0) = 5) : pm_work u p0 = if ((pm_monitor u p0 1).2).2 1 (ix ((pm_monitor u p0 1).1)) ≤ 0 then (0, (pm_monitor u p0 1).2) else (1, (pm_monitor u p0 1).2) := by
  unfold pm_work
  rw [if_neg (by rw [h]; decide), if_neg (by rw [h]; decide), if_neg (by rw [h]; decide), if_neg (by rw [h]; decide), if_neg (by rw [h]; decide), if_pos h]
theorem pw_6 {u : st_T} {p0 : Int32} (h : u.2 6 (ix p0) = 6) : pm_work u p0 = ((pm_pause u p0).1, (pm_pause u p0).2) := by
  unfold pm_work
  rw [if_neg (by rw [h]; decide), if_neg (by rw [h]; decide), if_neg (by rw [h]; decide), if_neg (by rw [h]; decide), if_neg (by rw [h]; decide), if_neg (by rw [h]; decide), if_pos h]
theorem pw_7 {u : st_T} {p0 : Int32} (h : u.2 6 (ix p0) = 7) : pm_work u p0 = ((pm_others u p0).1, (pm_others u p0).2) := by
  unfold pm_work
  rw [if_neg (by rw [h]; decide), if_neg (by rw [h]; decide), if_neg (by rw [h]; decide), if_neg (by rw [h]; decide), if_neg (by rw [h]; decide), if_neg (by rw [h]; decide), if_neg (by rw [h]; decide), if_pos (by rw [h]; decide)]
theorem pw_8 {u : st_T} {p0 : Int32} (h : u.2 6 (ix p0) = 8) : pm_work u p0 = ((pm_others u p0).1, (pm_others u p0).2) := by
  unfold pm_work
  rw [if_neg (by rw [h]; decide), if_neg (by rw [h]; decide), if_neg (by rw [h]; decide), if_neg (by rw [h]; decide), if_neg (by rw [h]; decide), if_neg (by rw [h]; decide), if_neg (by rw [h]; decide), if_pos (by rw [h]; decide)]
theorem pw_9 {u : st_T} {p0 : Int32} (h : u.2 6 (ix p0) = 9) : pm_work u p0 = ((pm_others u p0).1, (pm_others u p0).2) := by
  unfold pm_work
  rw [if_neg (by rw [h]; decide), if_neg (by rw [h]; decide), if_neg (by rw [h]; decide), if_neg (by rw [h]; decide), if_neg (by rw [h]; decide), if_neg (by rw [h]; decide), if_neg (by rw [h]; decide), if_pos (by rw [h]; decide)]
theorem pw_10 {u : st_T} {p0 : Int32} (h : u.2 6 (ix p0) = 10) : pm_work u p0 = ((pm_others u p0).1, (pm_others u p0).2) := by
  unfold pm_work
  rw [if_neg (by rw [h]; decide), if_neg (by rw [h]; decide), if_neg (by rw [h]; decide), if_neg (by rw [h]; decide), if_neg (by rw [h]; decide), if_neg (by rw [h]; decide), if_neg (by rw [h]; decide), if_pos (by rw [h]; decide)]
theorem pw_11 {u : st_T} {p0 : Int32} (h : u.2 6 (ix p0) = 11) : pm_work u p0 = ((pm_others u p0).1, (pm_others u p0).2) := by
  unfold pm_work
  rw [if_neg (by rw [h]; decide), if_neg (by rw [h]; decide), if_neg (by rw [h]; decide), if_neg (by rw [h]; decide), if_neg (by rw [h]; decide), if_neg (by rw [h]; decide), if_neg (by rw [h]; decide), if_pos (by rw [h]; decide)]
theorem pw_12 {u : st_T} {p0 : Int32} (h : u.2 6 (ix p0) = 12) : pm_work u p0 = ((pm_thread u p0).1, (pm_thread u p0).2) := by
  unfold pm_work
  rw [if_neg (by rw [h]; decide), if_neg (by rw [h]; decide), if_neg (by rw [h]; decide), if_neg (by rw [h]; decide), if_neg (by rw [h]; decide), if_neg (by rw [h]; decide), if_neg (by rw [h]; decide), if_neg (by rw [h]; decide), if_neg (by rw [h]; decide)]
theorem pw_13 {u : st_T} {p0 : Int32} (h : u.2 6 (ix p0) = 13) : pm_work u p0 = ((pm_thread u p0).1, (pm_thread u p0).2) := by
  unfold pm_work
  rw [if_neg (by rw [h]; decide), if_neg (by rw [h]; decide), if_neg (by rw [h]; decide), if_neg (by rw [h]; decide), if_neg (by rw [h]; decide), if_neg (by rw [h]; decide), if_neg (by rw [h]; decide), if_neg (by rw [h]; decide), if_neg (by rw [h]; decide)]
theorem pw_14 {u : st_T} {p0 : Int32} (h : u.2 6 (ix p0) = 14) : pm_work u p0 = ((pm_thread u p0).1, (pm_thread u p0).2) := by
  unfold pm_work
  rw [if_neg (by rw [h]; decide), if_neg (by rw [h]; decide), if_neg (by rw [h]; decide), if_neg (by rw [h]; decide), if_neg (by rw [h]; decide), if_neg (by rw [h]; decide), if_neg (by rw [h]; decide), if_neg (by rw [h]; decide), if_neg (by rw [h]; decide)]
theorem pw_15 {u : st_T} {p0 : Int32} (h : u.2 6 (ix p0) = 15) : pm_work u p0 = ((pm_others u p0).1, (pm_others u p0).2) := by
  unfold pm_work
  rw [if_neg (by rw [h]; decide), if_neg (by rw [h]; decide), if_neg (by rw [h]; decide), if_neg (by rw [h]; decide), if_neg (by rw [h]; decide), if_neg (by rw [h]; decide), if_neg (by rw [h]; decide), if_neg (by rw [h]; decide), if_pos (by rw [h]; decide)]
theorem po_7 {u : st_T} {p0 : Int32} (h : u.2 6 (ix p0) = 7) : pm_others u p0 = (0, st_si u 5 1) := by
  unfold pm_others
  rw [if_pos h]
theorem po_8 {u : st_T} {p0 : Int32} (h : u.2 6 (ix p0) = 8) : pm_others u p0 = if u.1 5 = 0 then (0, st_si u 5 0) else (1, st_si u 5 0) := by
  unfold pm_others
  rw [if_neg (by rw [h]; decide), if_pos h]
theorem po_10 {u : st_T} {p0 : Int32} (h : u.2 6 (ix p0) = 10) : pm_others u p0 = if 0 ≤ u.2 7 (ix p0) then (0, pm_interrupted u) else (0, st_si u 14 3) := by
  unfold pm_others
  rw [if_neg (by rw [h]; decide), if_neg (by rw [h]; decide), if_pos h]
theorem po_11 {u : st_T} {p0 : Int32} (h : u.2 6 (ix p0) = 11) : pm_others u p0 = (0, st_si u 14 (100 + (pm_modulo (u.2 7 (ix p0)) 100))) := by
  unfold pm_others
  rw [if_neg (by rw [h]; decide), if_neg (by rw [h]; decide), if_neg (by rw [h]; decide), if_pos h]
theorem po_15 {u : st_T} {p0 : Int32} (h : u.2 6 (ix p0) = 15) : pm_others u p0 = ((u.1 4) + (u.2 7 (ix p0)), st_si u 4 ((u.1 4) + (u.2 7 (ix p0)))) := by
  unfold pm_others
  rw [if_neg (by rw [h]; decide), if_neg (by rw [h]; decide), if_neg (by rw [h]; decide), if_neg (by rw [h]; decide), if_pos h]
theorem po_9 {u : st_T} {p0 : Int32} (h : u.2 6 (ix p0) = 9) : pm_others u p0 = if u.1 5 = 0 then (0, u) else (1, u) := by
  unfold pm_others
  rw [if_neg (by rw [h]; decide), if_neg (by rw [h]; decide), if_neg (by rw [h]; decide), if_neg (by rw [h]; decide), if_neg (by rw [h]; decide), if_pos h]
theorem sk_st {op : Nat → Int32} {i : Nat} {x : Int32} (h : op i = x) (h0 : ¬ x = 0) (h1 : ¬ x = 1) (h2 : ¬ x = 2) : sk_ op (i + 1) = sk_ op i := by
  rw [sk_s, if_neg (by rw [h]; exact fun z => z.elim h1 h2), if_neg (by rw [h]; exact h0)]
theorem op_u {g u v : st_T} {L : List Nat} {ra : Int32} {i : Nat} (h : rm_ g u v L ra) (hi : i < 24) : u.2 5 (ix (nI i)) = g.2 5 i := by rw [h.1.1.2.1, ix_n (by omega)]
theorem op_v {g u v : st_T} {L : List Nat} {ra : Int32} {i : Nat} (h : rm_ g u v L ra) (hi : i < 24) : v.2 6 (ix (nI i)) = g.2 5 i := by rw [h.1.2.2.1, ix_n (by omega)]
theorem ar_u {g u v : st_T} {L : List Nat} {ra : Int32} {i : Nat} (h : rm_ g u v L ra) (hi : i < 24) : u.2 6 (ix (nI i)) = g.2 6 i := by rw [h.1.1.2.2.1, ix_n (by omega)]
theorem ar_v {g u v : st_T} {L : List Nat} {ra : Int32} {i : Nat} (h : rm_ g u v L ra) (hi : i < 24) : v.2 7 (ix (nI i)) = g.2 6 i := by rw [h.1.2.2.2.1, ix_n (by omega)]
theorem ie_eq {g u : st_T} {b : Nat} (h5 : u.2 5 = g.2 5) (hb : b < 24) : pd_isEnter u (nI b) = if g.2 5 b = 1 then 1 else 0 := by
  unfold pd_isEnter
  rw [if_neg (nI_m1 (by omega)), h5, ix_n (by omega)]
theorem me_eq {g u v : st_T} {L : List Nat} {ra : Int32} {i : Nat} (h : rm_ g u v L ra) (hi : i < 24) : pm_monitor v (nI i) 1 = (g.2 0 (hd_ (g.2 6) i), if g.2 0 (hd_ (g.2 6) i) = 0 then st_si v 14 1 else v) := by
  unfold pm_monitor
  rw [lo_eq h.1.2.1 h.1.2.2.2.1 hi, if_neg (by decide : ¬ (1 : Int32) = 0)]
  split <;> rfl
theorem mn_eq {g u v : st_T} {L : List Nat} {ra : Int32} {i : Nat} (h : rm_ g u v L ra) (hi : i < 24) : (pm_monitor v (nI i) 0).2 = if g.2 0 (hd_ (g.2 6) i) = 0 then st_si v 14 1 else if v.2 1 (ix (g.2 0 (hd_ (g.2 6) i))) = 0 then st_si v 14 2 else v := by
  unfold pm_monitor
  rw [lo_eq h.1.2.1 h.1.2.2.2.1 hi, if_pos (rfl : (0 : Int32) = 0)]
  split
  · rfl
  · split <;> rfl
theorem hl_eq {g u v : st_T} {L : List Nat} {ra : Int32} (h : rm_ g u v L ra) {x : Nat} (hx : x < 5) (h0 : ¬ g.2 0 x = 0) : u.2 14 (ix (pd_leastHandle u (nI x))) = v.2 1 (ix (g.2 0 x)) := by
  have := (le_ok (g.2 0) x).1
  rw [least_le u hx, h.1.1.1, ix_n (by omega)]
  exact h.2.2.1.2.2.2.2.1 x hx h0
theorem wk_0 {g u v : st_T} {n i : Nat} {ra : Int32} (hg : lr_ g) (hp : pv_ g n) (hi : i < n) (h : rm_ g u v (sk_ (g.2 5) i) ra) (hu : u.1 15 = 0) (hv : v.1 14 = 0) (ho : g.2 5 i = 0) : ow_ g i ra (pd_perform u (nI i)) (pm_work v (nI i)) := by
  have hi2 : i < 24 := by have := hp.2.1; omega
  have eu := (op_u h hi2).trans ho
  have ev := (op_v h hi2).trans ho
  have au := ar_u h hi2
  have av := ar_v h hi2
  rw [pp_0 eu, pw_0 ev]
  have hne := hp.2.2.2.1 i hi ho
  cases hs : sk_ (g.2 5) i with
  | nil => exact absurd hs hne
  | cons b r =>
    have hb := sk_mem i b (by rw [hs]; exact List.mem_cons_self)
    have hb2 : b < 24 := by omega
    have ea : u.2 7 (ix (nI i)) = nI b := by rw [h.1.1.2.2.2.1, ix_n (by omega), hp.2.2.2.2.1 i hi, hs]; rfl
    have hlen := hp.2.2.1 i (by omega)
    rw [hs] at h hlen
    rw [List.length_cons] at hlen
    have ec := cl_eq (g := g) (v := v) (b := b) (r := r) h.1.2.1 h.1.2.2.1 h.1.2.2.2.1 hb2 (by have := h.2.2.1.1; rw [List.length_cons] at this; exact this) (by omega) h.2.2.1.2.1.1
    have e1 : sk_ (g.2 5) (i + 1) = r := by rw [sk_s, if_neg (by rw [ho]; decide), if_pos ho, hs]; rfl
    left
    rw [e1, ea]
    unfold pd_endBlock
    rw [ie_eq h.1.1.2.1 hb2, ec]
    by_cases h1 : g.2 5 b = 1
    · rw [if_pos h1, if_neg (by decide : ¬ (1 : Int32) = 0), if_neg (by rw [h1]; decide : ¬ g.2 5 b = 2), gb_eq h.1.1.1 h.1.1.2.2.1 hb2]
      obtain ⟨q1, q2⟩ := rm_pop1 hg h1 h
      exact ⟨hu, hv, by rw [q1], q2⟩
    · rw [if_neg h1, if_pos rfl, if_pos (hb.2.resolve_left h1)]
      exact ⟨hu, hv, rfl, rm_pop2 h1 h⟩
theorem wk_1 {g u v : st_T} {n i : Nat} {ra : Int32} (hg : lr_ g) (hp : pv_ g n) (hi : i < n) (h : rm_ g u v (sk_ (g.2 5) i) ra) (hu : u.1 15 = 0) (hv : v.1 14 = 0) (ho : g.2 5 i = 1) : ow_ g i ra (pd_perform u (nI i)) (pm_work v (nI i)) := by
  have hi2 : i < 24 := by have := hp.2.1; omega
  have eu := (op_u h hi2).trans ho
  have ev := (op_v h hi2).trans ho
  have au := ar_u h hi2
  have av := ar_v h hi2
  rw [pp_1 eu, pw_1 ev]
  have hh := hd_lt (g.2 6) i
  have hlen := hp.2.2.1 i (by omega)
  have e1 : sk_ (g.2 5) (i + 1) = i :: sk_ (g.2 5) i := by rw [sk_s, if_pos (Or.inl ho)]
  have hle := (le_ok (g.2 0) (hd_ (g.2 6) i)).1
  rw [au, hd_fm]
  unfold pd_enter pm_enter
  rw [me_eq h hi2, h.1.1.1, ix_n (by omega), least_le u hh, h.1.1.1, ix_n (by omega)]
  by_cases hl : g.2 0 (hd_ (g.2 6) i) = 0
  · rw [if_pos hl, if_pos hl, if_neg (by rw [rs_1, if_pos rfl]; decide)]
    right
    exact ⟨1, by decide, rfl, rfl, by rw [ho]; decide, rm_code 1 1 h⟩
  · rw [if_neg hl, if_neg hl, if_pos hv]
    left
    refine ⟨hu, hv, ?_, by rw [e1]; exact rm_push1 hg hi2 hlen ho hl h⟩
    rw [rs_4, if_pos rfl, rs_4, if_pos rfl, up_s, up_s]
    have := h.2.2.1.2.2.2.2.1 _ hh hl
    rw [this]
theorem wk_2 {g u v : st_T} {n i : Nat} {ra : Int32} (hg : lr_ g) (hp : pv_ g n) (hi : i < n) (h : rm_ g u v (sk_ (g.2 5) i) ra) (hu : u.1 15 = 0) (hv : v.1 14 = 0) (ho : g.2 5 i = 2) : ow_ g i ra (pd_perform u (nI i)) (pm_work v (nI i)) := by
  have hi2 : i < 24 := by have := hp.2.1; omega
  have eu := (op_u h hi2).trans ho
  have ev := (op_v h hi2).trans ho
  have au := ar_u h hi2
  have av := ar_v h hi2
  rw [pp_2 eu, pw_2 ev]
  have hlen := hp.2.2.1 i (by omega)
  have e1 : sk_ (g.2 5) (i + 1) = i :: sk_ (g.2 5) i := by rw [sk_s, if_pos (Or.inr ho)]
  left
  exact ⟨hu, hv, rfl, by rw [e1]; exact rm_push2 hi2 hlen (by rw [ho]; decide) h⟩
theorem wk_3 {g u v : st_T} {n i : Nat} {ra : Int32} (hg : lr_ g) (hp : pv_ g n) (hi : i < n) (h : rm_ g u v (sk_ (g.2 5) i) ra) (hu : u.1 15 = 0) (hv : v.1 14 = 0) (ho : g.2 5 i = 3) : ow_ g i ra (pd_perform u (nI i)) (pm_work v (nI i)) := by
  have hi2 : i < 24 := by have := hp.2.1; omega
  have eu := (op_u h hi2).trans ho
  have ev := (op_v h hi2).trans ho
  have au := ar_u h hi2
  have av := ar_v h hi2
  rw [pp_3 eu, pw_3 ev]
  have hh := hd_lt (g.2 6) i
  have e1 := sk_st ho (by decide) (by decide) (by decide)
  rw [au, hd_fm, mn_eq h hi2]
  unfold pd_notifyWaiting
  rw [h.1.1.1, ix_n (by omega)]
  by_cases hl : g.2 0 (hd_ (g.2 6) i) = 0
  · rw [if_pos hl, if_pos hl]
    right
    exact ⟨1, by decide, rfl, rfl, by rw [ho]; decide, rm_code 1 1 h⟩
  · rw [if_neg hl, if_neg hl, hl_eq h hh hl]
    by_cases h2 : v.2 1 (ix (g.2 0 (hd_ (g.2 6) i))) = 0
    · rw [if_pos h2, if_pos h2]
      right
      exact ⟨2, by decide, rfl, rfl, by rw [ho]; decide, rm_code 2 2 h⟩
    · rw [if_neg h2, if_neg h2]
      left
      exact ⟨hu, hv, rfl, by rw [e1]; exact h⟩
theorem wk_4 {g u v : st_T} {n i : Nat} {ra : Int32} (hg : lr_ g) (hp : pv_ g n) (hi : i < n) (h : rm_ g u v (sk_ (g.2 5) i) ra) (hu : u.1 15 = 0) (hv : v.1 14 = 0) (ho : g.2 5 i = 4) : ow_ g i ra (pd_perform u (nI i)) (pm_work v (nI i)) := by
  have hi2 : i < 24 := by have := hp.2.1; omega
  have eu := (op_u h hi2).trans ho
  have ev := (op_v h hi2).trans ho
  have au := ar_u h hi2
  have av := ar_v h hi2
  rw [pp_4 eu, pw_4 ev]
  have hh := hd_lt (g.2 6) i
  have e1 := sk_st ho (by decide) (by decide) (by decide)
  rw [au, hd_fm, mn_eq h hi2]
  unfold pd_notifyWaiting
  rw [h.1.1.1, ix_n (by omega)]
  by_cases hl : g.2 0 (hd_ (g.2 6) i) = 0
  · rw [if_pos hl, if_pos hl]
    right
    exact ⟨1, by decide, rfl, rfl, by rw [ho]; decide, rm_code 1 1 h⟩
  · rw [if_neg hl, if_neg hl, hl_eq h hh hl]
    by_cases h2 : v.2 1 (ix (g.2 0 (hd_ (g.2 6) i))) = 0
    · rw [if_pos h2, if_pos h2]
      right
      exact ⟨2, by decide, rfl, rfl, by rw [ho]; decide, rm_code 2 2 h⟩
    · rw [if_neg h2, if_neg h2]
      left
      exact ⟨hu, hv, rfl, by rw [e1]; exact h⟩
theorem wk_5 {g u v : st_T} {n i : Nat} {ra : Int32} (hg : lr_ g) (hp : pv_ g n) (hi : i < n) (h : rm_ g u v (sk_ (g.2 5) i) ra) (hu : u.1 15 = 0) (hv : v.1 14 = 0) (ho : g.2 5 i = 5) : ow_ g i ra (pd_perform u (nI i)) (pm_work v (nI i)) := by
  have hi2 : i < 24 := by have := hp.2.1; omega
  have eu := (op_u h hi2).trans ho
  have ev := (op_v h hi2).trans ho
  have au := ar_u h hi2
  have av := ar_v h hi2
  rw [pp_5 eu, pw_5 ev]
  have hh := hd_lt (g.2 6) i
  have e1 := sk_st ho (by decide) (by decide) (by decide)
  rw [au, hd_fm, me_eq h hi2]
  unfold pd_holdsLock
  rw [h.1.1.1, ix_n (by omega)]
  by_cases hl : g.2 0 (hd_ (g.2 6) i) = 0
  · rw [if_pos hl]
    right
    refine ⟨1, by decide, rfl, ?_, by rw [ho]; decide, ?_⟩
    · rw [if_pos hl]
      split <;> rfl
    · rw [if_pos hl]
      split <;> exact rm_code 1 1 h
  · rw [if_neg hl, if_neg hl, hl_eq h hh hl]
    left
    by_cases h2 : v.2 1 (ix (g.2 0 (hd_ (g.2 6) i))) ≤ 0
    · rw [if_pos h2, if_pos h2]
      exact ⟨hu, hv, by unfold pd_asNumber; rw [if_pos rfl], by rw [e1]; exact h⟩
    · rw [if_neg h2, if_neg h2]
      exact ⟨hu, hv, by unfold pd_asNumber; rw [if_neg (by decide)], by rw [e1]; exact h⟩
theorem wk_6 {g u v : st_T} {n i : Nat} {ra : Int32} (hg : lr_ g) (hp : pv_ g n) (hi : i < n) (h : rm_ g u v (sk_ (g.2 5) i) ra) (hu : u.1 15 = 0) (hv : v.1 14 = 0) (ho : g.2 5 i = 6) : ow_ g i ra (pd_perform u (nI i)) (pm_work v (nI i)) := by
  have hi2 : i < 24 := by have := hp.2.1; omega
  have eu := (op_u h hi2).trans ho
  have ev := (op_v h hi2).trans ho
  have au := ar_u h hi2
  have av := ar_v h hi2
  rw [pp_6 eu, pw_6 ev]
  have e1 := sk_st ho (by decide) (by decide) (by decide)
  unfold pm_pause
  rw [au, av]
  generalize ha : g.2 6 i = a
  unfold pd_awaitNotice
  rw [h.1.1.1, h.1.2.1]
  by_cases hm : a = -2147483648
  · rw [if_pos hm, if_pos hm, show (0 : Int32) - 0 / 5 * 5 = 0 from by decide]
    by_cases hl : g.2 0 (ix 0) = 0
    · rw [if_pos hl, if_pos hl]
      right
      exact ⟨1, by decide, rfl, rfl, by rw [ho]; decide, rm_code 1 1 h⟩
    · rw [if_neg hl, if_neg hl]
      right
      exact ⟨3, by decide, rfl, rfl, by rw [ho]; decide, rm_code 3 3 h⟩
  · rw [if_neg hm, if_neg hm]
    have hin := wt_in hm
    by_cases h0 : 0 ≤ a
    · rw [if_pos h0] at hin
      rw [if_pos h0, if_pos h0, if_pos h0]
      obtain ⟨q1, q2⟩ := in_n hin (by decide)
      by_cases hl : g.2 0 (ix (a - a / 5 * 5)) = 0
      · rw [if_pos hl, if_pos hl]
        right
        exact ⟨1, by decide, rfl, rfl, by rw [ho]; decide, rm_code 1 1 h⟩
      · rw [if_neg hl, if_neg hl]
        have he := hl_eq h q2 hl
        rw [← q1] at he
        rw [he]
        by_cases h2 : v.2 1 (ix (g.2 0 (ix (a - a / 5 * 5)))) = 0
        · rw [if_pos h2, if_pos h2]
          right
          exact ⟨2, by decide, rfl, rfl, by rw [ho]; decide, rm_code 2 2 h⟩
        · rw [if_neg h2, if_neg h2]
          have e4 : u.1 4 = v.1 5 := h.2.1.2.2.1
          unfold pd_takeFlag pm_interrupted
          by_cases h4 : v.1 5 = 0
          · rw [if_pos (e4.trans h4), if_pos h4]
            left
            exact ⟨hu, hv, rfl, by rw [e1]; exact rm_flag (Or.inl rfl) h⟩
          · rw [if_neg (fun z => h4 (e4.symm.trans z)), if_neg h4]
            right
            exact ⟨4, by decide, rfl, rfl, by rw [ho]; decide, rm_code1 4 (rm_flag (Or.inl rfl) (rm_code2 4 h))⟩
    · rw [if_neg h0, if_neg h0, if_neg h0, Int32.zero_sub]
      by_cases hl : g.2 0 (ix (-a - -a / 5 * 5)) = 0
      · rw [if_pos hl, if_pos hl]
        right
        exact ⟨1, by decide, rfl, rfl, by rw [ho]; decide, rm_code 1 1 h⟩
      · rw [if_neg hl, if_neg hl]
        right
        exact ⟨3, by decide, rfl, rfl, by rw [ho]; decide, rm_code 3 3 h⟩
theorem wk_7 {g u v : st_T} {n i : Nat} {ra : Int32} (hg : lr_ g) (hp : pv_ g n) (hi : i < n) (h : rm_ g u v (sk_ (g.2 5) i) ra) (hu : u.1 15 = 0) (hv : v.1 14 = 0) (ho : g.2 5 i = 7) : ow_ g i ra (pd_perform u (nI i)) (pm_work v (nI i)) := by
  have hi2 : i < 24 := by have := hp.2.1; omega
  have eu := (op_u h hi2).trans ho
  have ev := (op_v h hi2).trans ho
  have au := ar_u h hi2
  have av := ar_v h hi2
  rw [pp_7 eu, pw_7 ev]
  have e1 := sk_st ho (by decide) (by decide) (by decide)
  rw [po_7 ev]
  left
  exact ⟨hu, hv, rfl, by rw [e1]; exact rm_flag (Or.inr rfl) h⟩
theorem wk_8 {g u v : st_T} {n i : Nat} {ra : Int32} (hg : lr_ g) (hp : pv_ g n) (hi : i < n) (h : rm_ g u v (sk_ (g.2 5) i) ra) (hu : u.1 15 = 0) (hv : v.1 14 = 0) (ho : g.2 5 i = 8) : ow_ g i ra (pd_perform u (nI i)) (pm_work v (nI i)) := by
  have hi2 : i < 24 := by have := hp.2.1; omega
  have eu := (op_u h hi2).trans ho
  have ev := (op_v h hi2).trans ho
  have au := ar_u h hi2
  have av := ar_v h hi2
  rw [pp_8 eu, pw_8 ev]
  have e1 := sk_st ho (by decide) (by decide) (by decide)
  have e4 : u.1 4 = v.1 5 := h.2.1.2.2.1
  rw [po_8 ev]
  left
  unfold pd_takeFlag pd_asNumber
  by_cases h4 : v.1 5 = 0
  · rw [if_pos (e4.trans h4), if_pos h4]
    exact ⟨hu, hv, rfl, by rw [e1]; exact rm_flag (Or.inl rfl) h⟩
  · rw [if_neg (fun z => h4 (e4.symm.trans z)), if_neg h4]
    exact ⟨hu, hv, rfl, by rw [e1]; exact rm_flag (Or.inl rfl) h⟩
theorem wk_9 {g u v : st_T} {n i : Nat} {ra : Int32} (hg : lr_ g) (hp : pv_ g n) (hi : i < n) (h : rm_ g u v (sk_ (g.2 5) i) ra) (hu : u.1 15 = 0) (hv : v.1 14 = 0) (ho : g.2 5 i = 9) : ow_ g i ra (pd_perform u (nI i)) (pm_work v (nI i)) := by
  have hi2 : i < 24 := by have := hp.2.1; omega
  have eu := (op_u h hi2).trans ho
  have ev := (op_v h hi2).trans ho
  have au := ar_u h hi2
  have av := ar_v h hi2
  rw [pp_9 eu, pw_9 ev]
  have e1 := sk_st ho (by decide) (by decide) (by decide)
  have e4 : u.1 4 = v.1 5 := h.2.1.2.2.1
  rw [po_9 ev]
  left
  unfold pd_asNumber
  by_cases h4 : v.1 5 = 0
  · rw [if_pos (e4.trans h4), if_pos h4]
    exact ⟨hu, hv, rfl, by rw [e1]; exact h⟩
  · rw [if_neg (fun z => h4 (e4.symm.trans z)), if_neg h4]
    exact ⟨hu, hv, rfl, by rw [e1]; exact h⟩
theorem wk_10 {g u v : st_T} {n i : Nat} {ra : Int32} (hg : lr_ g) (hp : pv_ g n) (hi : i < n) (h : rm_ g u v (sk_ (g.2 5) i) ra) (hu : u.1 15 = 0) (hv : v.1 14 = 0) (ho : g.2 5 i = 10) : ow_ g i ra (pd_perform u (nI i)) (pm_work v (nI i)) := by
  have hi2 : i < 24 := by have := hp.2.1; omega
  have eu := (op_u h hi2).trans ho
  have ev := (op_v h hi2).trans ho
  have au := ar_u h hi2
  have av := ar_v h hi2
  rw [pp_10 eu, pw_10 ev]
  have e1 := sk_st ho (by decide) (by decide) (by decide)
  have e4 : u.1 4 = v.1 5 := h.2.1.2.2.1
  rw [po_10 ev, au, av]
  unfold pd_sleep
  by_cases h0 : 0 ≤ g.2 6 i
  · rw [if_pos h0, if_pos h0]
    unfold pd_takeFlag pm_interrupted
    by_cases h4 : v.1 5 = 0
    · rw [if_pos (e4.trans h4), if_pos h4]
      left
      exact ⟨hu, hv, rfl, by rw [e1]; exact rm_flag (Or.inl rfl) h⟩
    · rw [if_neg (fun z => h4 (e4.symm.trans z)), if_neg h4]
      right
      exact ⟨4, by decide, rfl, rfl, by rw [ho]; decide, rm_code1 4 (rm_flag (Or.inl rfl) (rm_code2 4 h))⟩
  · rw [if_neg h0, if_neg h0]
    right
    exact ⟨3, by decide, rfl, rfl, by rw [ho]; decide, rm_code 3 3 h⟩
theorem wk_11 {g u v : st_T} {n i : Nat} {ra : Int32} (hg : lr_ g) (hp : pv_ g n) (hi : i < n) (h : rm_ g u v (sk_ (g.2 5) i) ra) (hu : u.1 15 = 0) (hv : v.1 14 = 0) (ho : g.2 5 i = 11) : ow_ g i ra (pd_perform u (nI i)) (pm_work v (nI i)) := by
  have hi2 : i < 24 := by have := hp.2.1; omega
  have eu := (op_u h hi2).trans ho
  have ev := (op_v h hi2).trans ho
  have au := ar_u h hi2
  have av := ar_v h hi2
  rw [pp_11 eu, pw_11 ev]
  rw [po_11 ev, au, av, fm_mo (by decide) (by decide)]
  right
  refine ⟨100 + pm_modulo (g.2 6 i) 100, ?_, rfl, rfl, by rw [ho]; decide, rm_code _ _ h⟩
  have q := vp_in_iff.mp (mo_in (a := g.2 6 i) (m := 100) (n := 100) (by decide) (by decide) (by decide))
  intro z
  have := congrArg Int32.toInt z
  rw [Jvm.Kit.i32_add (by rw [show (100 : Int32).toInt = 100 by decide]; omega) (by rw [show (100 : Int32).toInt = 100 by decide]; omega), show (100 : Int32).toInt = 100 by decide, Int32.toInt_zero] at this
  omega
theorem wk_12 {g u v : st_T} {n i : Nat} {ra : Int32} (hg : lr_ g) (hp : pv_ g n) (hi : i < n) (h : rm_ g u v (sk_ (g.2 5) i) ra) (hu : u.1 15 = 0) (hv : v.1 14 = 0) (ho : g.2 5 i = 12) : ow_ g i ra (pd_perform u (nI i)) (pm_work v (nI i)) := by
  have hi2 : i < 24 := by have := hp.2.1; omega
  have eu := (op_u h hi2).trans ho
  have ev := (op_v h hi2).trans ho
  have au := ar_u h hi2
  have av := ar_v h hi2
  rw [pp_12 eu, pw_12 ev]
  have e1 := sk_st ho (by decide) (by decide) (by decide)
  have e2 : u.2 2 = v.2 3 := h.2.1.1
  have e3 : u.1 3 = v.1 4 := h.2.1.2.1
  unfold pd_start pm_thread
  rw [au, av, fm_mo (by decide) (by decide), if_pos (by rw [ev]; decide : v.2 6 (ix (nI i)) ≤ 12), e2]
  by_cases h0 : v.2 3 (ix (pm_modulo (g.2 6 i) 4)) = 0
  · rw [if_pos h0, if_pos h0]
    left
    refine ⟨hu, hv, rfl, ?_⟩
    rw [e1, e3]
    exact rm_tot _ (rm_end _ _ h)
  · rw [if_neg h0, if_neg h0]
    right
    exact ⟨5, by decide, rfl, rfl, by rw [ho]; decide, rm_code 5 5 h⟩
theorem wk_13 {g u v : st_T} {n i : Nat} {ra : Int32} (hg : lr_ g) (hp : pv_ g n) (hi : i < n) (h : rm_ g u v (sk_ (g.2 5) i) ra) (hu : u.1 15 = 0) (hv : v.1 14 = 0) (ho : g.2 5 i = 13) : ow_ g i ra (pd_perform u (nI i)) (pm_work v (nI i)) := by
  have hi2 : i < 24 := by have := hp.2.1; omega
  have eu := (op_u h hi2).trans ho
  have ev := (op_v h hi2).trans ho
  have au := ar_u h hi2
  have av := ar_v h hi2
  rw [pp_13 eu, pw_13 ev]
  have e1 := sk_st ho (by decide) (by decide) (by decide)
  have e2 : u.2 2 = v.2 3 := h.2.1.1
  unfold pm_thread pd_asNumber
  rw [au, av, fm_mo (by decide) (by decide), if_neg (by rw [ev]; decide : ¬ v.2 6 (ix (nI i)) ≤ 12), e2]
  left
  by_cases h0 : v.2 3 (ix (pm_modulo (g.2 6 i) 4)) = 0
  · rw [if_pos h0, if_pos h0]
    exact ⟨hu, hv, rfl, by rw [e1]; exact h⟩
  · rw [if_neg h0, if_neg h0]
    exact ⟨hu, hv, rfl, by rw [e1]; exact h⟩
theorem wk_14 {g u v : st_T} {n i : Nat} {ra : Int32} (hg : lr_ g) (hp : pv_ g n) (hi : i < n) (h : rm_ g u v (sk_ (g.2 5) i) ra) (hu : u.1 15 = 0) (hv : v.1 14 = 0) (ho : g.2 5 i = 14) : ow_ g i ra (pd_perform u (nI i)) (pm_work v (nI i)) := by
  have hi2 : i < 24 := by have := hp.2.1; omega
  have eu := (op_u h hi2).trans ho
  have ev := (op_v h hi2).trans ho
  have au := ar_u h hi2
  have av := ar_v h hi2
  rw [pp_14 eu, pw_14 ev]
  have e1 := sk_st ho (by decide) (by decide) (by decide)
  have e2 : u.2 2 = v.2 3 := h.2.1.1
  unfold pm_thread pd_asNumber
  rw [au, av, fm_mo (by decide) (by decide), if_neg (by rw [ev]; decide : ¬ v.2 6 (ix (nI i)) ≤ 12), e2]
  left
  by_cases h0 : v.2 3 (ix (pm_modulo (g.2 6 i) 4)) = 0
  · rw [if_pos h0, if_pos h0]
    exact ⟨hu, hv, rfl, by rw [e1]; exact h⟩
  · rw [if_neg h0, if_neg h0]
    exact ⟨hu, hv, rfl, by rw [e1]; exact h⟩
theorem wk_15 {g u v : st_T} {n i : Nat} {ra : Int32} (hg : lr_ g) (hp : pv_ g n) (hi : i < n) (h : rm_ g u v (sk_ (g.2 5) i) ra) (hu : u.1 15 = 0) (hv : v.1 14 = 0) (ho : g.2 5 i = 15) : ow_ g i ra (pd_perform u (nI i)) (pm_work v (nI i)) := by
  have hi2 : i < 24 := by have := hp.2.1; omega
  have eu := (op_u h hi2).trans ho
  have ev := (op_v h hi2).trans ho
  have au := ar_u h hi2
  have av := ar_v h hi2
  rw [pp_15 eu, pw_15 ev]
  have e1 := sk_st ho (by decide) (by decide) (by decide)
  have e3 : u.1 3 = v.1 4 := h.2.1.2.1
  rw [po_15 ev, au, av]
  left
  rw [e3]
  exact ⟨hu, hv, rfl, by rw [e1]; exact rm_tot _ h⟩
theorem wk_all {g u v : st_T} {n i : Nat} {ra : Int32} (hg : lr_ g) (hp : pv_ g n) (hi : i < n) (h : rm_ g u v (sk_ (g.2 5) i) ra) (hu : u.1 15 = 0) (hv : v.1 14 = 0) : ow_ g i ra (pd_perform u (nI i)) (pm_work v (nI i)) := by
  obtain ⟨k, hk, ho⟩ := vp_in_of (hp.2.2.2.2.2.2 i hi) (by decide)
  match k, hk, ho with
  | 0, _, ho => exact wk_0 hg hp hi h hu hv (ho.trans (by decide))
  | 1, _, ho => exact wk_1 hg hp hi h hu hv (ho.trans (by decide))
  | 2, _, ho => exact wk_2 hg hp hi h hu hv (ho.trans (by decide))
  | 3, _, ho => exact wk_3 hg hp hi h hu hv (ho.trans (by decide))
  | 4, _, ho => exact wk_4 hg hp hi h hu hv (ho.trans (by decide))
  | 5, _, ho => exact wk_5 hg hp hi h hu hv (ho.trans (by decide))
  | 6, _, ho => exact wk_6 hg hp hi h hu hv (ho.trans (by decide))
  | 7, _, ho => exact wk_7 hg hp hi h hu hv (ho.trans (by decide))
  | 8, _, ho => exact wk_8 hg hp hi h hu hv (ho.trans (by decide))
  | 9, _, ho => exact wk_9 hg hp hi h hu hv (ho.trans (by decide))
  | 10, _, ho => exact wk_10 hg hp hi h hu hv (ho.trans (by decide))
  | 11, _, ho => exact wk_11 hg hp hi h hu hv (ho.trans (by decide))
  | 12, _, ho => exact wk_12 hg hp hi h hu hv (ho.trans (by decide))
  | 13, _, ho => exact wk_13 hg hp hi h hu hv (ho.trans (by decide))
  | 14, _, ho => exact wk_14 hg hp hi h hu hv (ho.trans (by decide))
  | 15, _, ho => exact wk_15 hg hp hi h hu hv (ho.trans (by decide))
  | k + 16, hk, _ => exact absurd hk (by omega)
