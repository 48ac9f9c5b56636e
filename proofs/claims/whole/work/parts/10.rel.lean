/-! within a run: the class's state u and the reference's v, over the state g at its start, with the open blocks L -/
def rs_ (g u v : st_T) : Prop :=
  (u.2 0 = g.2 0 ∧ u.2 5 = g.2 5 ∧ u.2 6 = g.2 6 ∧ u.2 7 = g.2 7 ∧ u.2 8 = g.2 8 ∧ u.1 9 = g.1 9 ∧ u.1 10 = g.1 10 ∧ u.1 11 = g.1 11 ∧ u.1 1 = g.1 1) ∧ v.2 0 = g.2 0 ∧ v.2 6 = g.2 5 ∧ v.2 7 = g.2 6 ∧ v.1 8 = g.1 9 ∧ v.1 9 = g.1 10 ∧ v.1 2 = g.1 1
def rd_ (u v : st_T) : Prop := u.2 2 = v.2 3 ∧ u.1 3 = v.1 4 ∧ u.1 4 = v.1 5 ∧ (u.1 4 = 0 ∨ u.1 4 = 1) ∧ u.2 12 = v.2 10 ∧ u.1 13 = v.1 11
def rh_ (g u v : st_T) (L : List Nat) : Prop := v.1 13 = nI L.length ∧ bk_ (v.2 12) L ∧ (∀ j, j < 8 → vp_in (v.2 12 j) 24) ∧ (∀ l, v.2 1 l = nI (cn_ (g.2 0) (g.2 5) (g.2 6) l L)) ∧ (∀ h, h < 5 → ¬ g.2 0 h = 0 → u.2 14 (le_ (g.2 0) h) = v.2 1 (ix (g.2 0 h))) ∧ ∀ b, b ∈ L → g.2 5 b = 1 → ¬ g.2 0 (hd_ (g.2 6) b) = 0
def rm_ (g u v : st_T) (L : List Nat) (ra : Int32) : Prop := rs_ g u v ∧ rd_ u v ∧ rh_ g u v L ∧ u.1 16 = ra
/-- the locks are numbers in range -/
def lr_ (g : st_T) : Prop := ∀ j, j < 5 → vp_in (g.2 0 j) 520
theorem lr_inj {g : st_T} (h : lr_ g) {a b : Nat} (ha : a < 5) (hb : b < 5) (e : ix (g.2 0 a) = ix (g.2 0 b)) : g.2 0 a = g.2 0 b := by
  rw [(in_n (h a ha) (by decide)).1, (in_n (h b hb) (by decide)).1, e]
theorem rm_code {g u v : st_T} {L : List Nat} {ra : Int32} (a b : Int32) (h : rm_ g u v L ra) : rm_ g (st_si u 15 a) (st_si v 14 b) L ra := h
theorem rm_code1 {g u v : st_T} {L : List Nat} {ra : Int32} (a : Int32) (h : rm_ g u v L ra) : rm_ g (st_si u 15 a) v L ra := h
theorem rm_code2 {g u v : st_T} {L : List Nat} {ra : Int32} (b : Int32) (h : rm_ g u v L ra) : rm_ g u (st_si v 14 b) L ra := h
theorem rm_flag {g u v : st_T} {L : List Nat} {ra : Int32} {x : Int32} (hx : x = 0 ∨ x = 1) (h : rm_ g u v L ra) : rm_ g (st_si u 4 x) (st_si v 5 x) L ra := by
  obtain ⟨hs, ⟨d2, d3, d4, d5, d12, d13⟩, hh, hr⟩ := h
  exact ⟨hs, ⟨d2, d3, rfl, hx, d12, d13⟩, hh, hr⟩
theorem rm_tot {g u v : st_T} {L : List Nat} {ra : Int32} (x : Int32) (h : rm_ g u v L ra) : rm_ g (st_si u 3 x) (st_si v 4 x) L ra := by
  obtain ⟨hs, ⟨d2, d3, d4, d5, d12, d13⟩, hh, hr⟩ := h
  exact ⟨hs, ⟨d2, rfl, d4, d5, d12, d13⟩, hh, hr⟩
theorem rm_fail {g u v : st_T} {L : List Nat} {ra : Int32} (x : Int32) (h : rm_ g u v L ra) : rm_ g (st_si u 13 x) (st_si v 11 x) L ra := by
  obtain ⟨hs, ⟨d2, d3, d4, d5, d12, d13⟩, hh, hr⟩ := h
  exact ⟨hs, ⟨d2, d3, d4, d5, d12, rfl⟩, hh, hr⟩
theorem rm_ra {g u v : st_T} {L : List Nat} {ra : Int32} (x : Int32) (h : rm_ g u v L ra) : rm_ g (st_si u 16 x) v L x := by
  obtain ⟨hs, hd, hh, hr⟩ := h
  exact ⟨hs, hd, hh, rfl⟩
theorem rm_end {g u v : st_T} {L : List Nat} {ra : Int32} (j : Nat) (x : Int32) (h : rm_ g u v L ra) : rm_ g (st_sa u 2 j x) (st_sa v 3 j x) L ra := by
  obtain ⟨hs, ⟨d2, d3, d4, d5, d12, d13⟩, hh, hr⟩ := h
  exact ⟨hs, ⟨by rw [rs_4, rs_4, if_pos rfl, if_pos rfl, d2], d3, d4, d5, d12, d13⟩, hh, hr⟩
theorem rm_res {g u v : st_T} {L : List Nat} {ra : Int32} (j : Nat) (x : Int32) (h : rm_ g u v L ra) : rm_ g (st_sa u 12 j x) (st_sa v 10 j x) L ra := by
  obtain ⟨hs, ⟨d2, d3, d4, d5, d12, d13⟩, hh, hr⟩ := h
  exact ⟨hs, ⟨d2, d3, d4, d5, by rw [rs_4, rs_4, if_pos rfl, if_pos rfl, d12], d13⟩, hh, hr⟩
theorem bl_up {f : Nat → Int32} {k i : Nat} (hi : i < 24) (h : ∀ j, j < 8 → vp_in (f j) 24) : ∀ j, j < 8 → vp_in (upd f k (nI i) j) 24 := by
  intro j hj
  by_cases e : j = k
  · subst e
    rw [up_s]
    exact vp_in_nI hi (by decide)
  · rw [up_n _ _ e]
    exact h j hj
theorem rm_push2 {g u v : st_T} {L : List Nat} {ra : Int32} {i : Nat} (hi : i < 24) (hL : L.length ≤ 8) (ho : ¬ g.2 5 i = 1) (h : rm_ g u v L ra) : rm_ g u (st_si (st_sa v 12 (ix (v.1 13)) (nI i)) 13 (v.1 13 + 1)) (i :: L) ra := by
  obtain ⟨hs, hd, ⟨k1, k2, k3, k4, k5, k6⟩, hr⟩ := h
  have e : ix (v.1 13) = L.length := by rw [k1]; exact ix_n (by omega)
  refine ⟨hs, hd, ⟨?_, ?_, ?_, ?_, k5, ?_⟩, hr⟩
  · rw [rs_1, if_pos rfl, k1, nI_1, List.length_cons]
  · rw [rs_2, rs_4, if_pos rfl, e]
    exact ⟨up_s _ _ _, bk_up k2 (Nat.le_refl _)⟩
  · rw [rs_2, rs_4, if_pos rfl]
    exact bl_up hi k3
  · intro l
    unfold cn_
    rw [if_neg (fun z => ho z.1), Nat.zero_add]
    exact k4 l
  · intro b hb
    rcases List.mem_cons.mp hb with rfl | hb
    · exact fun z => absurd z ho
    · exact k6 b hb
theorem rm_push1 {g u v : st_T} {L : List Nat} {ra : Int32} {i : Nat} (hg : lr_ g) (hi : i < 24) (hL : L.length ≤ 8) (ho : g.2 5 i = 1) (hl : ¬ g.2 0 (hd_ (g.2 6) i) = 0) (h : rm_ g u v L ra) :
    rm_ g (st_sa u 14 (le_ (g.2 0) (hd_ (g.2 6) i)) (u.2 14 (le_ (g.2 0) (hd_ (g.2 6) i)) + 1)) (st_si (st_sa (st_sa v 1 (ix (g.2 0 (hd_ (g.2 6) i))) (v.2 1 (ix (g.2 0 (hd_ (g.2 6) i))) + 1)) 12 (ix (v.1 13)) (nI i)) 13 (v.1 13 + 1)) (i :: L) ra := by
  obtain ⟨hs, hd, ⟨k1, k2, k3, k4, k5, k6⟩, hr⟩ := h
  have e : ix (v.1 13) = L.length := by rw [k1]; exact ix_n (by omega)
  have hh := hd_lt (g.2 6) i
  refine ⟨hs, hd, ⟨?_, ?_, ?_, ?_, ?_, ?_⟩, hr⟩
  · rw [rs_1, if_pos rfl, k1, nI_1, List.length_cons]
  · rw [rs_2, rs_4, if_pos rfl, e]
    exact ⟨up_s _ _ _, bk_up k2 (Nat.le_refl _)⟩
  · rw [rs_2, rs_4, if_pos rfl]
    exact bl_up hi k3
  · intro l
    rw [rs_2, rs_4, if_neg (by decide), rs_4, if_pos rfl]
    unfold cn_
    by_cases hl2 : ix (g.2 0 (hd_ (g.2 6) i)) = l
    · rw [if_pos ⟨ho, hl2⟩, hl2, up_s, k4 l, nI_1, Nat.add_comm]
    · rw [if_neg (fun z => hl2 z.2), up_n _ _ (fun z => hl2 z.symm), Nat.zero_add]
      exact k4 l
  · intro x hx hx0
    rw [rs_2, rs_4, if_pos rfl, rs_4, if_neg (by decide), rs_4, if_pos rfl]
    by_cases hq : g.2 0 x = g.2 0 (hd_ (g.2 6) i)
    · rw [le_iff.mpr hq, hq, up_s, up_s, k5 _ hh hl]
    · rw [up_n _ _ (fun z => hq (le_iff.mp z)), up_n _ _ (fun z => hq (lr_inj hg hx hh z))]
      exact k5 x hx hx0
  · intro b hb
    rcases List.mem_cons.mp hb with rfl | hb
    · exact fun _ => hl
    · exact k6 b hb
theorem gb_eq {g u : st_T} {b : Nat} (h0 : u.2 0 = g.2 0) (h6 : u.2 6 = g.2 6) (hb : b < 24) : pd_giveBack u (nI b) = (u.2 14 (le_ (g.2 0) (hd_ (g.2 6) b)) - 1, st_sa u 14 (le_ (g.2 0) (hd_ (g.2 6) b)) (u.2 14 (le_ (g.2 0) (hd_ (g.2 6) b)) - 1)) := by
  have hh := hd_lt (g.2 6) b
  have h1 := (le_ok (g.2 0) (hd_ (g.2 6) b)).1
  unfold pd_giveBack
  rw [h6, ix_n (by omega), hd_fm, least_le u hh, h0, ix_n (by omega), rs_4, if_pos rfl, up_s]
theorem lo_eq {g v : st_T} {b : Nat} (h0 : v.2 0 = g.2 0) (h7 : v.2 7 = g.2 6) (hb : b < 24) : pm_lockOf v (nI b) = g.2 0 (hd_ (g.2 6) b) := by
  unfold pm_lockOf
  rw [h0, h7, ix_n (by omega)]
  rfl
theorem cl_eq {g v : st_T} {b : Nat} {r : List Nat} (h0 : v.2 0 = g.2 0) (h6 : v.2 6 = g.2 5) (h7 : v.2 7 = g.2 6) (hb : b < 24) (k1 : v.1 13 = nI (r.length + 1)) (hr : r.length < 1000) (k2 : v.2 12 r.length = nI b) :
    pm_close v = if g.2 5 b = 2 then (0, st_si v 13 (nI r.length)) else (v.2 1 (ix (g.2 0 (hd_ (g.2 6) b))) - 1, st_sa (st_si v 13 (nI r.length)) 1 (ix (g.2 0 (hd_ (g.2 6) b))) (v.2 1 (ix (g.2 0 (hd_ (g.2 6) b))) - 1)) := by
  unfold pm_close
  rw [k1, nI_sub1, ix_n (by omega), k2, h6, ix_n (by omega), lo_eq (g := g) (v := st_si v 13 (nI r.length)) h0 h7 hb, rs_4, if_pos rfl, up_s]
theorem rm_pop2 {g u v : st_T} {b : Nat} {r : List Nat} {ra : Int32} (ho : ¬ g.2 5 b = 1) (h : rm_ g u v (b :: r) ra) : rm_ g u (st_si v 13 (nI r.length)) r ra := by
  obtain ⟨hs, hd, ⟨k1, k2, k3, k4, k5, k6⟩, hr⟩ := h
  refine ⟨hs, hd, ⟨rfl, k2.2, k3, ?_, k5, fun b hb => k6 b (List.mem_cons_of_mem _ hb)⟩, hr⟩
  intro l
  have := k4 l
  unfold cn_ at this
  rw [if_neg (fun z => ho z.1), Nat.zero_add] at this
  exact this
theorem rm_pop1 {g u v : st_T} {b : Nat} {r : List Nat} {ra : Int32} (hg : lr_ g) (ho : g.2 5 b = 1) (h : rm_ g u v (b :: r) ra) :
    u.2 14 (le_ (g.2 0) (hd_ (g.2 6) b)) = v.2 1 (ix (g.2 0 (hd_ (g.2 6) b))) ∧ rm_ g (st_sa u 14 (le_ (g.2 0) (hd_ (g.2 6) b)) (u.2 14 (le_ (g.2 0) (hd_ (g.2 6) b)) - 1)) (st_sa (st_si v 13 (nI r.length)) 1 (ix (g.2 0 (hd_ (g.2 6) b))) (v.2 1 (ix (g.2 0 (hd_ (g.2 6) b))) - 1)) r ra := by
  obtain ⟨hs, hd, ⟨k1, k2, k3, k4, k5, k6⟩, hr⟩ := h
  have hh := hd_lt (g.2 6) b
  have hl := k6 b List.mem_cons_self ho
  refine ⟨k5 _ hh hl, hs, hd, ⟨rfl, k2.2, k3, ?_, ?_, fun b hb => k6 b (List.mem_cons_of_mem _ hb)⟩, hr⟩
  · intro l
    have := k4 l
    unfold cn_ at this
    rw [rs_4, if_pos rfl, rs_2]
    by_cases hl2 : ix (g.2 0 (hd_ (g.2 6) b)) = l
    · rw [if_pos ⟨ho, hl2⟩, Nat.add_comm] at this
      rw [hl2, up_s, this, nI_sub1]
    · rw [if_neg (fun z => hl2 z.2), Nat.zero_add] at this
      rw [up_n _ _ (fun z => hl2 z.symm)]
      exact this
  · intro x hx hx0
    rw [rs_4, if_pos rfl, rs_4, if_pos rfl, rs_2]
    by_cases hq : g.2 0 x = g.2 0 (hd_ (g.2 6) b)
    · rw [le_iff.mpr hq, hq, up_s, up_s, k5 _ hh hl]
    · rw [up_n _ _ (fun z => hq (le_iff.mp z)), up_n _ _ (fun z => hq (lr_inj hg hx hh z))]
      exact k5 x hx hx0
