/-! the desk between calls, in numbers: n steps, the open blocks L -/
theorem rs_1 (u : st_T) (k : Nat) (v : Int32) (j : Nat) : (st_si u k v).1 j = if j = k then v else u.1 j := rfl
theorem rs_2 (u : st_T) (k : Nat) (v : Int32) : (st_si u k v).2 = u.2 := rfl
theorem rs_3 (u : st_T) (k i : Nat) (v : Int32) : (st_sa u k i v).1 = u.1 := rfl
theorem rs_4 (u : st_T) (k i : Nat) (v : Int32) (j : Nat) : (st_sa u k i v).2 j = if j = k then upd (u.2 k) i v else u.2 j := rfl
theorem up_s (f : Nat → Int32) (i : Nat) (v : Int32) : upd f i v i = v := by simp [upd]
theorem up_n (f : Nat → Int32) {i j : Nat} (v : Int32) (h : j ≠ i) : upd f i v j = f j := by simp [upd, h]
theorem ix_n {n : Nat} (h : n < 2 ^ 31) : ix (nI n) = n := nI_clamp h
theorem nI_m1 {n : Nat} (h : n < 2 ^ 31) : ¬ nI n = -1 := fun z => by
  have := nI_toInt h
  rw [z, show (-1 : Int32).toInt = -1 by decide] at this
  omega
theorem nI_eq0 {n : Nat} (h : n < 2 ^ 31) : nI n = 0 ↔ n = 0 := by
  rw [← nI_0, nI_eq h (by decide)]
/-- the latest open block's number, or -1 -/
def tp_ : List Nat → Int32
  | [] => -1
  | b :: _ => nI b
def ch_ (f : Nat → Int32) (n : Nat) : List Nat → Prop
  | [] => True
  | b :: r => b < n ∧ f b = tp_ r ∧ ch_ f n r
theorem ch_up {f : Nat → Int32} {n : Nat} {x : Int32} : ∀ {L : List Nat}, ch_ f n L → ch_ (upd f n x) (n + 1) L := by
  intro L
  induction L with
  | nil => intro _; trivial
  | cons b r ih =>
    intro h
    exact ⟨by have := h.1; omega, by rw [up_n _ _ (by have := h.1; omega)]; exact h.2.1, ih h.2.2⟩
def ar_ (f : Nat → Int32) : Prop := ∀ j : Nat, j < 24 → f j = -1 ∨ vp_in (f j) 24
def jv_ (u : st_T) (n : Nat) (L : List Nat) : Prop := u.1 9 = nI n ∧ n ≤ 24 ∧ (u.1 4 = 0 ∨ u.1 4 = 1) ∧ ar_ (u.2 7) ∧ u.1 10 = nI L.length ∧ u.1 11 = tp_ L ∧ ch_ (u.2 7) n L ∧ L.length ≤ 8
theorem tp_in {f : Nat → Int32} {n : Nat} {L : List Nat} (h : ch_ f n L) (hn : n ≤ 24) : tp_ L = -1 ∨ vp_in (tp_ L) 24 := by
  cases L with
  | nil => exact Or.inl rfl
  | cons b r => exact Or.inr (vp_in_nI (by have := h.1; omega) (by decide))
theorem jv_pre {u : st_T} {n : Nat} {L : List Nat} (h : jv_ u n L) : ¬ u.1 9 < 0 ∧ (u.1 11 = -1 ∨ vp_in (u.1 11) 24) := by
  obtain ⟨h9, hn, h4, h7, h10, h11, hc, h8⟩ := h
  exact ⟨by rw [h9]; exact nI_pos (by omega), by rw [h11]; exact tp_in hc hn⟩
theorem jv_init : jv_ pd_init 0 [] := ⟨rfl, by omega, Or.inl rfl, fun j _ => Or.inr (in_z (by decide)), rfl, rfl, trivial, by decide⟩
theorem hold_ok {u : st_T} {a b : Int32} (h1 : ¬ a < 0) (h2 : ¬ 5 ≤ a) (h3 : ¬ b < -2) (h4 : b < 5) : (pd_hold u a b).1 = 0 ∧ ∀ (n : Nat) (L : List Nat), jv_ u n L → jv_ (pd_hold u a b).2 n L := by
  unfold pd_hold
  rw [if_neg h1, if_neg h2, if_neg h3, if_pos h4]
  by_cases h5 : b = -2
  · rw [if_pos h5]; exact ⟨rfl, fun n L h => h⟩
  · rw [if_neg h5]
    by_cases h6 : b = -1
    · rw [if_pos h6]; exact ⟨rfl, fun n L h => h⟩
    · rw [if_neg h6]; exact ⟨rfl, fun n L h => h⟩
theorem clear_ok {u : st_T} {n : Nat} {L : List Nat} (h : jv_ u n L) : ¬ (pd_clear u).1 < 0 ∧ jv_ (pd_clear u).2 0 [] := by
  obtain ⟨h9, hn, h4, h7, h10, h11, hc, h8⟩ := h
  unfold pd_clear
  exact ⟨by show ¬ u.1 9 < 0; rw [h9]; exact nI_pos (by omega), rfl, by omega, h4, h7, rfl, rfl, trivial, by decide⟩
theorem ob_1 {a : Int32} (h : a = 1 ∨ a = 2) : pd_opensBlock a = 1 := by rcases h with rfl | rfl <;> decide
theorem ob_0 {a : Int32} (h : ¬ (a = 1 ∨ a = 2)) : pd_opensBlock a = 0 := by
  unfold pd_opensBlock
  rw [if_neg (fun z => h (Or.inl z)), if_neg (fun z => h (Or.inr z))]
theorem ar_up {f : Nat → Int32} {k : Nat} {x : Int32} (h : ar_ f) (hx : x = -1 ∨ vp_in x 24) : ar_ (upd f k x) := by
  intro j hj
  by_cases e : j = k
  · subst e; rw [up_s]; exact hx
  · rw [up_n _ _ e]; exact h j hj
/-- an END of an open block is taken -/
theorem end_ok {u : st_T} {n b : Nat} {r : List Nat} (h : jv_ u n (b :: r)) (hn24 : n < 24) (c : Int32) : jv_ (pd_step u 0 c).2 (n + 1) r := by
  obtain ⟨h9, hn, h4, h7, h10, h11, hc, h8⟩ := h
  have hlt : u.1 9 < 24 := by
    rw [h9, show (24 : Int32) = nI 24 from by decide, nI_ltI (by omega) (by decide)]
    omega
  have e97 : ix (u.1 9) = n := by rw [h9]; exact ix_n (by omega)
  have hb := hc.1
  have e11 : u.1 11 = nI b := h11
  have e117 : ix (u.1 11) = b := by rw [e11]; exact ix_n (by omega)
  rw [List.length_cons] at h10 h8
  unfold pd_step
  rw [if_neg (by decide), if_neg (by decide), if_pos hlt, if_pos rfl, if_neg (by rw [e11]; exact nI_m1 (by omega) : ¬ u.1 11 = -1), if_pos (by decide : pd_opensBlock 0 = 0)]
  unfold pd_step_86
  rw [if_pos (by decide : pd_opensBlock 0 = 0), if_pos rfl]
  have ear : (st_sa (st_sa (st_sa u 5 (ix (u.1 9)) 0) 6 (ix (u.1 9)) c) 7 (ix (u.1 9)) (u.1 11)).2 7 (ix (u.1 11)) = tp_ r := by
    show upd (u.2 7) (ix (u.1 9)) (u.1 11) (ix (u.1 11)) = tp_ r
    rw [e97, e117, up_n _ _ (by omega)]
    exact hc.2.1
  rw [ear, e97, e117]
  refine ⟨?_, by omega, h4, ?_, ?_, rfl, ?_, by omega⟩
  · show u.1 9 + 1 = _
    rw [h9, nI_1]
  · show ar_ (upd (u.2 7) n (u.1 11))
    exact ar_up h7 (by rw [e11]; exact Or.inr (vp_in_nI (by omega) (by decide)))
  · show u.1 10 - 1 = _
    rw [h10, nI_pred]
  · show ch_ (upd (u.2 7) n (u.1 11)) (n + 1) r
    exact ch_up hc.2.2
/-- any step: the desk stays what it is -/
theorem step_ok {u : st_T} {n : Nat} {L : List Nat} (h : jv_ u n L) (a c : Int32) : ∃ (n1 : Nat) (L1 : List Nat), jv_ (pd_step u a c).2 n1 L1 ∧ n1 + L1.length ≤ n + L.length + 2 := by
  have h0 := h
  obtain ⟨h9, hn, h4, h7, h10, h11, hc, h8⟩ := h
  have same : ∀ w : Int32 × st_T, w.2 = u → ∃ (n1 : Nat) (L1 : List Nat), jv_ w.2 n1 L1 ∧ n1 + L1.length ≤ n + L.length + 2 := fun w hw => ⟨n, L, by rw [hw]; exact h0, by omega⟩
  by_cases a1 : a < 0
  · refine same _ ?_
    unfold pd_step
    rw [if_pos a1]
  · by_cases a2 : 15 < a
    · refine same _ ?_
      unfold pd_step
      rw [if_neg a1, if_pos a2]
    · by_cases hlt : u.1 9 < 24
      · have hn24 : n < 24 := by
          rw [h9, show (24 : Int32) = nI 24 from by decide, nI_ltI (by omega) (by decide)] at hlt
          exact hlt
        by_cases a0 : a = 0
        · subst a0
          cases L with
          | nil =>
            refine same _ ?_
            unfold pd_step
            rw [if_neg a1, if_neg a2, if_pos hlt, if_pos rfl, if_pos (by rw [h11]; rfl : u.1 11 = -1)]
          | cons b r => exact ⟨n + 1, r, end_ok h0 hn24 c, by rw [List.length_cons]; omega⟩
        · have e97 : ix (u.1 9) = n := by rw [h9]; exact ix_n (by omega)
          have hx11 : u.1 11 = -1 ∨ vp_in (u.1 11) 24 := by rw [h11]; exact tp_in hc hn
          by_cases a12 : a = 1 ∨ a = 2
          · have ob : ¬ pd_opensBlock a = 0 := by rw [ob_1 a12]; decide
            by_cases l8 : u.1 10 < 8
            · have hl8 : L.length < 8 := by
                rw [h10, show (8 : Int32) = nI 8 from by decide, nI_ltI (by omega) (by decide)] at l8
                exact l8
              refine ⟨n + 1, n :: L, ?_, by rw [List.length_cons]; omega⟩
              unfold pd_step
              rw [if_neg a1, if_neg a2, if_pos hlt, if_neg a0, if_neg ob, if_pos l8]
              unfold pd_step_86
              rw [if_neg ob, e97]
              refine ⟨?_, by omega, h4, ?_, ?_, h9, ?_, by rw [List.length_cons]; omega⟩
              · show u.1 9 + 1 = _
                rw [h9, nI_1]
              · show ar_ (upd (u.2 7) n (u.1 11))
                exact ar_up h7 hx11
              · show u.1 10 + 1 = _
                rw [h10, nI_1, List.length_cons]
              · show ch_ (upd (u.2 7) n (u.1 11)) (n + 1) (n :: L)
                exact ⟨by omega, by rw [up_s]; exact h11, ch_up hc⟩
            · refine same _ ?_
              unfold pd_step
              rw [if_neg a1, if_neg a2, if_pos hlt, if_neg a0, if_neg ob, if_neg l8]
          · have ob : pd_opensBlock a = 0 := ob_0 a12
            refine ⟨n + 1, L, ?_, by omega⟩
            unfold pd_step
            rw [if_neg a1, if_neg a2, if_pos hlt, if_neg a0, if_pos ob]
            unfold pd_step_86
            rw [if_pos ob, if_neg a0, e97]
            refine ⟨?_, by omega, h4, ?_, h10, h11, ?_, h8⟩
            · show u.1 9 + 1 = _
              rw [h9, nI_1]
            · show ar_ (upd (u.2 7) n (u.1 11))
              exact ar_up h7 hx11
            · show ch_ (upd (u.2 7) n (u.1 11)) (n + 1) L
              exact ch_up hc
      · refine same _ ?_
        unfold pd_step
        rw [if_neg a1, if_neg a2, if_neg hlt]
/-! within a run: what stays -/
def sm_ (v w : st_T) : Prop := w.1 9 = v.1 9 ∧ w.1 10 = v.1 10 ∧ w.1 11 = v.1 11 ∧ w.2 7 = v.2 7 ∧ (v.1 4 = 0 ∨ v.1 4 = 1 → w.1 4 = 0 ∨ w.1 4 = 1)
theorem sm_rf (v : st_T) : sm_ v v := ⟨rfl, rfl, rfl, rfl, id⟩
theorem sm_tr {a b c : st_T} (h : sm_ a b) (k : sm_ b c) : sm_ a c := ⟨k.1.trans h.1, k.2.1.trans h.2.1, k.2.2.1.trans h.2.2.1, k.2.2.2.1.trans h.2.2.2.1, fun z => k.2.2.2.2 (h.2.2.2.2 z)⟩
theorem sm_raise (v : st_T) (c : Int32) : sm_ v (pd_raise v c).2 := ⟨rfl, rfl, rfl, rfl, id⟩
theorem sm_giveBack (v : st_T) (p0 : Int32) : sm_ v (pd_giveBack v p0).2 := ⟨rfl, rfl, rfl, rfl, id⟩
theorem sm_takeFlag (v : st_T) : sm_ v (pd_takeFlag v).2 := ⟨rfl, rfl, rfl, rfl, fun _ => Or.inl rfl⟩
theorem sm_tr2 (v : st_T) (c : Int32) : sm_ v (pd_raise (pd_takeFlag v).2 c).2 := sm_tr (sm_takeFlag v) (sm_raise _ c)
theorem sm_endBlock (v : st_T) (p0 : Int32) : sm_ v (pd_endBlock v p0).2 := by
  unfold pd_endBlock
  split
  · exact sm_rf v
  · exact sm_giveBack v p0
theorem sm_enter (v : st_T) (p0 : Int32) : sm_ v (pd_enter v p0).2 := by
  unfold pd_enter
  split
  · exact sm_raise v 1
  · exact ⟨rfl, rfl, rfl, rfl, id⟩
theorem sm_notify (v : st_T) (p0 : Int32) : sm_ v (pd_notifyWaiting v p0).2 := by
  unfold pd_notifyWaiting
  split
  · exact sm_raise v 1
  · split
    · exact sm_raise v 2
    · exact sm_rf v
theorem sm_holds (v : st_T) (p0 : Int32) : sm_ v (pd_holdsLock v p0).2 := by
  unfold pd_holdsLock
  split
  · exact sm_raise v 1
  · split
    · exact sm_rf v
    · exact sm_rf v
theorem sm_ite {v : st_T} {c : Prop} [Decidable c] {a b : Int32 × st_T} (ha : sm_ v a.2) (hb : sm_ v b.2) : sm_ v (if c then a else b).2 := by
  by_cases h : c
  · rw [if_pos h]; exact ha
  · rw [if_neg h]; exact hb
theorem sm_await (v : st_T) (p0 : Int32) : sm_ v (pd_awaitNotice v p0).2 := by
  unfold pd_awaitNotice
  exact sm_ite (sm_ite (sm_raise v 1) (sm_raise v 3)) (sm_ite (sm_raise v 1) (sm_ite (sm_ite (sm_raise v 2) (sm_ite (sm_takeFlag v) (sm_tr2 v 4))) (sm_raise v 3)))
theorem sm_sleep (v : st_T) (p0 : Int32) : sm_ v (pd_sleep v p0).2 := by
  unfold pd_sleep
  split
  · split
    · exact sm_takeFlag v
    · exact sm_tr2 v 4
  · exact sm_raise v 3
theorem sm_start (v : st_T) (p0 : Int32) : sm_ v (pd_start v p0).2 := by
  unfold pd_start
  split
  · exact ⟨rfl, rfl, rfl, rfl, id⟩
  · exact sm_raise v 5
theorem sm_perform (v : st_T) (p0 : Int32) : sm_ v (pd_perform v p0).2 := by
  unfold pd_perform
  refine sm_ite (sm_endBlock v _) ?_
  refine sm_ite (sm_enter v _) ?_
  refine sm_ite (sm_rf v) ?_
  refine sm_ite (sm_notify v _) ?_
  refine sm_ite (sm_notify v _) ?_
  refine sm_ite (sm_holds v _) ?_
  refine sm_ite (sm_await v _) ?_
  refine sm_ite (⟨rfl, rfl, rfl, rfl, fun _ => Or.inr rfl⟩) ?_
  refine sm_ite (sm_takeFlag v) ?_
  refine sm_ite (sm_rf v) ?_
  refine sm_ite (sm_sleep v _) ?_
  refine sm_ite (sm_raise v _) ?_
  refine sm_ite (sm_start v _) ?_
  refine sm_ite (sm_rf v) ?_
  refine sm_ite (sm_rf v) ?_
  refine sm_ite (⟨rfl, rfl, rfl, rfl, id⟩) ?_
  exact sm_rf v
theorem sm_lb : ∀ (n : Nat) (v : st_T) (b k : Int32), sm_ v (pd_lb n v b k).2 := by
  intro n
  induction n with
  | zero => intro v b k; exact sm_rf v
  | succ n ih =>
    intro v b k
    rw [pd_lb_s]
    split
    · exact sm_rf v
    · split
      · exact sm_rf v
      · exact sm_tr (sm_giveBack v b) (ih _ _ _)
theorem sm_lt (v : st_T) (b : Int32) : sm_ v (pd_lt v b) := by
  unfold pd_lt
  split
  · exact ⟨rfl, rfl, rfl, rfl, id⟩
  · exact ⟨rfl, rfl, rfl, rfl, id⟩
theorem sm_leave (v : st_T) (p0 : Int32) : sm_ v (pd_leaveBlocks v p0) := by
  unfold pd_leaveBlocks
  exact sm_tr (sm_lb _ _ _ _) (sm_lt _ _)
theorem sm_res (v : st_T) (j : Nat) (x : Int32) : sm_ v (st_sa v 12 j x) := ⟨rfl, rfl, rfl, rfl, id⟩
theorem sm_code (v : st_T) (x : Int32) : sm_ v (st_si v 15 x) := ⟨rfl, rfl, rfl, rfl, id⟩
theorem sm_doStep (v : st_T) (p0 : Int32) : sm_ v (pd_doStep v p0) := by
  unfold pd_doStep
  split
  · exact sm_tr (sm_tr (sm_code v 0) (sm_perform _ p0)) (sm_res _ _ _)
  · exact sm_tr (sm_tr (sm_tr (sm_code v 0) (sm_perform _ p0)) (sm_res _ _ _)) (sm_leave _ _)
theorem rl_ok {n : Nat} (hn : n ≤ 24) : ∀ (f i dd : Nat) (v : st_T), v.1 9 = nI n → (v.1 4 = 0 ∨ v.1 4 = 1) → ar_ (v.2 7) → i ≤ n → n - i < f → dd + f ≤ 100 →
    pd_rok f v (nI i) ∧ sm_ v (pd_rl f v (nI dd) (nI i)).2 ∧ ∃ e : Nat, e ≤ 100 ∧ (pd_rl f v (nI dd) (nI i)).1 = nI e := by
  intro f
  induction f with
  | zero => intro i dd v h9 h4 h7 hi hf; omega
  | succ f ih =>
    intro i dd v h9 h4 h7 hi hf hd
    rw [pd_rl_s, pd_rok]
    rcases Nat.lt_or_ge i n with z | z
    · have a1 : ¬ v.1 9 ≤ nI i := by rw [h9, nI_leI (by omega) (by omega)]; omega
      rw [if_neg a1, if_neg a1]
      by_cases a2 : nI i < v.1 16
      · rw [if_pos a2, if_pos a2, nI_1]
        exact ih (i + 1) dd v h9 h4 h7 (by omega) (by omega) (by omega)
      · rw [if_neg a2, if_neg a2, nI_1, nI_1]
        have hs := sm_doStep v (nI i)
        obtain ⟨q1, q2, q3⟩ := ih (i + 1) (dd + 1) (pd_doStep v (nI i)) (hs.1.trans h9) (hs.2.2.2.2 h4) (by rw [hs.2.2.2.1]; exact h7) (by omega) (by omega) (by omega)
        have hp : sm_ v (pd_perform (st_si v 15 0) (nI i)).2 := sm_tr (sm_code v 0) (sm_perform _ _)
        exact ⟨⟨⟨vp_in_nI (by omega) (by decide), h4, by rw [ix_n (by omega)]; exact h7 i (by omega), by rw [hp.2.2.2.1]; exact h7⟩, q1⟩, sm_tr hs q2, q3⟩
    · have a1 : v.1 9 ≤ nI i := by rw [h9, nI_leI (by omega) (by omega)]; omega
      rw [if_pos a1, if_pos a1]
      exact ⟨trivial, sm_rf v, dd, by omega, rfl⟩
theorem jv_sm {u w : st_T} {n : Nat} {L : List Nat} (h : jv_ u n L) (k : sm_ u w) : jv_ w n L := by
  obtain ⟨h9, hn, h4, h7, h10, h11, hc, h8⟩ := h
  exact ⟨k.1.trans h9, hn, k.2.2.2.2 h4, by rw [k.2.2.2.1]; exact h7, k.2.1.trans h10, k.2.2.1.trans h11, by rw [k.2.2.2.1]; exact hc, h8⟩
theorem sm_r0 (u : st_T) : sm_ u (pd_r0 u) := ⟨rfl, rfl, rfl, rfl, id⟩
theorem run_pre {u : st_T} {n : Nat} {L : List Nat} (h : jv_ u n L) : u.1 10 = 0 → pd_rok 25 (pd_r0 u) 0 := fun _ => by
  have h1 := jv_sm h (sm_r0 u)
  exact (rl_ok h.2.1 25 0 0 (pd_r0 u) h1.1 h1.2.2.1 h1.2.2.2.1 (Nat.zero_le _) (by have := h.2.1; omega) (by omega)).1
theorem run_ok {u : st_T} {n : Nat} {L : List Nat} (h : jv_ u n L) (h0 : u.1 10 = 0) : ¬ (pd_run u).1 < 0 ∧ jv_ (pd_run u).2 n L := by
  have h1 := jv_sm h (sm_r0 u)
  obtain ⟨q1, q2, e, q3, q4⟩ := rl_ok h.2.1 25 0 0 (pd_r0 u) h1.1 h1.2.2.1 h1.2.2.2.1 (Nat.zero_le _) (by have := h.2.1; omega) (by omega)
  have e1 : pd_run u = pd_rl 25 (pd_r0 u) (nI 0) (nI 0) := by unfold pd_run; rw [if_pos h0]; rfl
  rw [e1]
  exact ⟨by rw [q4]; exact nI_pos (by omega), jv_sm h1 q2⟩
