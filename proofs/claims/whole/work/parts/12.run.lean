/-! throwing, and the whole run -/
theorem bh_ok {g v : st_T} {n : Nat} (h8 : v.1 8 = nI n) (h6 : v.2 6 = g.2 5) (hn : n ≤ 24) (hw : sk_ (g.2 5) n = []) (b : Nat) : ∀ (f i : Nat) (l : List Nat), i ≤ n → n - i < f → sk_ (g.2 5) i = l ++ b :: sk_ (g.2 5) b → ∃ e, i ≤ e ∧ e < n ∧ g.2 5 e = 0 ∧ sk_ (g.2 5) e = b :: sk_ (g.2 5) b ∧ pm_bh v f (nI (l.length + 1)) (nI i) = nI (e + 1) := by
  intro f
  induction f with
  | zero => intro i l h1 h2; omega
  | succ f ih =>
    intro i l h1 h2 hs
    have hin : i < n := by
      rcases Nat.lt_or_ge i n with z | z
      · exact z
      · have e : i = n := by omega
        subst e
        rw [hw] at hs
        cases l <;> cases hs
    have hlen : l.length ≤ i := by
      have hx : ∀ (m : Nat), (sk_ (g.2 5) m).length ≤ m := by
        intro m
        induction m with
        | zero => exact Nat.le_refl _
        | succ m im =>
          rw [sk_s]
          split
          · rw [List.length_cons]; omega
          · split
            · rw [List.length_tail]; omega
            · omega
      have := hx i
      rw [hs, List.length_append] at this
      omega
    rw [pm_bh_s, h8, if_neg (by rw [nI_leI (by omega) (by omega)]; omega), h6, ix_n (by omega)]
    by_cases h3 : g.2 5 i = 1 ∨ g.2 5 i = 2
    · have e1 : sk_ (g.2 5) (i + 1) = (i :: l) ++ b :: sk_ (g.2 5) b := by rw [sk_s, if_pos h3, hs]; rfl
      obtain ⟨e, q1, q2, q3, q4, q5⟩ := ih (i + 1) (i :: l) (by omega) (by omega) e1
      refine ⟨e, by omega, q2, q3, q4, ?_⟩
      rw [List.length_cons] at q5
      by_cases h4 : g.2 5 i = 1
      · rw [if_pos h4, nI_1, nI_1]; exact q5
      · rw [if_neg h4, if_pos (h3.resolve_left h4), nI_1, nI_1]; exact q5
    · rw [if_neg (fun z => h3 (Or.inl z)), if_neg (fun z => h3 (Or.inr z))]
      by_cases h0 : g.2 5 i = 0
      · rw [if_pos h0, nI_subm]
        cases l with
        | nil =>
          rw [if_pos (by decide)]
          exact ⟨i, Nat.le_refl _, hin, h0, hs, nI_1 i⟩
        | cons c l =>
          have e1 : sk_ (g.2 5) (i + 1) = l ++ b :: sk_ (g.2 5) b := by rw [sk_s, if_neg h3, if_pos h0, hs]; rfl
          rw [List.length_cons] at hlen ⊢
          rw [if_neg (fun z => by have := (nI_eq0 (by omega)).mp z; omega), nI_1]
          obtain ⟨e, q1, q2, q3, q4, q5⟩ := ih (i + 1) l (by omega) (by omega) e1
          exact ⟨e, by omega, q2, q3, q4, q5⟩
      · rw [if_neg h0, nI_1]
        have e1 : sk_ (g.2 5) (i + 1) = l ++ b :: sk_ (g.2 5) b := by rw [sk_s, if_neg h3, if_neg h0, hs]
        obtain ⟨e, q1, q2, q3, q4, q5⟩ := ih (i + 1) l (by omega) (by omega) e1
        exact ⟨e, by omega, q2, q3, q4, q5⟩
theorem be_ok {g v : st_T} {n b : Nat} (h8 : v.1 8 = nI n) (h6 : v.2 6 = g.2 5) (hn : n ≤ 24) (hw : sk_ (g.2 5) n = []) (hb : b < n) (ho : g.2 5 b = 1 ∨ g.2 5 b = 2) : ∃ e, b < e ∧ e < n ∧ g.2 5 e = 0 ∧ sk_ (g.2 5) e = b :: sk_ (g.2 5) b ∧ pm_behind v (nI b) = nI (e + 1) := by
  have e1 : sk_ (g.2 5) (b + 1) = [] ++ b :: sk_ (g.2 5) b := by rw [sk_s, if_pos ho]; rfl
  obtain ⟨e, q1, q2, q3, q4, q5⟩ := bh_ok h8 h6 hn hw b 24 (b + 1) [] (by omega) (by omega) e1
  refine ⟨e, by omega, q2, q3, q4, ?_⟩
  unfold pm_behind
  rw [pm_bh_s, h8, if_neg (by rw [nI_leI (by omega) (by omega)]; omega), h6, ix_n (by omega)]
  have q5 : pm_bh v 24 (0 + 1) (nI b + 1) = nI (e + 1) := by rw [nI_1]; exact q5
  by_cases h4 : g.2 5 b = 1
  · rw [if_pos h4]; exact q5
  · rw [if_neg h4, if_pos (ho.resolve_left h4)]; exact q5
theorem lb_ok {g : st_T} {n : Nat} (hg : lr_ g) (hp : pv_ g n) (hw : sk_ (g.2 5) n = []) {i : Nat} (hi : i < n) (ho : ¬ g.2 5 i = 0) : ∀ (L : List Nat) (K fu fv : Nat) (u v : st_T) (ra c : Int32), rm_ g u v L ra → (∃ j, L = sk_ (g.2 5) j) → (∀ x, x ∈ L → x ∈ sk_ (g.2 5) i) → u.1 15 = c → v.1 14 = c → L.length ≤ K → K ≤ 8 → K < fu → L.length < fv →
    ∃ t, i < t ∧ t ≤ n ∧ rm_ g (pd_lt (pd_lb fu u (tp_ L) (nI K)).2 (pd_lb fu u (tp_ L) (nI K)).1) (pm_uw fv v).2 (sk_ (g.2 5) t) (nI t) ∧ (pm_uw fv v).1 = nI t ∧ pm_uok fv v := by
  have hn := hp.2.1
  intro L
  induction L with
  | nil =>
    intro K fu fv u v ra c h hj hx hu hv hK hK8 hfu hfv
    obtain ⟨fu, rfl⟩ : ∃ k, fu = k + 1 := ⟨fu - 1, by omega⟩
    obtain ⟨fv, rfl⟩ : ∃ k, fv = k + 1 := ⟨fv - 1, by rw [List.length_nil] at hfv; omega⟩
    have e1 : pd_lb (fu + 1) u (tp_ []) (nI K) = (-1, u) := by
      rw [pd_lb_s]
      have : pd_isEnter u (tp_ []) = 0 := by unfold pd_isEnter; exact if_pos rfl
      rw [if_pos this]
      split <;> rfl
    have e2 : v.1 13 ≤ 0 := by rw [h.2.2.1.1]; decide
    have e3 : v.1 8 = nI n := h.1.2.2.2.2.1.trans hp.1
    have e4 : u.1 9 = nI n := h.1.1.2.2.2.2.2.1.trans hp.1
    refine ⟨n, hi, Nat.le_refl _, ?_, ?_, ?_⟩
    · rw [e1, pm_uw_s, if_pos e2, hw]
      unfold pd_lt
      rw [if_pos rfl, hu, hv, e4]
      exact rm_ra _ (rm_fail _ h)
    · rw [pm_uw_s, if_pos e2]
      exact e3
    · rw [pm_uok, if_pos e2]
      trivial
  | cons b r ih =>
    intro K fu fv u v ra c h hj hx hu hv hK hK8 hfu hfv
    obtain ⟨j, hj⟩ := hj
    rw [List.length_cons] at hK hfv
    obtain ⟨fu, rfl⟩ : ∃ k, fu = k + 1 := ⟨fu - 1, by omega⟩
    obtain ⟨fv, rfl⟩ : ∃ k, fv = k + 1 := ⟨fv - 1, by omega⟩
    obtain ⟨K, rfl⟩ : ∃ k, K = k + 1 := ⟨K - 1, by omega⟩
    have hbi := sk_mem i b (hx b List.mem_cons_self)
    have hb24 : b < 24 := by omega
    have hr : r = sk_ (g.2 5) b := sk_rest hj.symm
    have k1 : v.1 13 = nI (r.length + 1) := h.2.2.1.1
    have k2 : v.2 12 r.length = nI b := h.2.2.1.2.1.1
    have hc := cl_eq (g := g) (v := v) (b := b) (r := r) h.1.2.1 h.1.2.2.1 h.1.2.2.2.1 hb24 k1 (by omega) k2
    have e2 : ¬ v.1 13 ≤ 0 := by rw [k1, nI_le0 (by omega)]; omega
    have eb : v.2 12 (ix (v.1 13 - 1)) = nI b := by rw [k1, nI_sub1, ix_n (by omega), k2]
    have e8 : v.1 8 = nI n := h.1.2.2.2.2.1.trans hp.1
    have e6 : v.2 6 = g.2 5 := h.1.2.2.1
    have n24 : (nI n).toInt ≤ 24 := by rw [nI_toInt (by omega)]; omega
    have base : vp_in (v.1 13 - 1) 8 ∧ (∀ j : Nat, j < 8 → vp_in (v.2 12 j) 24) ∧ (∀ j : Nat, j < 5 → vp_in (v.2 0 j) 520) := ⟨by rw [k1, nI_sub1]; exact vp_in_nI (by omega) (by decide), h.2.2.1.2.2.1, by rw [h.1.2.1]; exact hg⟩
    by_cases h1 : g.2 5 b = 1
    · rw [if_neg (by rw [h1]; decide : ¬ g.2 5 b = 2)] at hc
      obtain ⟨q1, q2⟩ := rm_pop1 hg h1 h
      have e1 : pd_lb (fu + 1) u (tp_ (b :: r)) (nI (K + 1)) = pd_lb fu (st_sa u 14 (le_ (g.2 0) (hd_ (g.2 6) b)) (u.2 14 (le_ (g.2 0) (hd_ (g.2 6) b)) - 1)) (tp_ r) (nI K) := by
        rw [pd_lb_s, if_neg (by rw [nI_le0 (by omega)]; omega)]
        show (if pd_isEnter u (nI b) = 0 then _ else _) = _
        rw [ie_eq h.1.1.2.1 hb24, if_pos h1, if_neg (by decide), nI_subm]
        have eg := gb_eq (g := g) (u := u) h.1.1.1 h.1.1.2.2.1 hb24
        have e7 : (pd_giveBack u (nI b)).2.2 7 (ix (nI b)) = tp_ r := by
          rw [eg]
          show u.2 7 (ix (nI b)) = tp_ r
          rw [h.1.1.2.2.2.1, ix_n (by omega), hp.2.2.2.2.1 b (by omega), hr]
        show pd_lb fu (pd_giveBack u (nI b)).2 ((pd_giveBack u (nI b)).2.2 7 (ix (nI b))) (nI K) = _
        rw [e7, eg]
      have e3 : ¬ (pm_close v).2.2 6 (ix (v.2 12 (ix (v.1 13 - 1)))) = 2 := by
        rw [hc, eb, ix_n (by omega)]
        show ¬ v.2 6 b = 2
        rw [e6, h1]; decide
      have e4 : pm_uw (fv + 1) v = pm_uw fv (pm_close v).2 := by rw [pm_uw_s, if_neg e2, if_neg e3]
      obtain ⟨t, t1, t2, t3, t4, t5⟩ := ih K fu fv _ _ ra c q2 ⟨b, hr⟩ (fun x hx2 => hx x (List.mem_cons_of_mem _ hx2)) hu hv (by omega) (by omega) (by omega) (by omega)
      rw [hc] at e4
      refine ⟨t, t1, t2, ?_, ?_, ?_⟩
      · rw [e1, e4]; exact t3
      · rw [e4]; exact t4
      · rw [pm_uok, if_neg e2]
        refine ⟨⟨base.1, base.2.1, base.2.2, ?_⟩, fun _ => ?_⟩
        · rw [hc]
          show (v.1 8).toInt ≤ 24
          rw [e8]; exact n24
        · rw [hc]; exact t5
    · have h2 := hbi.2.resolve_left h1
      rw [if_pos h2] at hc
      have q2 := rm_pop2 h1 h
      have e1 : pd_lb (fu + 1) u (tp_ (b :: r)) (nI (K + 1)) = (nI b, u) := by
        rw [pd_lb_s, if_neg (by rw [nI_le0 (by omega)]; omega)]
        show (if pd_isEnter u (nI b) = 0 then (nI b, u) else _) = _
        rw [ie_eq h.1.1.2.1 hb24, if_neg h1, if_pos rfl]
      obtain ⟨e, f1, f2, f3, f4, f5⟩ := be_ok (v := st_sa (st_si v 13 (nI r.length)) 10 b c) (g := g) e8 e6 hn hw (by omega : b < n) hbi.2
      have hie : i ≤ e := by
        rcases Nat.lt_or_ge e i with z | z
        · exact absurd (hx b List.mem_cons_self) (sk_gone f3 f4 i z)
        · exact z
      have hne : i ≠ e := fun z => ho (z ▸ f3)
      have e3 : (pm_close v).2.2 6 (ix (v.2 12 (ix (v.1 13 - 1)))) = 2 := by
        rw [hc, eb, ix_n (by omega)]
        show v.2 6 b = 2
        rw [e6, h2]
      have e4 : pm_uw (fv + 1) v = (nI (e + 1), st_sa (st_si v 13 (nI r.length)) 10 b c) := by
        rw [pm_uw_s, if_neg e2, if_pos e3, hc, eb, ix_n (by omega)]
        show (pm_behind (st_sa (st_si v 13 (nI r.length)) 10 b (v.1 14)) (nI b), st_sa (st_si v 13 (nI r.length)) 10 b (v.1 14)) = _
        rw [hv, f5]
      have e5 : pd_lt u (nI b) = st_si (st_sa u 12 b c) 16 (nI (e + 1)) := by
        unfold pd_lt
        rw [if_neg (nI_m1 (by omega)), ix_n (by omega), hu, h.1.1.2.2.2.2.1, hp.2.2.2.2.2.1 e f2 f3 b _ f4, nI_1]
      have e9 : sk_ (g.2 5) (e + 1) = r := by
        rw [sk_s, if_neg (by rw [f3]; decide), if_pos f3, f4, hr]; rfl
      refine ⟨e + 1, by omega, by omega, ?_, ?_, ?_⟩
      · rw [e1, e4, e9]
        show rm_ g (pd_lt u (nI b)) _ r _
        rw [e5]
        exact rm_ra _ (rm_res _ _ q2)
      · rw [e4]
      · rw [pm_uok, if_neg e2]
        refine ⟨⟨base.1, base.2.1, base.2.2, ?_⟩, fun z => absurd e3 z⟩
        rw [hc]
        show (v.1 8).toInt ≤ 24
        rw [e8]; exact n24
theorem tp_in {op : Nat → Int32} {j : Nat} (hj : j ≤ 24) : tp_ (sk_ op j) = -1 ∨ vp_in (tp_ (sk_ op j)) 24 := by
  cases h : sk_ op j with
  | nil => exact Or.inl rfl
  | cons b r =>
    have := (sk_mem j b (by rw [h]; exact List.mem_cons_self)).1
    exact Or.inr (vp_in_nI (by omega) (by decide))
theorem run_ok {g : st_T} {n : Nat} (hg : lr_ g) (hp : pv_ g n) (hw : sk_ (g.2 5) n = []) (har : ∀ j, j < 24 → g.2 7 j = -1 ∨ vp_in (g.2 7 j) 24) : ∀ (fu i j fv ra : Nat) (u v : st_T) (d : Int32), rm_ g u v (sk_ (g.2 5) j) (nI ra) → i ≤ j → j ≤ n → (i = j ∧ ra ≤ i ∨ i < j ∧ ra = j) → n - i < fu → n - j < fv →
    pd_rok fu u (nI i) ∧ pm_rok fv v (nI j) ∧ (pd_rl fu u d (nI i)).1 = (pm_rl fv v d (nI j)).1 ∧ ∃ ra2, rm_ g (pd_rl fu u d (nI i)).2 (pm_rl fv v d (nI j)).2 [] ra2 := by
  have hn := hp.2.1
  intro fu
  induction fu with
  | zero => intro i j fv ra u v d h1 h2 h3 h4 h5; omega
  | succ fu ih =>
    intro i j fv ra u v d h hij hjn hra hfu hfv
    have e9 : u.1 9 = nI n := h.1.1.2.2.2.2.2.1.trans hp.1
    have e8 : v.1 8 = nI n := h.1.2.2.2.2.1.trans hp.1
    have e16 : u.1 16 = nI ra := h.2.2.2
    rcases hra with ⟨rfl, hra⟩ | ⟨hlt, rfl⟩
    · obtain ⟨fv, rfl⟩ : ∃ k, fv = k + 1 := ⟨fv - 1, by omega⟩
      rcases Nat.lt_or_ge i n with hin | hin
      · have a1 : ¬ u.1 9 ≤ nI i := by rw [e9, nI_leI (by omega) (by omega)]; omega
        have a2 : ¬ v.1 8 ≤ nI i := by rw [e8, nI_leI (by omega) (by omega)]; omega
        have a3 : ¬ nI i < u.1 16 := by rw [e16, nI_ltI (by omega) (by omega)]; omega
        have hi24 : i < 24 := by omega
        have hk := wk_all hg hp hin (rm_code 0 0 h) (by rw [rs_1, if_pos rfl]) (by rw [rs_1, if_pos rfl])
        have hlen := hp.2.2.1 i (by omega)
        have k1 : v.1 13 = nI (sk_ (g.2 5) i).length := h.2.2.1.1
        have ev : (st_si v 14 0).2 6 (ix (nI i)) = g.2 5 i := op_v (rm_code 0 0 h) hi24
        have f7 : u.2 7 (ix (nI i)) = tp_ (sk_ (g.2 5) i) := by rw [h.1.1.2.2.2.1, ix_n (by omega), hp.2.2.2.2.1 i hin]
        have hwok : pm_wok (st_si v 14 0) (nI i) := by
          refine ⟨vp_in_nI hi24 (by decide), ?_, h.2.2.1.2.2.1, ?_, ?_⟩
          · show ∀ j : Nat, j < 5 → vp_in (v.2 0 j) 520
            rw [h.1.2.1]; exact hg
          · rw [ev]
            intro z
            have hne := hp.2.2.2.1 i hin z
            show vp_in (v.1 13 - 1) 8
            rw [k1]
            cases hs : sk_ (g.2 5) i with
            | nil => exact absurd hs hne
            | cons b r =>
              rw [hs, List.length_cons] at hlen
              rw [List.length_cons, nI_sub1]
              exact vp_in_nI (by omega) (by decide)
          · rw [ev]
            intro z
            show vp_in (v.1 13) 8
            rw [k1]
            have := hp.2.2.1 (i + 1) (by omega)
            rw [sk_s, if_pos z, List.length_cons] at this
            exact vp_in_nI (by omega) (by decide)
        have hP7 : (pd_perform (st_si u 15 0) (nI i)).2.2 7 = g.2 7 := by
          rcases hk with ⟨-, -, -, q⟩ | ⟨c, -, -, -, -, q⟩ <;> exact q.1.1.2.2.2.1
        have hsok : pd_sok u (nI i) := by
          refine ⟨vp_in_nI hi24 (by decide), h.2.1.2.2.2.1, by rw [f7]; exact tp_in (by omega), ?_⟩
          rw [hP7]; exact har
        rw [pd_rl_s, if_neg a1, if_neg a3, pm_rl_s, if_neg a2, pd_rok, if_neg a1, if_neg a3, pm_rok, if_neg a2]
        rcases hk with ⟨q1, q2, q3, q4⟩ | ⟨c, c0, q1, q2, q3, q4⟩
        · rw [if_pos q2, if_pos q2]
          have ed : pd_doStep u (nI i) = st_sa (pd_perform (st_si u 15 0) (nI i)).2 12 (ix (nI i)) (pm_work (st_si v 14 0) (nI i)).1 := by
            unfold pd_doStep
            rw [if_pos q1, q3]
          rw [ed, nI_1]
          obtain ⟨r1, r2, r3, r4⟩ := ih (i + 1) (i + 1) fv ra _ _ (d + 1) (rm_res (ix (nI i)) (pm_work (st_si v 14 0) (nI i)).1 q4) (Nat.le_refl _) (by omega) (Or.inl ⟨rfl, by omega⟩) (by omega) (by omega)
          exact ⟨⟨hsok, r1⟩, ⟨hwok, r2⟩, r3, r4⟩
        · have c2 : ¬ (pm_work (st_si v 14 0) (nI i)).2.1 14 = 0 := by rw [q2]; exact c0
          have c1 : ¬ (pd_perform (st_si u 15 0) (nI i)).2.1 15 = 0 := by rw [q1]; exact c0
          rw [if_neg c2, if_neg c2]
          have hm : rm_ g (st_sa (pd_perform (st_si u 15 0) (nI i)).2 12 (ix (nI i)) ((pd_perform (st_si u 15 0) (nI i)).2.1 15 + -1000)) (st_sa (pm_work (st_si v 14 0) (nI i)).2 10 (ix (nI i)) ((pm_work (st_si v 14 0) (nI i)).2.1 14 - 1000)) (sk_ (g.2 5) i) (nI ra) := by
            rw [q1, q2, Int32.sub_eq_add_neg]
            exact rm_res _ _ q4
          obtain ⟨t, t1, t2, t3, t4, t5⟩ := lb_ok hg hp hw hin q3 (sk_ (g.2 5) i) 8 9 9 _ _ _ c hm ⟨i, rfl⟩ (fun x hx => hx) q1 q2 (by omega) (by omega) (by omega) (by omega)
          have ed : pd_doStep u (nI i) = pd_lt (pd_lb 9 (st_sa (pd_perform (st_si u 15 0) (nI i)).2 12 (ix (nI i)) ((pd_perform (st_si u 15 0) (nI i)).2.1 15 + -1000)) (tp_ (sk_ (g.2 5) i)) (nI 8)).2 (pd_lb 9 (st_sa (pd_perform (st_si u 15 0) (nI i)).2 12 (ix (nI i)) ((pd_perform (st_si u 15 0) (nI i)).2.1 15 + -1000)) (tp_ (sk_ (g.2 5) i)) (nI 8)).1 := by
            unfold pd_doStep
            rw [if_neg c1]
            unfold pd_leaveBlocks
            have e7 : (st_sa (pd_perform (st_si u 15 0) (nI i)).2 12 (ix (nI i)) ((pd_perform (st_si u 15 0) (nI i)).2.1 15 + -1000)).2 7 (ix (nI i)) = tp_ (sk_ (g.2 5) i) := by
              show (pd_perform (st_si u 15 0) (nI i)).2.2 7 (ix (nI i)) = _
              rw [hP7, ix_n (by omega), hp.2.2.2.2.1 i hin]
            rw [e7]
            rfl
          rw [← ed] at t3
          have t3' : rm_ g (pd_doStep u (nI i)) (pm_unwind (st_sa (pm_work (st_si v 14 0) (nI i)).2 10 (ix (nI i)) ((pm_work (st_si v 14 0) (nI i)).2.1 14 - 1000))).2 (sk_ (g.2 5) t) (nI t) := t3
          have t4' : (pm_unwind (st_sa (pm_work (st_si v 14 0) (nI i)).2 10 (ix (nI i)) ((pm_work (st_si v 14 0) (nI i)).2.1 14 - 1000))).1 = nI t := t4
          rw [t4', nI_1 i]
          obtain ⟨r1, r2, r3, r4⟩ := ih (i + 1) t fv t _ _ (d + 1) t3' (by omega) t2 (by omega) (by omega) (by omega)
          exact ⟨⟨hsok, r1⟩, ⟨hwok, t5, r2⟩, r3, r4⟩
      · have e : i = n := by omega
        subst e
        have a1 : u.1 9 ≤ nI i := by rw [e9, nI_leI (by omega) (by omega)]; omega
        have a2 : v.1 8 ≤ nI i := by rw [e8, nI_leI (by omega) (by omega)]; omega
        rw [pd_rl_s, if_pos a1, pm_rl_s, if_pos a2, pd_rok, if_pos a1, pm_rok, if_pos a2]
        rw [hw] at h
        exact ⟨trivial, trivial, rfl, nI ra, h⟩
    · have a1 : ¬ u.1 9 ≤ nI i := by rw [e9, nI_leI (by omega) (by omega)]; omega
      have a3 : nI i < u.1 16 := by rw [e16, nI_ltI (by omega) (by omega)]; omega
      rw [pd_rl_s, if_neg a1, if_pos a3, pd_rok, if_neg a1, if_pos a3, nI_1]
      exact ih (i + 1) ra fv ra u v d h (by omega) hjn (by omega) (by omega) hfv
