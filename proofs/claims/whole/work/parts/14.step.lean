/-! step answers alike -/
theorem sk_congr {op op2 : Nat → Int32} : ∀ j, (∀ i, i < j → op2 i = op i) → sk_ op2 j = sk_ op j := by
  intro j
  induction j with
  | zero => intro _; rfl
  | succ j ih =>
    intro h
    rw [sk_s, sk_s, h j (Nat.lt_succ_self j), ih (fun i hi => h i (Nat.lt_succ_of_lt hi))]
theorem pv_step {u w : st_T} {n : Nat} {a : Int32} (hp : pv_ u n) (hn : n < 24) (ha : vp_in a 16) (w5 : w.2 5 = upd (u.2 5) n a) (w7 : w.2 7 = upd (u.2 7) n (tp_ (sk_ (u.2 5) n))) (w9 : w.1 9 = nI (n + 1)) (h0 : a = 0 → ¬ sk_ (u.2 5) n = []) (h1 : a = 1 ∨ a = 2 → (sk_ (u.2 5) n).length < 8)
    (w8 : (¬ a = 0 ∧ w.2 8 = u.2 8) ∨ (a = 0 ∧ ∃ b r, sk_ (u.2 5) n = b :: r ∧ w.2 8 = upd (u.2 8) b (nI n))) : pv_ w (n + 1) ∧ sk_ (w.2 5) (n + 1) = if a = 1 ∨ a = 2 then n :: sk_ (u.2 5) n else if a = 0 then (sk_ (u.2 5) n).tail else sk_ (u.2 5) n := by
  obtain ⟨-, -, p3, p4, p5, p6, p7⟩ := hp
  have hs : ∀ j, j ≤ n → sk_ (w.2 5) j = sk_ (u.2 5) j := fun j hj => sk_congr j (fun i hi => by rw [w5, up_n _ _ (by omega)])
  have ho : ∀ j, j < n → w.2 5 j = u.2 5 j := fun j hj => by rw [w5, up_n _ _ (by omega)]
  have hon : w.2 5 n = a := by rw [w5, up_s]
  have hsn : sk_ (w.2 5) (n + 1) = if a = 1 ∨ a = 2 then n :: sk_ (u.2 5) n else if a = 0 then (sk_ (u.2 5) n).tail else sk_ (u.2 5) n := by
    rw [sk_s, hon, hs n (Nat.le_refl _)]
  refine ⟨⟨w9, by omega, ?_, ?_, ?_, ?_, ?_⟩, hsn⟩
  · intro j hj
    rcases Nat.lt_or_ge n j with z | z
    · rw [show j = n + 1 by omega, hsn]
      have := p3 n (Nat.le_refl _)
      by_cases h2 : a = 1 ∨ a = 2
      · rw [if_pos h2, List.length_cons]
        have := h1 h2
        omega
      · rw [if_neg h2]
        split
        · rw [List.length_tail]; omega
        · exact this
    · rw [hs j z]; exact p3 j z
  · intro j hj hj0
    rcases Nat.lt_or_ge j n with z | z
    · rw [ho j z] at hj0
      rw [hs j (by omega)]
      exact p4 j z hj0
    · have e : j = n := by omega
      subst e
      rw [hon] at hj0
      rw [hs j (Nat.le_refl _)]
      exact h0 hj0
  · intro j hj
    rcases Nat.lt_or_ge j n with z | z
    · rw [w7, up_n _ _ (by omega), hs j (by omega)]
      exact p5 j z
    · have e : j = n := by omega
      subst e
      rw [w7, up_s, hs j (Nat.le_refl _)]
  · intro j hj hj0 b r hb
    rcases Nat.lt_or_ge j n with z | z
    · rw [ho j z] at hj0
      rw [hs j (by omega)] at hb
      have q := p6 j z hj0 b r hb
      rcases w8 with ⟨-, e⟩ | ⟨-, b2, r2, e2, e⟩
      · rw [e]; exact q
      · rw [e, up_n _ _ (fun x => sk_gone hj0 hb n z (by rw [e2, x]; exact List.mem_cons_self))]
        exact q
    · have e : j = n := by omega
      subst e
      rw [hon] at hj0
      rw [hs j (Nat.le_refl _)] at hb
      rcases w8 with ⟨e, -⟩ | ⟨-, b2, r2, e2, e⟩
      · exact absurd hj0 e
      · rw [hb] at e2
        cases e2
        rw [e, up_s]
  · intro j hj
    rcases Nat.lt_or_ge j n with z | z
    · rw [ho j z]; exact p7 j z
    · have e : j = n := by omega
      subst e
      rw [hon]; exact ha
theorem ob_1 {a : Int32} (h : a = 1 ∨ a = 2) : pd_opensBlock a = 1 := by rcases h with rfl | rfl <;> decide
theorem ob_0 {a : Int32} (h : ¬ (a = 1 ∨ a = 2)) : pd_opensBlock a = 0 := by
  unfold pd_opensBlock
  rw [if_neg (fun z => h (Or.inl z)), if_neg (fun z => h (Or.inr z))]
theorem ca_step {u v : st_T} {k : Nat} (h : ri_ u v k) (hk : k < 512) (a c : Int32) : ¬ u.1 9 < 0 ∧ (u.1 11 = -1 ∨ vp_in (u.1 11) 24) ∧ (v.1 8 = 24 ∨ vp_in (v.1 8) 24) ∧ (pd_step u a c).1 = (pm_step v a c).1 ∧ ri_ (pd_step u a c).2 (pm_step v a c).2 (k + 1) := by
  have hnx := ri_next h hk
  obtain ⟨n, m, hm, -, hp, h10, h11, h1, hl, har, ⟨⟨s0, s5, s6, s7, s8, s9, s10, s11, s1⟩, t0, t6, t7, t8, t9, t2⟩, ⟨d2, d3, d4, d5, d12, d13⟩, hz, hb⟩ := h
  have hn := hp.2.1
  have hlen := hp.2.2.1 n (Nat.le_refl _)
  have e9 : u.1 9 = nI n := hp.1
  have e8 : v.1 8 = nI n := t8.trans e9
  have ev9 : v.1 9 = nI (sk_ (u.2 5) n).length := t9.trans h10
  refine ⟨by rw [e9]; exact nI_pos (by omega), by rw [h11]; exact tp_in (by omega), ?_, ?_⟩
  · rw [e8]
    by_cases e : n = 24
    · exact Or.inl (by rw [e]; decide)
    · exact Or.inr (vp_in_nI (by omega) (by decide))
  · by_cases a1 : a < 0
    · unfold pd_step pm_step
      rw [if_pos a1, if_pos (pin_0.mpr (Or.inl a1))]
      exact ⟨rfl, hnx⟩
    · by_cases a2 : 15 < a
      · unfold pd_step pm_step
        rw [if_neg a1, if_pos a2, if_pos (pin_0.mpr (Or.inr ((i_lt (by decide)).mp a2)))]
        exact ⟨rfl, hnx⟩
      · have a3 : ¬ pm_in a 16 = 0 := fun z => (pin_0.mp z).elim a1 (fun q => a2 ((i_lt (by decide)).mpr q))
        have hin : vp_in a 16 := pi_in (by decide) a3
        by_cases hn24 : n = 24
        · unfold pd_step pm_step
          rw [if_neg a1, if_neg a2, if_neg (by rw [e9, hn24]; decide : ¬ u.1 9 < 24), if_neg a3, if_pos (by rw [e8, hn24]; decide : v.1 8 = 24)]
          exact ⟨rfl, hnx⟩
        · have hlt : u.1 9 < 24 := by
            rw [e9, show (24 : Int32) = nI 24 from by decide, nI_ltI (by omega) (by decide)]
            omega
          have hne : ¬ v.1 8 = 24 := by
            rw [e8, show (24 : Int32) = nI 24 from by decide, nI_eq (by omega) (by decide)]
            exact hn24
          have e97 : ix (u.1 9) = n := by rw [e9]; exact ix_n (by omega)
          have e87 : ix (v.1 8) = n := by rw [e8]; exact ix_n (by omega)
          have har2 : ∀ j, j < 24 → upd (u.2 7) n (u.1 11) j = -1 ∨ vp_in (upd (u.2 7) n (u.1 11) j) 24 := fun j hj => by
            by_cases e : j = n
            · rw [e, up_s, h11]; exact tp_in (by omega)
            · rw [up_n _ _ e]; exact har j hj
          unfold pd_step pm_step
          rw [if_neg a1, if_neg a2, if_pos hlt, if_neg a3, if_neg hne]
          by_cases a0 : a = 0
          · subst a0
            rw [if_pos rfl, if_neg (by decide : ¬ (0 : Int32) = 1), if_neg (by decide : ¬ (0 : Int32) = 2), if_pos rfl]
            cases hs : sk_ (u.2 5) n with
            | nil =>
              rw [if_pos (by rw [h11, hs]; rfl : u.1 11 = -1), if_pos (by rw [ev9, hs]; rfl : v.1 9 = 0)]
              exact ⟨rfl, hnx⟩
            | cons b r =>
              have hb24 := (sk_mem n b (by rw [hs]; exact List.mem_cons_self)).1
              have hr := sk_rest hs
              have e11 : u.1 11 = nI b := by rw [h11, hs]; rfl
              have lb := hlen
              rw [hs, List.length_cons] at lb
              have e10 : u.1 10 = nI (r.length + 1) := by rw [h10, hs, List.length_cons]
              rw [if_neg (by rw [e11]; exact nI_m1 (by omega) : ¬ u.1 11 = -1), if_pos (by decide : pd_opensBlock 0 = 0), if_neg (by rw [t9, e10, nI_eq0 (by omega)]; omega : ¬ v.1 9 = 0)]
              unfold pd_step_86
              rw [if_pos (by decide : pd_opensBlock 0 = 0), if_pos rfl]
              have e117 : ix (u.1 11) = b := by rw [e11]; exact ix_n (by omega)
              have ear : (st_sa (st_sa (st_sa u 5 (ix (u.1 9)) 0) 6 (ix (u.1 9)) c) 7 (ix (u.1 9)) (u.1 11)).2 7 (ix (u.1 11)) = tp_ r := by
                show upd (u.2 7) (ix (u.1 9)) (u.1 11) (ix (u.1 11)) = tp_ r
                rw [e97, e117, up_n _ _ (by omega), hp.2.2.2.2.1 b hb24, hr]
              rw [ear, e97, e117, e87, t9]
              have hq := pv_step (w := st_si (st_si (st_si (st_sa (st_sa (st_sa (st_sa u 5 n 0) 6 n c) 7 n (u.1 11)) 8 b (u.1 9)) 11 (tp_ r)) 10 (u.1 10 - 1)) 9 (u.1 9 + 1)) hp (by omega) hin rfl (by rw [← h11]; rfl) (by rw [rs_1, if_pos rfl, e9, nI_1]) (fun _ z => by rw [hs] at z; cases z) (fun z => absurd z (by decide)) (Or.inr ⟨rfl, b, r, hs, by rw [← e9]; rfl⟩)
              rw [if_neg (by decide), if_pos rfl, hs, List.tail_cons] at hq
              obtain ⟨hq1, hq2⟩ := hq
              refine ⟨by rw [e9, e8], n + 1, m, by omega, by omega, hq1, ?_, ?_, h1, hl, har2, ⟨⟨rfl, rfl, rfl, rfl, rfl, rfl, rfl, rfl, rfl⟩, t0, ?_, ?_, ?_, rfl, t2⟩, ⟨d2, d3, d4, d5, d12, d13⟩, hz, hb⟩
              · rw [hq2]
                show u.1 10 - 1 = nI r.length
                rw [e10, nI_sub1]
              · rw [hq2]; rfl
              · show upd (v.2 6) n 0 = upd (u.2 5) n 0
                rw [t6]
              · show upd (v.2 7) n c = upd (u.2 6) n c
                rw [t7]
              · show v.1 8 + 1 = u.1 9 + 1
                rw [t8]
          · rw [if_neg a0]
            by_cases a12 : a = 1 ∨ a = 2
            · have ob : ¬ pd_opensBlock a = 0 := by rw [ob_1 a12]; decide
              rw [if_neg ob]
              have hm2 : (if a = 1 then if v.1 9 = 8 then ((-1 : Int32), v) else (v.1 8 + 1, st_si (st_si (st_sa (st_sa v 6 (ix (v.1 8)) a) 7 (ix (v.1 8)) c) 8 (v.1 8 + 1)) 9 (v.1 9 + 1)) else if a = 2 then if v.1 9 = 8 then ((-1 : Int32), v) else (v.1 8 + 1, st_si (st_si (st_sa (st_sa v 6 (ix (v.1 8)) a) 7 (ix (v.1 8)) c) 8 (v.1 8 + 1)) 9 (v.1 9 + 1)) else if a = 0 then if v.1 9 = 0 then ((-1 : Int32), v) else (v.1 8 + 1, st_si (st_si (st_sa (st_sa v 6 (ix (v.1 8)) a) 7 (ix (v.1 8)) c) 8 (v.1 8 + 1)) 9 (v.1 9 - 1)) else (v.1 8 + 1, st_si (st_sa (st_sa v 6 (ix (v.1 8)) a) 7 (ix (v.1 8)) c) 8 (v.1 8 + 1))) = if v.1 9 = 8 then ((-1 : Int32), v) else (v.1 8 + 1, st_si (st_si (st_sa (st_sa v 6 (ix (v.1 8)) a) 7 (ix (v.1 8)) c) 8 (v.1 8 + 1)) 9 (v.1 9 + 1)) := by
                rcases a12 with e | e
                · rw [if_pos e]
                · rw [if_neg (by rw [e]; decide : ¬ a = 1), if_pos e]
              rw [hm2]
              by_cases h8 : (sk_ (u.2 5) n).length = 8
              · rw [if_neg (by rw [h10, h8]; decide : ¬ u.1 10 < 8), if_pos (by rw [ev9, h8]; decide : v.1 9 = 8)]
                exact ⟨rfl, hnx⟩
              · have l8 : u.1 10 < 8 := by
                  rw [h10, show (8 : Int32) = nI 8 from by decide, nI_ltI (by omega) (by decide)]
                  omega
                have n8 : ¬ v.1 9 = 8 := by
                  rw [ev9, show (8 : Int32) = nI 8 from by decide, nI_eq (by omega) (by decide)]
                  exact h8
                rw [if_pos l8, if_neg n8]
                unfold pd_step_86
                rw [if_neg ob, e97, e87, t9]
                have hq := pv_step (w := st_si (st_si (st_si (st_sa (st_sa (st_sa u 5 n a) 6 n c) 7 n (u.1 11)) 11 (u.1 9)) 10 (u.1 10 + 1)) 9 (u.1 9 + 1)) hp (by omega) hin rfl (by rw [← h11]; rfl) (by rw [rs_1, if_pos rfl, e9, nI_1]) (fun z => absurd z a0) (fun _ => by omega) (Or.inl ⟨a0, rfl⟩)
                rw [if_pos a12] at hq
                obtain ⟨hq1, hq2⟩ := hq
                refine ⟨by rw [e9, e8], n + 1, m, by omega, by omega, hq1, ?_, ?_, h1, hl, har2, ⟨⟨rfl, rfl, rfl, rfl, rfl, rfl, rfl, rfl, rfl⟩, t0, ?_, ?_, ?_, rfl, t2⟩, ⟨d2, d3, d4, d5, d12, d13⟩, hz, hb⟩
                · rw [hq2, List.length_cons]
                  show u.1 10 + 1 = _
                  rw [h10, nI_1]
                · rw [hq2]
                  exact e9
                · show upd (v.2 6) n a = upd (u.2 5) n a
                  rw [t6]
                · show upd (v.2 7) n c = upd (u.2 6) n c
                  rw [t7]
                · show v.1 8 + 1 = u.1 9 + 1
                  rw [t8]
            · have ob : pd_opensBlock a = 0 := ob_0 a12
              rw [if_pos ob, if_neg (fun z => a12 (Or.inl z)), if_neg (fun z => a12 (Or.inr z)), if_neg a0]
              unfold pd_step_86
              rw [if_pos ob, if_neg a0, e97, e87]
              have hq := pv_step (w := st_si (st_sa (st_sa (st_sa u 5 n a) 6 n c) 7 n (u.1 11)) 9 (u.1 9 + 1)) hp (by omega) hin rfl (by rw [← h11]; rfl) (by rw [rs_1, if_pos rfl, e9, nI_1]) (fun z => absurd z a0) (fun z => absurd z a12) (Or.inl ⟨a0, rfl⟩)
              rw [if_neg a12, if_neg a0] at hq
              obtain ⟨hq1, hq2⟩ := hq
              refine ⟨by rw [e9, e8], n + 1, m, by omega, by omega, hq1, ?_, ?_, h1, hl, har2, ⟨⟨rfl, rfl, rfl, rfl, rfl, rfl, rfl, rfl, rfl⟩, t0, ?_, ?_, ?_, t9, t2⟩, ⟨d2, d3, d4, d5, d12, d13⟩, hz, hb⟩
              · rw [hq2]
                exact h10
              · rw [hq2]
                exact h11
              · show upd (v.2 6) n a = upd (u.2 5) n a
                rw [t6]
              · show upd (v.2 7) n c = upd (u.2 6) n c
                rw [t7]
              · show v.1 8 + 1 = u.1 9 + 1
                rw [t8]
