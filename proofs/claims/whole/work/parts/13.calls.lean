/-! between calls: k calls have been made; every call answers alike -/
def ri_ (u v : st_T) (k : Nat) : Prop := ∃ n m : Nat, m ≤ k ∧ k ≤ 512 ∧ pv_ u n ∧ u.1 10 = nI (sk_ (u.2 5) n).length ∧ u.1 11 = tp_ (sk_ (u.2 5) n) ∧ u.1 1 = nI m ∧ (∀ j, j < 5 → ∃ x, x ≤ m ∧ u.2 0 j = nI x) ∧ (∀ j, j < 24 → u.2 7 j = -1 ∨ vp_in (u.2 7 j) 24) ∧ rs_ u u v ∧ rd_ u v ∧ (∀ l, v.2 1 l = 0) ∧ ∀ j, j < 8 → vp_in (v.2 12 j) 24
theorem pin_0 {x M : Int32} : pm_in x M = 0 ↔ x < 0 ∨ M ≤ x := by
  unfold pm_in
  by_cases h1 : x < 0
  · rw [if_pos h1]; exact ⟨fun _ => Or.inl h1, fun _ => rfl⟩
  · rw [if_neg h1]
    by_cases h2 : M ≤ x
    · rw [if_pos h2]; exact ⟨fun _ => Or.inr h2, fun _ => rfl⟩
    · rw [if_neg h2]
      exact ⟨fun z => absurd z (by decide), fun z => z.elim (fun a => absurd a h1) (fun a => absurd a h2)⟩
theorem i_lt5 {x : Int32} : x < 5 ↔ x ≤ 4 := by
  rw [Int32.lt_iff_toInt_lt, Int32.le_iff_toInt_le, show (5 : Int32).toInt = 5 by decide, show (4 : Int32).toInt = 4 by decide]
  omega
theorem i_lt {x M N : Int32} (h : M.toInt + 1 = N.toInt) : M < x ↔ N ≤ x := by
  rw [Int32.lt_iff_toInt_lt, Int32.le_iff_toInt_le]
  omega
theorem i_nle {x M : Int32} : ¬ M ≤ x ↔ x < M := by
  rw [Int32.lt_iff_toInt_lt, Int32.le_iff_toInt_le]
  omega
theorem pv_of {a b : st_T} {n : Nat} (h : pv_ a n) (e9 : b.1 9 = a.1 9) (e5 : b.2 5 = a.2 5) (e7 : b.2 7 = a.2 7) (e8 : b.2 8 = a.2 8) : pv_ b n := by
  unfold pv_ at h ⊢
  rw [e9, e5, e7, e8]
  exact h
theorem ri_init : ri_ pd_init pm_init 0 := by
  refine ⟨0, 0, Nat.le_refl _, by omega, ⟨rfl, by omega, ?_, ?_, ?_, ?_, ?_⟩, rfl, rfl, rfl, fun j _ => ⟨0, Nat.le_refl _, rfl⟩, fun j _ => Or.inr (in_z (by decide)), ⟨⟨rfl, rfl, rfl, rfl, rfl, rfl, rfl, rfl, rfl⟩, rfl, rfl, rfl, rfl, rfl, rfl⟩, ⟨rfl, rfl, rfl, Or.inl rfl, rfl, rfl⟩, fun l => rfl, fun j _ => in_z (by decide)⟩
  · intro j hj
    rw [show j = 0 by omega]
    exact Nat.zero_le _
  all_goals intro j hj; exact absurd hj (Nat.not_lt_zero j)
/-- one more call that changes nothing -/
theorem ri_next {u v : st_T} {k : Nat} (h : ri_ u v k) (hk : k < 512) : ri_ u v (k + 1) := by
  obtain ⟨n, m, hm, -, hr⟩ := h
  exact ⟨n, m, by omega, by omega, hr⟩
theorem ri_lock {u v : st_T} {k : Nat} (h : ri_ u v k) (hk : k < 512) {j : Nat} {x : Int32} (hx : x = 0 ∨ ∃ i, i < 5 ∧ x = u.2 0 i) : ri_ (st_sa u 0 j x) (st_sa v 0 j x) (k + 1) := by
  obtain ⟨n, m, hm, -, hp, h10, h11, h1, hl, ha, ⟨⟨s0, s5, s6, s7, s8, s9, s10, s11, s1⟩, t0, t6, t7, t8, t9, t2⟩, hd, hz, hb⟩ := h
  refine ⟨n, m, by omega, by omega, hp, h10, h11, h1, ?_, ha, ⟨⟨rfl, rfl, rfl, rfl, rfl, rfl, rfl, rfl, rfl⟩, ?_, t6, t7, t8, t9, t2⟩, hd, hz, hb⟩
  · intro i hi
    rw [rs_4, if_pos rfl]
    by_cases e : i = j
    · subst e
      rw [up_s]
      rcases hx with rfl | ⟨i2, hi2, rfl⟩
      · exact ⟨0, Nat.zero_le _, rfl⟩
      · exact hl i2 hi2
    · rw [up_n _ _ e]
      exact hl i hi
  · rw [rs_4, rs_4, if_pos rfl, if_pos rfl, t0]
theorem ri_new {u v : st_T} {k : Nat} (h : ri_ u v k) (hk : k < 512) {j : Nat} : ri_ (st_sa (st_si u 1 (u.1 1 + 1)) 0 j (u.1 1 + 1)) (st_sa (st_si v 2 (v.1 2 + 1)) 0 j (v.1 2 + 1)) (k + 1) := by
  obtain ⟨n, m, hm, -, hp, h10, h11, h1, hl, ha, ⟨⟨s0, s5, s6, s7, s8, s9, s10, s11, s1⟩, t0, t6, t7, t8, t9, t2⟩, hd, hz, hb⟩ := h
  refine ⟨n, m + 1, by omega, by omega, hp, h10, h11, ?_, ?_, ha, ⟨⟨rfl, rfl, rfl, rfl, rfl, rfl, rfl, rfl, rfl⟩, ?_, t6, t7, t8, t9, ?_⟩, hd, hz, hb⟩
  · rw [rs_3, rs_1, if_pos rfl, h1, nI_1]
  · intro i hi
    rw [rs_4, if_pos rfl]
    by_cases e : i = j
    · subst e
      rw [up_s, h1, nI_1]
      exact ⟨m + 1, Nat.le_refl _, rfl⟩
    · rw [up_n _ _ e]
      obtain ⟨x, q1, q2⟩ := hl i hi
      exact ⟨x, by omega, q2⟩
  · rw [rs_4, rs_4, if_pos rfl, if_pos rfl, rs_2, rs_2, t0, t2]
  · rw [rs_3, rs_3, rs_1, rs_1, if_pos rfl, if_pos rfl, t2]
theorem ca_hold {u v : st_T} {k : Nat} (h : ri_ u v k) (hk : k < 512) (a b : Int32) : (pd_hold u a b).1 = (pm_hold v a b).1 ∧ ri_ (pd_hold u a b).2 (pm_hold v a b).2 (k + 1) := by
  have hn := ri_next h hk
  unfold pd_hold pm_hold
  by_cases h1 : a < 0
  · rw [if_pos h1, if_pos (pin_0.mpr (Or.inl h1))]; exact ⟨rfl, hn⟩
  · by_cases h2 : 5 ≤ a
    · rw [if_neg h1, if_pos h2, if_pos (pin_0.mpr (Or.inr h2))]; exact ⟨rfl, hn⟩
    · rw [if_neg h1, if_neg h2, if_neg (fun z => (pin_0.mp z).elim h1 h2)]
      by_cases h3 : b < -2
      · rw [if_pos h3, if_pos h3]; exact ⟨rfl, hn⟩
      · rw [if_neg h3, if_neg h3]
        by_cases h4 : b < 5
        · rw [if_pos h4, if_pos (i_lt5.mp h4)]
          by_cases h5 : b = -2
          · rw [if_pos h5, if_pos h5]; exact ⟨rfl, ri_new h hk⟩
          · rw [if_neg h5, if_neg h5]
            by_cases h6 : b = -1
            · rw [if_pos h6, if_pos h6]; exact ⟨rfl, ri_lock h hk (Or.inl rfl)⟩
            · rw [if_neg h6, if_neg h6]
              obtain ⟨n, m, _, _, _, _, _, _, _, _, ⟨_, t0, _⟩, _⟩ := id h
              rw [t0]
              exact ⟨rfl, ri_lock h hk (Or.inr ⟨ix b, ix_lt (in_3 h3 h4 h5 h6), rfl⟩)⟩
        · rw [if_neg h4, if_neg (fun z => h4 (i_lt5.mpr z))]; exact ⟨rfl, hn⟩
theorem ca_clear {u v : st_T} {k : Nat} (h : ri_ u v k) (hk : k < 512) : (pd_clear u).1 = (pm_clear v).1 ∧ ri_ (pd_clear u).2 (pm_clear v).2 (k + 1) := by
  obtain ⟨n, m, hm, -, hp, h10, h11, h1, hl, ha, ⟨⟨s0, s5, s6, s7, s8, s9, s10, s11, s1⟩, t0, t6, t7, t8, t9, t2⟩, hd, hz, hb⟩ := h
  unfold pd_clear pm_clear
  refine ⟨t8.symm, 0, m, by omega, by omega, ⟨rfl, by omega, ?_, ?_, ?_, ?_, ?_⟩, rfl, rfl, h1, hl, ha, ⟨⟨rfl, rfl, rfl, rfl, rfl, rfl, rfl, rfl, rfl⟩, t0, t6, t7, rfl, rfl, t2⟩, hd, hz, hb⟩
  · intro j hj
    rw [show j = 0 by omega]
    exact Nat.zero_le _
  all_goals intro j hj; exact absurd hj (Nat.not_lt_zero j)
theorem ca_result {u v : st_T} {k : Nat} (h : ri_ u v k) (a : Int32) : pd_result u a = pm_result v a := by
  obtain ⟨n, m, _, _, _, _, _, _, _, _, _, ⟨_, _, _, _, d12, _⟩, _⟩ := h
  unfold pd_result pm_result
  by_cases h1 : a < 0
  · rw [if_pos h1, if_pos (pin_0.mpr (Or.inl h1))]
  · by_cases h2 : a < 24
    · rw [if_neg h1, if_pos h2, if_neg (fun z => (pin_0.mp z).elim h1 (fun q => i_nle.mpr h2 q)), d12]
    · rw [if_neg h1, if_neg h2, if_pos (pin_0.mpr (Or.inr (Decidable.byContradiction fun q => h2 (i_nle.mp q))))]
theorem ca_failure {u v : st_T} {k : Nat} (h : ri_ u v k) : pd_failure u = pm_failure v := by
  obtain ⟨n, m, _, _, _, _, _, _, _, _, _, ⟨_, _, _, _, _, d13⟩, _⟩ := h
  exact d13
theorem ce_se {u v : st_T} (h : u.2 2 = v.2 3) : ∀ (n : Nat) (c i : Int32), pd_ce u n c i = pm_se v n c i := by
  intro n
  induction n with
  | zero => intro c i; rfl
  | succ n ih =>
    intro c i
    rw [pm_se_s]
    unfold pd_ce
    by_cases h4 : 4 ≤ i
    · rw [if_pos h4, if_pos h4]
    · rw [if_neg h4, if_neg h4, h, ih]
      unfold pd_asNumber
      by_cases h0 : v.2 3 (ix i) = 0
      · rw [if_pos h0, if_pos h0, Int32.add_zero]
      · rw [if_neg h0, if_neg h0]
theorem ca_state {u v : st_T} {k : Nat} (h : ri_ u v k) (a : Int32) : pd_state u a = pm_state v a := by
  obtain ⟨n, m, _, _, _, _, _, _, _, _, ⟨_, t0, _, _, t8, t9, _⟩, ⟨d2, d3, d4, d5, d12, d13⟩, _⟩ := h
  unfold pd_state pm_state
  by_cases h0 : a = 0
  · rw [if_pos h0, if_pos h0, t8]
  · rw [if_neg h0, if_neg h0]
    by_cases h1 : a = 1
    · rw [if_pos h1, if_pos h1, t9]
    · rw [if_neg h1, if_neg h1]
      by_cases h2 : a = 2
      · rw [if_pos h2, if_pos h2, d3]
      · rw [if_neg h2, if_neg h2]
        by_cases h3 : a = 3
        · rw [if_pos h3, if_pos h3, d4]
          rfl
        · rw [if_neg h3, if_neg h3]
          by_cases h4 : a = 4
          · rw [if_pos h4, if_pos h4, if_neg (by rw [h4]; decide)]
            exact ce_se d2 5 0 0
          · rw [if_neg h4, if_neg h4]
            unfold pd_handleState
            by_cases hin : pm_in a 10 = 0
            · rw [if_pos hin]
              rcases pin_0.mp hin with z | z
              · rw [if_pos (Int32.lt_trans z (by decide))]
              · by_cases h5 : a < 5
                · rw [if_pos h5]
                · rw [if_neg h5, if_neg (fun q => i_nle.mpr q z)]
            · have hso := so_in h0 h1 h2 h3 h4 hin
              have hp := vp_in_iff.mp (pi_in (M := 10) (n := 10) (by decide) hin)
              obtain ⟨q1, q2⟩ := in_n hso (by decide)
              have h5 : ¬ a < 5 := by
                have z0 := lv_neT h0 (a := 0) (by decide)
                have z1 := lv_neT h1 (a := 1) (by decide)
                have z2 := lv_neT h2 (a := 2) (by decide)
                have z3 := lv_neT h3 (a := 3) (by decide)
                have z4 := lv_neT h4 (a := 4) (by decide)
                rw [Int32.lt_iff_toInt_lt, show (5 : Int32).toInt = 5 by decide]
                omega
              have h10 : a < 10 := by
                rw [Int32.lt_iff_toInt_lt, show (10 : Int32).toInt = 10 by decide]
                omega
              rw [if_neg hin, if_neg h5, if_pos h10]
              generalize a - 5 = y at hso q1 q2 ⊢
              rw [q1, ix_n (by omega)]
              generalize ix y = x at q2 ⊢
              have e0 : u.2 0 x = v.2 0 x := by rw [t0]
              by_cases hz : u.2 0 x = 0
              · rw [if_pos hz, pm_sl_s, if_pos (e0.symm.trans hz)]
              · have hz2 : ¬ v.2 0 x = 0 := fun z => hz (e0.trans z)
                rw [if_neg hz, least_le u q2, ← nI_0, sl_le v x q2 hz2 6 0 (Nat.zero_le _) (by omega), Nat.sub_zero, t0]
                rfl
theorem ca_run {u v : st_T} {k : Nat} (h : ri_ u v k) (hk : k < 512) : (u.1 10 = 0 → pd_rok 25 (pd_r0 u) 0) ∧ (v.1 9 ≤ 0 → pm_rok 25 (pm_r0 v) 0) ∧ (pd_run u).1 = (pm_run v).1 ∧ ri_ (pd_run u).2 (pm_run v).2 (k + 1) := by
  have hnx := ri_next h hk
  obtain ⟨n, m, hm, -, hp, h10, h11, h1, hl, ha, ⟨⟨s0, s5, s6, s7, s8, s9, s10, s11, s1⟩, t0, t6, t7, t8, t9, t2⟩, ⟨d2, d3, d4, d5, d12, d13⟩, hz, hb⟩ := h
  have hlen := hp.2.2.1 n (Nat.le_refl _)
  have hg : lr_ u := fun j hj => by
    obtain ⟨x, q1, q2⟩ := hl j hj
    rw [q2]
    exact vp_in_nI (by omega) (by decide)
  have b1 : u.1 10 = 0 ↔ sk_ (u.2 5) n = [] := by
    rw [h10, nI_eq0 (by omega)]
    exact List.length_eq_zero_iff
  have b2 : v.1 9 ≤ 0 ↔ sk_ (u.2 5) n = [] := by
    rw [t9, h10, nI_le0 (by omega)]
    exact List.length_eq_zero_iff
  by_cases hw : sk_ (u.2 5) n = []
  · have hrm : rm_ u (pd_r0 u) (pm_r0 v) (sk_ (u.2 5) 0) (nI 0) := by
      refine ⟨⟨⟨rfl, rfl, rfl, rfl, rfl, rfl, rfl, rfl, rfl⟩, t0, t6, t7, t8, t9, t2⟩, ⟨d2, d3, d4, d5, ?_, rfl⟩, ⟨rfl, trivial, hb, hz, ?_, fun b hb => by cases hb⟩, rfl⟩
      · show pj_fill 24 (-9) (u.2 12) = pj_fill 24 (-9) (v.2 10)
        rw [d12]
      · intro x hx _
        have := (le_ok (u.2 0) x).1
        show pj_fill 5 0 _ (le_ (u.2 0) x) = v.2 1 _
        rw [hz]
        exact if_pos (by omega)
    obtain ⟨r1, r2, r3, ra2, r4⟩ := run_ok hg hp hw ha 25 0 0 25 0 _ _ 0 hrm (Nat.le_refl _) (Nat.zero_le _) (Or.inl ⟨rfl, Nat.le_refl _⟩) (by have := hp.2.1; omega) (by have := hp.2.1; omega)
    have e1 : pd_run u = pd_rl 25 (pd_r0 u) 0 (nI 0) := by unfold pd_run; rw [if_pos (b1.mpr hw)]; rfl
    have e2 : pm_run v = pm_rl 25 (pm_r0 v) 0 (nI 0) := by unfold pm_run; rw [if_pos (b2.mpr hw)]; rfl
    refine ⟨fun _ => r1, fun _ => r2, by rw [e1, e2]; exact r3, ?_⟩
    rw [← e1, ← e2] at r4
    generalize (pd_run u).2 = u1 at r4 ⊢
    generalize (pm_run v).2 = v1 at r4 ⊢
    obtain ⟨⟨⟨a0, a5, a6, a7, a8, a9, a10, a11, a1⟩, c0, c6, c7, c8, c9, c2⟩, hd, ⟨k1, k2, k3, k4, k5, k6⟩, -⟩ := r4
    refine ⟨n, m, by omega, by omega, pv_of hp a9 a5 a7 a8, by rw [a10, a5, h10], by rw [a11, a5, h11], a1.trans h1, by rw [a0]; exact hl, by rw [a7]; exact ha, ⟨⟨rfl, rfl, rfl, rfl, rfl, rfl, rfl, rfl, rfl⟩, c0.trans a0.symm, c6.trans a5.symm, c7.trans a6.symm, c8.trans a9.symm, c9.trans a10.symm, c2.trans a1.symm⟩, hd, fun l => (k4 l).trans rfl, k3⟩
  · have n1 : ¬ u.1 10 = 0 := fun z => hw (b1.mp z)
    have n2 : ¬ v.1 9 ≤ 0 := fun z => hw (b2.mp z)
    refine ⟨fun z => absurd z n1, fun z => absurd z n2, ?_, ?_⟩
    · unfold pd_run pm_run
      rw [if_neg n1, if_neg n2]
    · unfold pd_run pm_run
      rw [if_neg n1, if_neg n2]
      exact hnx
