/-! remainders: floorMod and modulo are one number, in its range -/
theorem xo_sign {a m : Int32} (hm : 0 ≤ m.toInt) : 0 ≤ a ^^^ m ↔ 0 ≤ a.toInt := by
  rw [Int32.le_iff_toInt_le, Int32.toInt_zero]
  have e1 : (a ^^^ m).toInt = (a.toBitVec ^^^ m.toBitVec).toInt := by rw [← Int32.toBitVec_xor]; rfl
  have e2 : a.toInt = a.toBitVec.toInt := rfl
  have e3 : m.toInt = m.toBitVec.toInt := rfl
  have h1 : (a.toBitVec ^^^ m.toBitVec).msb = (a.toBitVec.msb ^^ m.toBitVec.msb) := BitVec.msb_xor
  rw [BitVec.msb_eq_toInt, BitVec.msb_eq_toInt, BitVec.msb_eq_toInt] at h1
  rw [e1, e2]
  rw [e3] at hm
  rw [show decide (m.toBitVec.toInt < 0) = false from decide_eq_false (by omega), Bool.xor_false] at h1
  have h2 := decide_eq_decide.mp h1
  omega
theorem fm_toInt {a m : Int32} (hm : 0 < m.toInt) : (pj_floorMod_7cf53 a m).toInt = a.toInt % m.toInt := by
  have hr := rem_toInt a m
  have hb := tmod_bounds (a := a.toInt) hm
  have ha1 := Int32.toInt_lt a
  have ha2 := Int32.le_toInt a
  have hm1 := Int32.toInt_lt m
  unfold pj_floorMod_7cf53
  have hx := xo_sign (a := a) (m := m) (by omega)
  generalize hre : a - a / m * m = r at hr ⊢
  by_cases h : 0 ≤ a ^^^ m
  · rw [if_pos h, hr]
    exact Int.tmod_eq_emod_of_nonneg (hx.mp h)
  · rw [if_neg h]
    have hneg : ¬ 0 ≤ a.toInt := fun z => h (hx.mpr z)
    have hte : a.toInt.tmod m.toInt = -((-a.toInt) % m.toInt) := by
      have e : a.toInt.tmod m.toInt = -((-a.toInt).tmod m.toInt) := by
        first | (rw [Int.neg_tmod, Int.neg_neg]) | simp [Int.neg_tmod]
      rw [e, Int.tmod_eq_emod_of_nonneg (by omega)]
    have g1 := Int.emod_nonneg (-a.toInt) (by omega : m.toInt ≠ 0)
    have g2 := Int.emod_lt_of_pos (-a.toInt) hm
    have g3 := Int.mul_ediv_add_emod (-a.toInt) m.toInt
    by_cases h0 : r = 0
    · rw [if_pos h0, h0, Int32.toInt_zero]
      rw [h0, Int32.toInt_zero] at hr
      have : (-a.toInt) % m.toInt = 0 := by omega
      have hd : m.toInt ∣ -a.toInt := Int.dvd_of_emod_eq_zero this
      have hd2 : m.toInt ∣ a.toInt := by simpa using hd
      exact (Int.emod_eq_zero_of_dvd hd2).symm
    · rw [if_neg h0]
      have hr0 : r.toInt ≠ 0 := fun z => h0 (Int32.toInt_inj.mp (by rw [z, Int32.toInt_zero]))
      rw [Jvm.Kit.i32_add (by omega) (by omega)]
      have e1 : a.toInt = (r.toInt + m.toInt) + m.toInt * (-((-a.toInt) / m.toInt) - 1) := by
        rw [hr, hte]
        have := Int.mul_sub m.toInt (-((-a.toInt) / m.toInt)) 1
        rw [this, Int.mul_neg, Int.mul_one]
        omega
      have e2 : a.toInt % m.toInt = (r.toInt + m.toInt) % m.toInt := by
        conv => lhs; rw [e1]
        exact Int.add_mul_emod_self_left _ _ _
      rw [e2, Int.emod_eq_of_lt (by omega) (by omega)]
theorem fm_in {a m : Int32} {n : Nat} (hm : m.toInt = n) (hn : 0 < n) : vp_in (pj_floorMod_7cf53 a m) n := by
  have h1 := Int.emod_nonneg a.toInt (by omega : m.toInt ≠ 0)
  have h2 := Int.emod_lt_of_pos a.toInt (by omega : 0 < m.toInt)
  exact vp_in_iff.mpr (by rw [fm_toInt (by omega)]; omega)
theorem fm_in5 (a : Int32) : vp_in (pj_floorMod_7cf53 a 5) 5 := fm_in (by decide) (by decide)
theorem fm_in4 (a : Int32) : vp_in (pj_floorMod_7cf53 a 4) 4 := fm_in (by decide) (by decide)
theorem re_in {x : Int32} (h : 0 ≤ x.toInt) : vp_in (x - x / 5 * 5) 5 := by
  refine vp_in_iff.mpr ?_
  rw [rem_toInt, show (5 : Int32).toInt = 5 by decide, Int.tmod_eq_emod_of_nonneg h]
  omega
theorem ng_toInt {x : Int32} (h : ¬ x = -2147483648) : (-x).toInt = -x.toInt := by
  have h1 := lv_neT h (a := -2147483648) (by decide)
  have h2 := Int32.le_toInt x
  have h3 := Int32.toInt_lt x
  rw [Int32.toInt_neg]
  exact Int.bmod_eq_of_le_mul_two (by omega) (by omega)
theorem wt_abs {x : Int32} (h : ¬ x = -2147483648) : 0 ≤ (if 0 ≤ x then x else 0 - x).toInt := by
  by_cases h0 : 0 ≤ x
  · rw [if_pos h0]
    rw [Int32.le_iff_toInt_le, Int32.toInt_zero] at h0
    exact h0
  · rw [if_neg h0, Int32.zero_sub, ng_toInt h]
    rw [Int32.le_iff_toInt_le, Int32.toInt_zero] at h0
    omega
theorem wt_in {x : Int32} (h : ¬ x = -2147483648) : vp_in ((if 0 ≤ x then x else 0 - x) - (if 0 ≤ x then x else 0 - x) / 5 * 5) 5 := re_in (wt_abs h)
theorem wt_p {x : Int32} (h : 0 ≤ x) : vp_in (x - x / 5 * 5) 5 := re_in (by rw [Int32.le_iff_toInt_le, Int32.toInt_zero] at h; exact h)
theorem wt_n {x : Int32} (h : ¬ x = -2147483648) (h0 : ¬ 0 ≤ x) : vp_in (-x - -x / 5 * 5) 5 := re_in (by
  rw [Int32.le_iff_toInt_le, Int32.toInt_zero] at h0
  rw [ng_toInt h]
  omega)
theorem nz_flag {x : Int32} (h : x = 0 ∨ x = 1) : narrow .boolean (.int x) = .int x := by rcases h with rfl | rfl <;> rfl
