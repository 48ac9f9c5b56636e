/-! numbers: the stack of open blocks before each step, the least handle, the count of holdings -/
theorem rs_1 (u : st_T) (k : Nat) (v : Int32) (j : Nat) : (st_si u k v).1 j = if j = k then v else u.1 j := rfl
theorem rs_2 (u : st_T) (k : Nat) (v : Int32) : (st_si u k v).2 = u.2 := rfl
theorem rs_3 (u : st_T) (k i : Nat) (v : Int32) : (st_sa u k i v).1 = u.1 := rfl
theorem rs_4 (u : st_T) (k i : Nat) (v : Int32) (j : Nat) : (st_sa u k i v).2 j = if j = k then upd (u.2 k) i v else u.2 j := rfl
theorem rs_5 (u : st_T) (k : Nat) (f : Nat → Int32) : (st_sf u k f).1 = u.1 := rfl
theorem rs_6 (u : st_T) (k : Nat) (f : Nat → Int32) (j : Nat) : (st_sf u k f).2 j = if j = k then f else u.2 j := rfl
theorem up_s (f : Nat → Int32) (i : Nat) (v : Int32) : upd f i v i = v := by simp [upd]
theorem up_n (f : Nat → Int32) {i j : Nat} (v : Int32) (h : j ≠ i) : upd f i v j = f j := by simp [upd, h]
theorem ix_n {n : Nat} (h : n < 2 ^ 31) : ix (nI n) = n := nI_clamp h
theorem in_n {x : Int32} {n : Nat} (h : vp_in x n) (hn : n < 2 ^ 31) : x = nI (ix x) ∧ ix x < n := by
  obtain ⟨j, hj, rfl⟩ := vp_in_of h hn
  rw [ix_n (by omega)]
  exact ⟨rfl, hj⟩
theorem nI_inj {a b : Nat} (ha : a < 2 ^ 31) (hb : b < 2 ^ 31) (h : nI a = nI b) : a = b := (nI_eq ha hb).mp h
theorem nI_m1 {n : Nat} (h : n < 2 ^ 31) : ¬ nI n = -1 := fun z => by
  have := nI_toInt h
  rw [z, show (-1 : Int32).toInt = -1 by decide] at this
  omega
theorem nI_sub1 (n : Nat) : nI (n + 1) - 1 = nI n := nI_pred n
theorem nI_subm (n : Nat) : nI (n + 1) + (-1) = nI n := by
  rw [← nI_pred n, Int32.sub_eq_add_neg]
theorem nI_le0 {n : Nat} (h : n < 2 ^ 31) : nI n ≤ 0 ↔ n = 0 := by
  rw [← nI_0, nI_leI h (by decide)]
  omega
theorem nI_eq0 {n : Nat} (h : n < 2 ^ 31) : nI n = 0 ↔ n = 0 := by
  rw [← nI_0, nI_eq h (by decide)]
/-- the openers that are open before step j, the latest first -/
def sk_ (op : Nat → Int32) : Nat → List Nat
  | 0 => []
  | j + 1 => if op j = 1 ∨ op j = 2 then j :: sk_ op j else if op j = 0 then (sk_ op j).tail else sk_ op j
theorem sk_s (op : Nat → Int32) (j : Nat) : sk_ op (j + 1) = if op j = 1 ∨ op j = 2 then j :: sk_ op j else if op j = 0 then (sk_ op j).tail else sk_ op j := rfl
theorem sk_mem {op : Nat → Int32} : ∀ (j b : Nat), b ∈ sk_ op j → b < j ∧ (op b = 1 ∨ op b = 2) := by
  intro j
  induction j with
  | zero => intro b h; cases h
  | succ j ih =>
    intro b h
    rw [sk_s] at h
    by_cases h1 : op j = 1 ∨ op j = 2
    · rw [if_pos h1] at h
      rcases List.mem_cons.mp h with rfl | h
      · exact ⟨by omega, h1⟩
      · have := ih b h
        exact ⟨by omega, this.2⟩
    · rw [if_neg h1] at h
      by_cases h2 : op j = 0
      · rw [if_pos h2] at h
        have := ih b (List.mem_of_mem_tail h)
        exact ⟨by omega, this.2⟩
      · rw [if_neg h2] at h
        have := ih b h
        exact ⟨by omega, this.2⟩
theorem sk_tail {op : Nat → Int32} : ∀ (N j : Nat), j < N → ∀ (b : Nat) (r : List Nat), sk_ op j = b :: r → r = sk_ op b := by
  intro N
  induction N with
  | zero => intro j h; omega
  | succ N ih =>
    intro j hj b r h
    cases j with
    | zero => cases h
    | succ j =>
      rw [sk_s] at h
      by_cases h1 : op j = 1 ∨ op j = 2
      · rw [if_pos h1] at h
        cases h
        rfl
      · rw [if_neg h1] at h
        by_cases h2 : op j = 0
        · rw [if_pos h2] at h
          cases hs : sk_ op j with
          | nil => rw [hs] at h; cases h
          | cons c l =>
            rw [hs] at h
            have e1 := ih j (by omega) c l hs
            have hc := (sk_mem j c (by rw [hs]; exact List.mem_cons_self)).1
            have h' : sk_ op c = b :: r := by rw [← e1]; exact h
            exact ih c (by omega) b r h'
        · rw [if_neg h2] at h
          exact ih j (by omega) b r h
theorem sk_rest {op : Nat → Int32} {j b : Nat} {r : List Nat} (h : sk_ op j = b :: r) : r = sk_ op b := sk_tail (j + 1) j (Nat.lt_succ_self j) b r h
/-- a closed block is not open later -/
theorem sk_gone {op : Nat → Int32} {j b : Nat} {r : List Nat} (h0 : op j = 0) (h : sk_ op j = b :: r) : ∀ m, j < m → b ∉ sk_ op m := by
  intro m
  induction m with
  | zero => intro hm; omega
  | succ m ih =>
    intro hm
    have hb := (sk_mem j b (by rw [h]; exact List.mem_cons_self)).1
    rw [sk_s]
    by_cases hj : j = m
    · subst hj
      rw [if_neg (by rw [h0]; decide), if_pos h0, h]
      intro hx
      have e := sk_rest h
      rw [List.tail_cons, e] at hx
      have := (sk_mem b b hx).1
      omega
    · have hi := ih (by omega)
      by_cases h1 : op m = 1 ∨ op m = 2
      · rw [if_pos h1]
        intro hx
        rcases List.mem_cons.mp hx with e | hx
        · omega
        · exact hi hx
      · rw [if_neg h1]
        by_cases h2 : op m = 0
        · rw [if_pos h2]
          exact fun hx => hi (List.mem_of_mem_tail hx)
        · rw [if_neg h2]
          exact hi
/-- the latest open block's number, or -1 -/
def tp_ : List Nat → Int32
  | [] => -1
  | b :: _ => nI b
/-- the least handle with handle h's lock -/
def lf_ (lk : Nat → Int32) (x : Int32) : Nat → Nat → Nat
  | 0, i => i
  | k + 1, i => if lk i = x then i else lf_ lk x k (i + 1)
def le_ (lk : Nat → Int32) (h : Nat) : Nat := lf_ lk (lk h) h 0
theorem lf_ok (lk : Nat → Int32) (x : Int32) : ∀ (k i : Nat), lk (i + k) = x → (∀ j, j < i → lk j ≠ x) → lf_ lk x k i ≤ i + k ∧ lk (lf_ lk x k i) = x ∧ ∀ j, j < lf_ lk x k i → lk j ≠ x := by
  intro k
  induction k with
  | zero => intro i h1 h2; exact ⟨Nat.le_refl _, h1, h2⟩
  | succ k ih =>
    intro i h1 h2
    unfold lf_
    by_cases h : lk i = x
    · rw [if_pos h]; exact ⟨by omega, h, h2⟩
    · rw [if_neg h]
      have := ih (i + 1) (by rw [show i + 1 + k = i + (k + 1) by omega]; exact h1) (fun j hj => by
        rcases Nat.lt_or_ge j i with z | z
        · exact h2 j z
        · rw [show j = i by omega]; exact h)
      exact ⟨by omega, this.2.1, this.2.2⟩
theorem le_ok (lk : Nat → Int32) (h : Nat) : le_ lk h ≤ h ∧ lk (le_ lk h) = lk h ∧ ∀ j, j < le_ lk h → lk j ≠ lk h := by
  have := lf_ok lk (lk h) h 0 (by rw [Nat.zero_add]) (fun j hj => absurd hj (Nat.not_lt_zero j))
  exact ⟨by have := this.1; unfold le_; omega, this.2.1, this.2.2⟩
theorem le_iff {lk : Nat → Int32} {a b : Nat} : le_ lk a = le_ lk b ↔ lk a = lk b := by
  have h1 := le_ok lk a
  have h2 := le_ok lk b
  constructor
  · intro e
    rw [← h1.2.1, e, h2.2.1]
  · intro e
    rcases Nat.lt_trichotomy (le_ lk a) (le_ lk b) with z | z | z
    · exact absurd (h1.2.1.trans e) (h2.2.2 _ z)
    · exact z
    · exact absurd (h2.2.1.trans e.symm) (h1.2.2 _ z)
theorem lh_le (u : st_T) (h : Nat) (hh : h < 5) : ∀ (n i : Nat), i ≤ h → h - i < n → pd_lh u (nI h) n (nI i) = nI (lf_ (u.2 0) (u.2 0 h) (h - i) i) := by
  intro n
  induction n with
  | zero => intro i h1 h2; omega
  | succ n ih =>
    intro i h1 h2
    unfold pd_lh
    by_cases hi : h = i
    · subst hi
      rw [if_pos (by rw [nI_leI (by omega) (by omega)]; omega), Nat.sub_self]
      rfl
    · rw [if_neg (by rw [nI_leI (by omega) (by omega)]; omega), ix_n (by omega), ix_n (by omega)]
      obtain ⟨k, hk⟩ : ∃ k, h - i = k + 1 := ⟨h - i - 1, by omega⟩
      rw [hk]
      unfold lf_
      by_cases h3 : u.2 0 i = u.2 0 h
      · rw [if_pos h3, if_pos h3]
      · rw [if_neg h3, if_neg h3, nI_1, ih (i + 1) (by omega) (by omega), show h - (i + 1) = k by omega]
theorem least_le (u : st_T) {h : Nat} (hh : h < 5) : pd_leastHandle u (nI h) = nI (le_ (u.2 0) h) := by
  unfold pd_leastHandle le_
  rw [← nI_0, lh_le u h hh 6 0 (Nat.zero_le _) (by omega), Nat.sub_zero]
theorem sl_le (u : st_T) (h : Nat) (hh : h < 5) (h0 : ¬ u.2 0 h = 0) : ∀ (n i : Nat), i ≤ h → h - i < n → pm_sl u (u.2 0 h) n (nI i) = nI (lf_ (u.2 0) (u.2 0 h) (h - i) i) := by
  intro n
  induction n with
  | zero => intro i h1 h2; omega
  | succ n ih =>
    intro i h1 h2
    rw [pm_sl_s, if_neg h0, ix_n (by omega)]
    by_cases hi : h = i
    · subst hi
      rw [if_pos rfl, Nat.sub_self]
      rfl
    · obtain ⟨k, hk⟩ : ∃ k, h - i = k + 1 := ⟨h - i - 1, by omega⟩
      rw [hk]
      unfold lf_
      by_cases h3 : u.2 0 i = u.2 0 h
      · rw [if_pos h3, if_pos h3]
      · rw [if_neg h3, if_neg h3, nI_1, ih (i + 1) (by omega) (by omega), show h - (i + 1) = k by omega]
/-- the handle that a step names -/
def hd_ (ar : Nat → Int32) (b : Nat) : Nat := ix (pm_modulo (ar b) 5)
theorem hd_lt (ar : Nat → Int32) (b : Nat) : hd_ ar b < 5 := ix_lt (mo_in5 _)
theorem hd_nI (ar : Nat → Int32) (b : Nat) : pm_modulo (ar b) 5 = nI (hd_ ar b) := (in_n (mo_in5 _) (by decide)).1
theorem hd_fm (ar : Nat → Int32) (b : Nat) : pj_floorMod_7cf53 (ar b) 5 = nI (hd_ ar b) := by rw [fm_mo (by decide) (by decide)]; exact hd_nI ar b
/-- how often a run holds the lock l, by the open blocks -/
def cn_ (lk op ar : Nat → Int32) (l : Nat) : List Nat → Nat
  | [] => 0
  | b :: r => (if op b = 1 ∧ ix (lk (hd_ ar b)) = l then 1 else 0) + cn_ lk op ar l r
theorem cn_le (lk op ar : Nat → Int32) (l : Nat) : ∀ L : List Nat, cn_ lk op ar l L ≤ L.length := by
  intro L
  induction L with
  | nil => exact Nat.le_refl _
  | cons b r ih =>
    unfold cn_
    rw [List.length_cons]
    split <;> omega
/-- the reference's stack holds the open blocks -/
def bk_ (f : Nat → Int32) : List Nat → Prop
  | [] => True
  | b :: r => f r.length = nI b ∧ bk_ f r
theorem bk_up {f : Nat → Int32} {k : Nat} {x : Int32} : ∀ {L : List Nat}, bk_ f L → L.length ≤ k → bk_ (upd f k x) L := by
  intro L
  induction L with
  | nil => intro _ _; trivial
  | cons b r ih =>
    intro h hk
    rw [List.length_cons] at hk
    exact ⟨by rw [up_n _ _ (by omega)]; exact h.1, ih h.2 (by omega)⟩
