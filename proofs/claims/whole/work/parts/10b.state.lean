/-! the abstract state is the reference's row R of 69 ints; what it means; when the class's State s holds it -/
def nn (R : Nat → Int32) : Nat := (R 0).toNatClampNeg
def qq (R : Nat → Int32) : Nat := (R 1).toNatClampNeg
def hd (R : Nat → Int32) : Nat := (R 2).toNatClampNeg
def wt (R : Nat → Int32) (m : Nat) : Nat := (R (29 + m)).toNatClampNeg
def vt (R : Nat → Int32) (m : Nat) : Bool := decide (R (39 + m) = nI 1)
def bl (R : Nat → Int32) (m : Nat) : Nat := (R (49 + m)).toNatClampNeg
def bmk (R : Nat → Int32) (m : Nat) : Nat := msk (nn R) (fun j => bl R j == bl R m)
def vmk (R : Nat → Int32) : Nat := msk (nn R) (vt R)
def WF (R : Nat → Int32) : Prop := (R 0 = nI (nn R) ∧ nn R ≤ 10) ∧ (R 1 = nI (qq R) ∧ 1 ≤ qq R ∧ qq R ≤ 500) ∧ (∀ m, m < nn R → (R (29 + m) = nI (wt R m) ∧ wt R m ≤ 50) ∧ R (39 + m) = nI (b1 (vt R m)) ∧ R (49 + m) = nI (bl R m) ∧ bl R m ≤ m ∧ bl R (bl R m) = bl R m) ∧ R 2 = nI (hd R) ∧ hd R ≤ 20000 ∧ R 4 = nI (min 8 (hd R))
/-- the council: the cells that the questions read -/
def CS0 (I : Mem) (s : Nat) (R : Nat → Int32) : Prop := (I (8 * s) 0 = R 0 ∧ I (8 * s) 1 = R 1 ∧ I (8 * s) 2 = nI (vmk R)) ∧ ∀ m, m < nn R → I (8 * s + 1) m = R (29 + m) ∧ I (8 * s + 2) m = nI (bmk R m)
def CSb (I : Mem) (s : Nat) (R : Nat → Int32) : Prop := (I (8 * s + 4) 0 = R 2 ∧ I (8 * s + 4) 1 = R 3) ∧ ∀ j, j < 8 → I (8 * s + 5) j = R (5 + 3 * j) ∧ I (8 * s + 6) j = R (6 + 3 * j) ∧ I (8 * s + 7) j = R (7 + 3 * j)
def CS (I : Mem) (s : Nat) (R : Nat → Int32) : Prop := CS0 I s R ∧ (∀ m, m < nn R → I (8 * s + 3) m = R (59 + m)) ∧ CSb I s R
section ST
variable {k s : Nat} {I J : Mem} {R : Nat → Int32}
theorem CS0.mono (h : CS0 I s R) (h0 : J (8 * s) = I (8 * s)) (h1 : J (8 * s + 1) = I (8 * s + 1)) (h2 : J (8 * s + 2) = I (8 * s + 2)) : CS0 J s R := by
  unfold CS0
  rw [h0, h1, h2]
  exact h
theorem CS.mono (h : CS I s R) (hh : ∀ j, j < 8 → J (8 * s + j) = I (8 * s + j)) : CS J s R := by
  unfold CS CSb
  rw [hh 3 (by decide), hh 4 (by decide), hh 5 (by decide), hh 6 (by decide), hh 7 (by decide)]
  exact ⟨h.1.mono (hh 0 (by decide)) (hh 1 (by decide)) (hh 2 (by decide)), h.2⟩
theorem bmk_lt (hW : WF R) (m : Nat) : bmk R m < 1024 := Nat.lt_of_lt_of_le (msk_lt _ _) (pow10 hW.1.2)
theorem vmk_lt (hW : WF R) : vmk R < 1024 := Nat.lt_of_lt_of_le (msk_lt _ _) (pow10 hW.1.2)
theorem tb_bmk (m j : Nat) : (bmk R m).testBit j = (decide (j < nn R) && (bl R j == bl R m)) := tb_msk _ _ _
theorem tb_vmk (j : Nat) : (vmk R).testBit j = (decide (j < nn R) && vt R j) := tb_msk _ _ _
theorem CS0.n (h : CS0 I s R) (hW : WF R) : I (8 * s) 0 = nI (nn R) := h.1.1.trans hW.1.1
theorem CS0.q (h : CS0 I s R) (hW : WF R) : I (8 * s) 1 = nI (qq R) := h.1.2.1.trans hW.2.1.1
theorem CS0.w (h : CS0 I s R) (hW : WF R) {m : Nat} (hm : m < nn R) : I (8 * s + 1) m = nI (wt R m) := (h.2 m hm).1.trans (hW.2.2.1 m hm).1.1
theorem CS0.b (h : CS0 I s R) {m : Nat} (hm : m < nn R) : I (8 * s + 2) m = nI (bmk R m) := (h.2 m hm).2
theorem WF.n10 (hW : WF R) : nn R ≤ 10 := hW.1.2
theorem WF.q1 (hW : WF R) : 1 ≤ qq R := hW.2.1.2.1
theorem WF.q500 (hW : WF R) : qq R ≤ 500 := hW.2.1.2.2
theorem WF.w50 (hW : WF R) {m : Nat} (hm : m < nn R) : wt R m ≤ 50 := (hW.2.2.1 m hm).1.2
theorem WF.bl_le (hW : WF R) {m : Nat} (hm : m < nn R) : bl R m ≤ m := (hW.2.2.1 m hm).2.2.2.1
theorem WF.bl_bl (hW : WF R) {m : Nat} (hm : m < nn R) : bl R (bl R m) = bl R m := (hW.2.2.1 m hm).2.2.2.2
def wset (R : Nat → Int32) (set m : Nat) : Nat := if set.testBit m then wt R m else 0
def wof (R : Nat → Int32) (set : Nat) : Nat := sm (nn R) (wset R set)
theorem wof_le (hW : WF R) (set : Nat) : wof R set ≤ 500 := by
  have h := sm_le (n := nn R) (B := 50) (f := wset R set) (fun m hm => by
    unfold wset
    split
    · exact hW.w50 hm
    · exact Nat.zero_le _)
  have := hW.n10
  have : nn R * 50 ≤ 10 * 50 := Nat.mul_le_mul_right 50 this
  exact Nat.le_trans h this
theorem weightOf_eq (hW : WF R) (h : CS0 I s R) (hk : 2000 ≤ k) {set : Nat} (hs : set < 2 ^ 31) : f_X3_weightOf k s (nI set) I = some (nI (wof R set)) := by
  have hn := hW.n10
  refine loop0 (fun g m => f_X3_weightOf_4 k s I (nI set) g (nI (sm m (wset R set))) (nI m)) (nn R) _ (by omega) (fun g => ?_) (fun g m hm => ?_)
  · simp (disch := omega) only [f_X3_weightOf_4, h.n hW, le_nI, if_pos]
    rfl
  · simp (disch := omega) only [f_X3_weightOf_4, h.n hW, le_nI, if_neg, holds_nI, h.w hW hm, cl_nI, inBn, if_pos, nI_add, b1_0]
    cases hb : set.testBit m <;> simp [sm, wset, hb]
theorem lowest_eq (hW : WF R) (h : CS0 I s R) (hk : 2000 ≤ k) {m : Nat} (hm : m < nn R) : f_X3_lowestBeside k s (nI m) I = some (nI (bl R m)) := by
  have hn := hW.n10
  have hb := bmk_lt hW m
  have hble := hW.bl_le hm
  have hq := h.b hm
  refine loop0 (fun g j => f_X3_lowestBeside_2 k s I (nI m) g (nI j)) (bl R m) _ (by omega) (fun g => ?_) (fun g j hj => ?_)
  · rcases Nat.lt_or_ge (bl R m) m with z | z
    · simp (disch := omega) only [f_X3_lowestBeside_2, le_nI, if_neg, if_pos, inBn, cl_nI, hq, holds_nI, tb_bmk, b1_0]
      have e : (decide (bl R m < nn R) && (bl R (bl R m) == bl R m)) = true := by simp [hW.bl_bl hm]; omega
      rw [e]
      rfl
    · have e : bl R m = m := by omega
      rw [e]
      simp (disch := omega) only [f_X3_lowestBeside_2, le_nI, if_pos]
  · have e : (decide (j < nn R) && (bl R j == bl R m)) = false := by
      have hjn : j < nn R := by omega
      have := hW.bl_le hjn
      have : bl R j ≠ bl R m := by omega
      simp [this]
    simp (disch := omega) only [f_X3_lowestBeside_2, le_nI, if_neg, if_pos, inBn, cl_nI, hq, holds_nI, tb_bmk, b1_0, e, nI_add, if_true]
theorem isLowest_eq (hW : WF R) (h : CS0 I s R) (hk : 2000 ≤ k) {m : Nat} (hm : m < nn R) : f_X3_isLowest k s (nI m) I = some (nI (b1 (bl R m == m))) := by
  have hn := hW.n10
  have hble := hW.bl_le hm
  unfold f_X3_isLowest
  rw [lowest_eq hW h hk hm]
  simp (disch := omega) only [Option.bind_some, eq_nI]
  by_cases e : bl R m = m <;> simp [e, b1]
def nb (R : Nat → Int32) : Nat := cnt (nn R) (fun m => bl R m == m)
theorem blocCount_eq (hW : WF R) (h : CS0 I s R) (hk : 2000 ≤ k) : f_X3_blocCount k s I = some (nI (nb R)) := by
  have hn := hW.n10
  refine loop0 (fun g m => f_X3_blocCount_4 k s I g (nI (cnt m (fun m => bl R m == m))) (nI m)) (nn R) _ (by omega) (fun g => ?_) (fun g m hm => ?_)
  · simp (disch := omega) only [f_X3_blocCount_4, h.n hW, le_nI, if_pos]
    rfl
  · simp (disch := omega) only [f_X3_blocCount_4, h.n hW, le_nI, if_neg, isLowest_eq hW h hk hm, Option.bind_some, nI_add, cnt_s, b1_0]
    cases bl R m == m <;> simp [b1]
/-- the leader of m's bloc among the first j members -/
def ldp (R : Nat → Int32) (m : Nat) : Nat → Nat
  | 0 => bl R m
  | j + 1 => if bl R j = bl R m ∧ wt R (ldp R m j) < wt R j then j else ldp R m j
def ld (R : Nat → Int32) (m : Nat) : Nat := ldp R m (nn R)
theorem ldp_low (hW : WF R) {m : Nat} (hm : m < nn R) : ∀ j, j ≤ bl R m + 1 → ldp R m j = bl R m := by
  have hble := hW.bl_le hm
  intro j
  induction j with
  | zero => intro _; rfl
  | succ j ih =>
    intro hj
    rw [ldp, ih (by omega), if_neg]
    rintro ⟨h1, h2⟩
    rcases Nat.lt_or_ge j (bl R m) with z | z
    · have := hW.bl_le (show j < nn R by omega)
      omega
    · rw [show j = bl R m by omega] at h2
      omega
theorem ldp_lt (hW : WF R) {m : Nat} (hm : m < nn R) : ∀ j, j ≤ nn R → ldp R m j < nn R := by
  have hble := hW.bl_le hm
  intro j
  induction j with
  | zero => intro _; show bl R m < _; omega
  | succ j ih =>
    intro hj
    rw [ldp]
    split
    · omega
    · exact ih (by omega)
theorem ld_lt (hW : WF R) {m : Nat} (hm : m < nn R) : ld R m < nn R := ldp_lt hW hm _ (Nat.le_refl _)
theorem leaderOf_eq (hW : WF R) (h : CS0 I s R) (hk : 2000 ≤ k) {m : Nat} (hm : m < nn R) : f_X3_leaderOf k s (nI m) I = some (nI (ld R m)) := by
  have hn := hW.n10
  have hble := hW.bl_le hm
  have hb := bmk_lt hW m
  unfold f_X3_leaderOf
  rw [lowest_eq hW h hk hm]
  simp only [Option.bind_some, nI_add]
  rw [show (nI (bl R m)) = nI (ldp R m (bl R m + 1)) by rw [ldp_low hW hm _ (Nat.le_refl _)]]
  rw [show ldp R m (bl R m + 1) = ldp R m (bl R m + 1) from rfl]
  refine loopM (fun g j => f_X3_leaderOf_10 k s I (nI m) g (nI (ldp R m j)) (nI j)) (nn R) _ (m0 := bl R m + 1) (by omega) (by omega) (fun g => ?_) (fun g j h0 hj => ?_)
  · simp (disch := omega) only [f_X3_leaderOf_10, h.n hW, le_nI, if_pos]
    rfl
  · have hl := ldp_lt hW hm j (by omega)
    have hw1 := hW.w50 hj
    have hw2 := hW.w50 hl
    simp (disch := omega) only [f_X3_leaderOf_10, h.n hW, le_nI, if_neg, if_pos, inBn, cl_nI, h.b hm, holds_nI, tb_bmk, b1_0, h.w hW hj, h.w hW hl, nI_add, ldp]
    by_cases e : bl R j = bl R m
    · by_cases e2 : wt R j ≤ wt R (ldp R m j)
      · simp [e, hj, e2, Nat.not_lt.mpr e2]
      · simp [e, hj, e2, Nat.lt_of_not_le e2]
    · simp [e]
def winm (R : Nat → Int32) (q set : Nat) : Bool := decide (q ≤ wof R set) && (adn (vmk R) set == 0)
theorem adn_le (a b : Nat) (n : Nat) (h : a < 2 ^ n) : adn a b < 2 ^ n := by
  apply lt_of_tb
  intro i hi
  rw [tb_adn, Nat.testBit_lt_two_pow (Nat.lt_of_lt_of_le h (Nat.pow_le_pow_right (by decide) hi))]
  rfl
theorem isWinning_eq (hW : WF R) (h : CS0 I s R) (hk : 2000 ≤ k) {set : Nat} (hs : set < 2 ^ 31) : f_X3_isWinning k s (nI set) I = some (nI (b1 (winm R (qq R) set))) := by
  have h1 := wof_le hW set
  have h2 := hW.q500
  have h3 : adn (vmk R) set < 2 ^ 10 := adn_le _ _ 10 (vmk_lt hW)
  unfold f_X3_isWinning winm
  rw [weightOf_eq hW h hk hs]
  simp (disch := omega) only [Option.bind_some, h.q hW, lt_nI, h.1.2.2, adn_nI, eq0_nI]
  by_cases e : qq R ≤ wof R set
  · simp only [e, Nat.not_lt.mpr e, if_false, decide_true, Bool.true_and]
    by_cases e2 : adn (vmk R) set = 0 <;> simp [e2, b1]
  · simp [e, Nat.lt_of_not_le e, b1]
theorem wholeBlocsIn_eq (hW : WF R) (h : CS0 I s R) (hk : 2000 ≤ k) {set : Nat} (hs : set < 2 ^ 31) : f_X3_wholeBlocsIn k s (nI set) I = some (nI (msk (nn R) (fun m => adn (bmk R m) set == 0))) := by
  have hn := hW.n10
  refine loop0 (fun g m => f_X3_wholeBlocsIn_4 k s I (nI set) g (nI (msk m (fun m => adn (bmk R m) set == 0))) (nI m)) (nn R) _ (by omega) (fun g => ?_) (fun g m hm => ?_)
  · simp (disch := omega) only [f_X3_wholeBlocsIn_4, h.n hW, le_nI, if_pos]
  · have h3 : adn (bmk R m) set < 2 ^ 10 := adn_le _ _ 10 (bmk_lt hW m)
    simp (disch := omega) only [f_X3_wholeBlocsIn_4, h.n hW, le_nI, if_neg, if_pos, inBn, cl_nI, h.b hm, adn_nI, eq0_nI, bit_nI, or_nI, nI_add]
    by_cases e : adn (bmk R m) set = 0
    · rw [if_pos e, msk_s, if_pos (by simp [e]), Nat.or_comm, Nat.add_comm (msk m _), ← Nat.mul_one (2 ^ m), Nat.two_pow_add_eq_or_of_lt (msk_lt _ _)]
    · rw [if_neg e, msk_s, if_neg (by simp [e])]
      rfl
end ST
