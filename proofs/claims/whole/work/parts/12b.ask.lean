/-! the model's questions, once the coalitions are found -/
def fac : Nat → Nat
  | 0 => 1
  | n + 1 => fac n * (n + 1)
def ordB (R : Nat → Int32) (q b : Nat) : Nat := sm (2 ^ nb R) (fun s => if sws R q b s then fac (pop s) * fac (nb R - 1 - pop s) else 0)
def blkB (R : Nat → Int32) (q b : Nat) : Bool := ww R q (2 ^ nb R - 1) && !ww R q (adn (2 ^ nb R - 1) (2 ^ b))
def dicB (R : Nat → Int32) (b : Nat) : Bool := ww R (qq R) (2 ^ b) && cnt (nb R) (fun j => !(j == b) && !(swB R (qq R) j == 0)) == 0
/-- is m ahead of v -/
def ahd (R : Nat → Int32) (m v : Nat) : Bool := decide (swB R (qq R) (bo R v) < swB R (qq R) (bo R m)) || (swB R (qq R) (bo R m) == swB R (qq R) (bo R v) && (decide (wt R v < wt R m) || (wt R m == wt R v && decide (m < v))))
def rkn (R : Nat → Int32) (v : Nat) : Nat := cnt (nn R) (fun m => ahd R m v)
theorem cnt_ltn {n b : Nat} {p : Nat → Bool} (hb : b < n) (hp : p b = false) : cnt n p < n := by
  induction n with
  | zero => omega
  | succ n ih =>
    rw [cnt_s]
    rcases Nat.lt_or_ge b n with z | z
    · have := ih z
      have := b1_le (p n)
      omega
    · have e : b = n := by omega
      subst e
      rw [hp]
      have := cnt_le (n := b) (p := p)
      simp [b1]
      omega
theorem pop_cnt {s n : Nat} (hs : s < 2 ^ n) (hn : n ≤ 10) : pop s = cnt n (fun i => s.testBit i) := by
  unfold pop
  rw [← cnt_ext (p := fun i => s.testBit i) hn]
  refine cnt_congr (fun i hi => ?_)
  by_cases z : i < n
  · simp [z]
  · rw [Nat.testBit_lt_two_pow (Nat.lt_of_lt_of_le hs (Nat.pow_le_pow_right (by decide) (by omega)))]
    simp
theorem pop_lt {s n b : Nat} (hs : s < 2 ^ n) (hn : n ≤ 10) (hb : b < n) (h : s.testBit b = false) : pop s < n := by
  rw [pop_cnt hs hn]
  exact cnt_ltn hb h
theorem pop_le (s : Nat) : pop s ≤ 10 := cnt_le
theorem sub0_nI {a b : Nat} (ha : a < 2 ^ 30) (hb : b < 2 ^ 30) : (nI a - nI b = 0) = (a = b) := by
  apply propext
  constructor
  · intro e
    have : nI a = nI b := by
      have := congrArg (· + nI b) e
      simpa [Int32.sub_add_cancel] using this
    rwa [eq_nI (by omega) (by omega)] at this
  · intro e
    rw [e, Int32.sub_self]
theorem subp_nI {a b : Nat} (ha : a < 2 ^ 30) (hb : b < 2 ^ 30) : (0 < nI a - nI b) = (b < a) := by
  apply propext
  rw [Int32.lt_iff_toInt_lt, Int32.toInt_sub, nI_toInt (by omega), nI_toInt (by omega)]
  have h0 : (0 : Int32).toInt = 0 := by decide
  rw [h0, Int.bmod_eq_of_le (by omega) (by omega)]
  omega
section AS
variable {k : Nat} {I J : Mem} {R : Nat → Int32} {q : Nat}
theorem swB_le (hW : WF R) (q b : Nat) : swB R q b ≤ 1024 := Nat.le_trans cnt_le (two_nb hW)
theorem many_m {s : Nat} (hs : s < 2 ^ 31) (hk : 2000 ≤ k) : f_X6_many k (nI s) = some (nI (pop s)) := by
  refine loop0 (fun g i => f_X6_many_4 k (nI s) g (nI (cnt i (fun i => s.testBit i))) (nI i)) 10 _ (by omega) (fun g => ?_) (fun g i hi => ?_)
  · simp (disch := omega) only [f_X6_many_4, le_nI, if_pos]
    rfl
  · simp (disch := omega) only [f_X6_many_4, le_nI, if_neg, shr_nI, and1_nI, nI_add, cnt_s]
    rw [Nat.testBit_eq_decide_div_mod_eq]
    have := Nat.mod_lt (s / 2 ^ i) (show 0 < 2 by decide)
    rcases (by omega : s / 2 ^ i % 2 = 0 ∨ s / 2 ^ i % 2 = 1) with e | e <;> simp [e, b1]
theorem factorial_m {n : Nat} (hn : n ≤ 10) (hk : 2000 ≤ k) : f_X6_factorial k (nI n) = some (nI (fac n)) := by
  unfold f_X6_factorial
  rcases Nat.lt_or_ge n 2 with z | z
  · obtain ⟨k', rfl⟩ : ∃ k', k = k' + 1 := ⟨k - 1, by omega⟩
    simp (disch := omega) only [f_X6_factorial_4, lt_nI, if_pos]
    rcases (by omega : n = 0 ∨ n = 1) with e | e <;> subst e <;> rfl
  · refine loopM (fun g j => f_X6_factorial_4 k (nI n) g (nI (fac (j - 1))) (nI j)) (n + 1) _ (m0 := 2) (by omega) (by omega) (fun g => ?_) (fun g j h0 hj => ?_)
    · simp (disch := omega) only [f_X6_factorial_4, lt_nI, if_pos, Nat.add_sub_cancel]
    · simp (disch := omega) only [f_X6_factorial_4, lt_nI, if_neg, mul_nI, nI_add, Nat.add_sub_cancel]
      obtain ⟨i, rfl⟩ : ∃ i, j = i + 1 := ⟨j - 1, by omega⟩
      rfl
theorem winning_m (hW : WF R) (h : FN J R q) (hk : 2000 ≤ k) : f_X6_winning k J = some (nI (cnt (2 ^ nb R) (ww R q))) := by
  have h2 := two_nb hW
  have hnb := nb_le hW
  refine loop0 (fun g s => f_X6_winning_4 k J g (nI (cnt s (ww R q))) (nI s)) (2 ^ nb R) _ (by omega) (fun g => ?_) (fun g s hs => ?_)
  · simp (disch := omega) only [f_X6_winning_4, h.1.nb, shl1_nI, le_nI, if_pos]
  · simp (disch := omega) only [f_X6_winning_4, h.1.nb, shl1_nI, le_nI, if_neg, inBn, if_pos, cl_nI, h.2.1 s hs, b1_0, nI_add, cnt_s]
    cases ww R q s <;> simp [b1]
theorem orders_m (hW : WF R) (h : FN J R q) (hk : 2000 ≤ k) {b : Nat} (hb : b < nb R) : f_X6_orders k (nI b) J = some (nI (ordB R q b)) := by
  have h2 := two_nb hW
  have hnb := nb_le hW
  refine loop0 (fun g s => f_X6_orders_4 k J (nI b) g (nI (sm s (fun s => if sws R q b s then fac (pop s) * fac (nb R - 1 - pop s) else 0))) (nI s)) (2 ^ nb R) _ (by omega) (fun g => ?_) (fun g s hs => ?_)
  · simp (disch := omega) only [f_X6_orders_4, h.1.nb, shl1_nI, le_nI, if_pos]
    rfl
  · have hor := or_nb hs hb
    have e1 := h.2.1 s hs
    have e2 := h.2.1 _ hor
    have hp := pop_le s
    cases d1 : s.testBit b
    · have hpl := pop_lt hs hnb hb d1
      simp (disch := omega) only [f_X6_orders_4, h.1.nb, shl1_nI, le_nI, if_neg, isIn_nI, b1_0, d1, if_true, inBn, if_pos, cl_nI, e1, or_nI, e2, many_m, Option.bind_some, factorial_m, sub_nI, mul_nI, nI_add, sm]
      cases d2 : ww R q s
      · cases d3 : ww R q (s ||| 2 ^ b)
        · have e : sws R q b s = false := by simp [sws, d3]
          simp [e]
        · have e : sws R q b s = true := by simp [sws, d1, d2, d3]
          simp [e]
      · have e : sws R q b s = false := by simp [sws, d2]
        simp [e]
    · have e : sws R q b s = false := by simp [sws, d1]
      simp (disch := omega) only [f_X6_orders_4, h.1.nb, shl1_nI, le_nI, if_neg, isIn_nI, b1_0, d1, nI_add, sm, e]
      simp
theorem isBlocker_m (hW : WF R) (h : FN J R q) {b : Nat} (hb : b < nb R) : f_X6_isBlocker k (nI b) J = some (nI (b1 (blkB R q b))) := by
  have h2 := two_nb hW
  have hnb := nb_le hW
  have hp : 1 ≤ 2 ^ nb R := Nat.one_le_two_pow
  have ha : adn (2 ^ nb R - 1) (2 ^ b) < 2 ^ nb R := adn_le _ _ _ (by omega)
  unfold f_X6_isBlocker blkB
  simp (disch := omega) only [h.1.nb, shl1_nI, sub_nI, inBn, if_pos, cl_nI, h.2.1 (2 ^ nb R - 1) (by omega), b1_0, adn_nI, h.2.1 _ ha]
  cases ww R q (2 ^ nb R - 1)
  · simp [b1]
  · cases ww R q (adn (2 ^ nb R - 1) (2 ^ b)) <;> simp [b1]
theorem isDictator_m (hW : WF R) (h : FN J R (qq R)) (hk : 2000 ≤ k) {b : Nat} (hb : b < nb R) : f_X6_isDictator k (nI b) J = some (nI (b1 (dicB R b))) := by
  have h2 := two_nb hW
  have hnb := nb_le hW
  have hp : 2 ^ b < 2 ^ nb R := Nat.pow_lt_pow_right (by decide) hb
  unfold f_X6_isDictator
  simp (disch := omega) only [shl1_nI, inBn, if_pos, cl_nI, h.2.1 _ hp]
  have e0 : (b1 (ww R (qq R) (2 ^ b))) = b1 (ww R (qq R) (2 ^ b) && cnt 0 (fun j => !(j == b) && !(swB R (qq R) j == 0)) == 0) := by
    show _ = b1 (_ && (0 == 0))
    simp
  rw [e0]
  refine loop0 (fun g j => f_X6_isDictator_11 k J (nI b) g (nI (b1 (ww R (qq R) (2 ^ b) && cnt j (fun j => !(j == b) && !(swB R (qq R) j == 0)) == 0))) (nI j)) (nb R) _ (by omega) (fun g => ?_) (fun g j hj => ?_)
  · have : ∀ p : Bool, vp_nar .boolean (nI (b1 p)) = nI (b1 p) := by intro p; cases p <;> decide
    simp (disch := omega) only [f_X6_isDictator_11, h.1.nb, le_nI, if_pos, this]
    rfl
  · have hs := swB_le hW (qq R) j
    simp (disch := omega) only [f_X6_isDictator_11, h.1.nb, le_nI, if_neg, b1_0, eq_nI, inBn, if_pos, cl_nI, h.2.2.1 j hj, eq0_nI, f_X6_isDictator_37, nI_add, cnt_s]
    cases d : (ww R (qq R) (2 ^ b) && cnt j (fun j => !(j == b) && !(swB R (qq R) j == 0)) == 0)
    · have : (ww R (qq R) (2 ^ b) && cnt j (fun j => !(j == b) && !(swB R (qq R) j == 0)) + b1 (!(j == b) && !(swB R (qq R) j == 0)) == 0) = false := by
        rw [Bool.and_eq_false_iff] at d ⊢
        rcases d with d | d
        · exact Or.inl d
        · right
          simp at d ⊢
          omega
      rw [this]
      simp [b1]
    · rw [Bool.and_eq_true] at d
      have d2 : cnt j (fun j => !(j == b) && !(swB R (qq R) j == 0)) = 0 := by simpa using d.2
      rw [d2, d.1]
      by_cases e1 : j = b
      · simp [e1, b1]
      · by_cases e2 : swB R (qq R) j = 0
        · simp [e1, e2, b1]
        · simp [e1, e2, b1]
theorem dummies_m (hW : WF R) (h : FN J R q) (hk : 2000 ≤ k) : f_X6_dummies k J = some (nI (cnt (nb R) (fun b => swB R q b == 0))) := by
  have hnb := nb_le hW
  refine loop0 (fun g b => f_X6_dummies_4 k J g (nI (cnt b (fun b => swB R q b == 0))) (nI b)) (nb R) _ (by omega) (fun g => ?_) (fun g b hb => ?_)
  · simp (disch := omega) only [f_X6_dummies_4, h.1.nb, le_nI, if_pos]
  · have hs := swB_le hW q b
    simp (disch := omega) only [f_X6_dummies_4, h.1.nb, le_nI, if_neg, inBn, if_pos, cl_nI, h.2.2.1 b hb, eq0_nI, nI_add, cnt_s]
    by_cases e : swB R q b = 0 <;> simp [e, b1]
theorem blockers_m (hW : WF R) (h : FN J R q) (hk : 2000 ≤ k) : f_X6_blockers k J = some (nI (cnt (nb R) (blkB R q))) := by
  have hnb := nb_le hW
  refine loop0 (fun g b => f_X6_blockers_4 k J g (nI (cnt b (blkB R q))) (nI b)) (nb R) _ (by omega) (fun g => ?_) (fun g b hb => ?_)
  · simp (disch := omega) only [f_X6_blockers_4, h.1.nb, le_nI, if_pos]
  · simp (disch := omega) only [f_X6_blockers_4, h.1.nb, le_nI, if_neg, isBlocker_m hW h hb, Option.bind_some, b1_0, nI_add, cnt_s]
    cases blkB R q b <;> simp [b1]
theorem allWeights_m (hW : WF R) (h : RW J R) (hk : 2000 ≤ k) : f_X6_allWeights k J = some (nI (sm (nn R) (wt R))) := by
  have hn := hW.n10
  refine loop0 (fun g m => f_X6_allWeights_4 k J g (nI (sm m (wt R))) (nI m)) (nn R) _ (by omega) (fun g => ?_) (fun g m hm => ?_)
  · simp (disch := omega) only [f_X6_allWeights_4, cl_nI, h.n hW, le_nI, if_pos]
  · simp (disch := omega) only [f_X6_allWeights_4, cl_nI, h.n hW, le_nI, if_neg, nI_add, inBn, if_pos, h.w hW hm, sm]
theorem rank_m (hW : WF R) (h : RW J R) (hF : FN J R (qq R)) (hk : 2000 ≤ k) {v : Nat} (hv : v < nn R) : f_X6_rank k (nI v) J = some (nI (rkn R v)) := by
  have hn := hW.n10
  have hnb := nb_le hW
  have hbv := bo_nb hW hv
  have hsv := swB_le hW (qq R) (bo R v)
  have hwv := hW.w50 hv
  refine loop0 (fun g m => f_X6_rank_4 k J (nI v) g (nI (cnt m (fun m => ahd R m v))) (nI m)) (nn R) _ (by omega) (fun g => ?_) (fun g m hm => ?_)
  · simp (disch := omega) only [f_X6_rank_4, cl_nI, h.n hW, le_nI, if_pos]
    rfl
  · have hbm := bo_nb hW hm
    have hsm := swB_le hW (qq R) (bo R m)
    have hwm := hW.w50 hm
    simp (disch := omega) only [f_X6_rank_4, cl_nI, h.n hW, le_nI, if_neg, blocOf_m hW h hF.1 hk hm, blocOf_m hW h hF.1 hk hv, Option.bind_some, inBn, if_pos, hF.2.2.1 _ hbm, hF.2.2.1 _ hbv, sub0_nI, nI_add, h.w hW hm, h.w hW hv, f_X6_rank_66, subp_nI, f_X6_rank_84, f_X6_rank_88, cnt_s]
    unfold ahd
    by_cases e1 : swB R (qq R) (bo R m) = swB R (qq R) (bo R v)
    · by_cases e2 : wt R v < wt R m
      · simp [e1, e2, b1]
      · by_cases e3 : wt R m = wt R v
        · by_cases e4 : v ≤ m
          · simp [e1, e3, e4, Nat.not_lt.mpr e4, b1]
          · simp [e1, e3, e4, Nat.lt_of_not_le e4, b1]
        · simp [e1, e2, e3, b1]
    · by_cases e2 : swB R (qq R) (bo R v) < swB R (qq R) (bo R m)
      · simp [e1, e2, b1]
      · simp [e1, e2, b1]
end AS
