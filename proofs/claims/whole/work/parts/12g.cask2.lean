section CL
variable {k : Nat} {I J : Mem} {R : Nat → Int32} {q : Nat}
theorem mset_one (hW : WF R) {m : Nat} (hm : m < nn R) : mset R (2 ^ bo R m) = bmk R m := by
  have := mset_or (s := 0) hW hm
  rw [Nat.zero_or, mset0, Nat.zero_or] at this
  exact this
theorem cwin_eq (h1 : P1 I R) (hW : WF R) (s : Nat) : f_X2_isWinning (nI (mset R s)) (nI (wof R (mset R s))) I = nI (b1 (ww R (qq R) s)) := by
  have hq := hW.q500
  have hwl := wof_le hW (mset R s)
  unfold f_X2_isWinning ww winm
  rw [hav_eq h1.1.2.2.1 hW]
  simp (disch := omega) only [h1.1.2.1, lt_nI, b1_0]
  unfold vok
  by_cases e : qq R ≤ wof R (mset R s)
  · rw [if_neg (by omega), decide_eq_true e]
    cases adn (vmk R) (mset R s) == 0 <;> simp [b1]
  · rw [if_pos (by omega), decide_eq_false e]
    rfl
theorem isDictator_c (hW : WF R) (h1 : P1 I R) (h : PWN I R) (hk : 2000 ≤ k) {v : Nat} (hv : v < nn R) : f_X2_isDictator k (nI v) I = some (nI (b1 (dicB R (bo R v)))) := by
  have hn := hW.n10
  have hq := hW.q500
  have hb := bmk_lt hW v
  have e54 := (h1.2 v hv).1
  have e55 := (h1.2 v hv).2
  have hcw := cwin_eq h1 hW (2 ^ bo R v)
  rw [mset_one hW hv] at hcw
  unfold f_X2_isDictator
  simp (disch := omega) only [inBn, if_pos, cl_nI, e54, e55, hcw, b1_0]
  unfold dicB
  cases d : ww R (qq R) (2 ^ bo R v)
  · simp [b1]
  · rw [if_neg (by decide), Bool.true_and]
    let p : Nat → Bool := fun m => !(bl R m == bl R v) && !(swB R (qq R) (bo R m) == 0)
    have key : (cnt (nb R) (fun j => !(j == bo R v) && !(swB R (qq R) j == 0)) == 0) = (cnt (nn R) p == 0) := by
      have z : 0 < cnt (nb R) (fun j => !(j == bo R v) && !(swB R (qq R) j == 0)) ↔ 0 < cnt (nn R) p := by
        rw [cnt_pos, cnt_pos]
        constructor
        · intro ⟨j, j1, j2⟩
          obtain ⟨m, m1, m2, m3⟩ := cnt_nth (show j < cnt (nn R) (pl R) from j1)
          have e : bo R m = j := (bo_pl m2).trans m3
          refine ⟨m, m1, ?_⟩
          show (!(bl R m == bl R v) && !(swB R (qq R) (bo R m) == 0)) = true
          rw [e]
          simp at j2 ⊢
          exact ⟨fun x => j2.1 (by rw [← e]; exact (bo_eq hW m1 hv).mpr x), j2.2⟩
        · intro ⟨m, m1, m2⟩
          have m2' : (!(bl R m == bl R v) && !(swB R (qq R) (bo R m) == 0)) = true := m2
          refine ⟨bo R m, bo_nb hW m1, ?_⟩
          simp at m2' ⊢
          exact ⟨fun x => m2'.1 ((bo_eq hW m1 hv).mp x), m2'.2⟩
      rw [Bool.eq_iff_iff, beq_iff_eq, beq_iff_eq]
      omega
    rw [key]
    refine loopX (σ := Unit) (fun g m _ => f_X2_isDictator_23 k I (nI v) g (nI m)) (nn R) (fun m _ => cnt m p = 0) (fun o => o = some (nI (b1 (cnt (nn R) p == 0)))) (fun g _ hJ => ?_) (fun g m _ hm hJ => ?_) (nn R) 0 k () (by omega) (by omega) rfl
    · simp (disch := omega) only [f_X2_isDictator_23, h1.1.1, le_nI, if_pos, hJ]
      rfl
    · simp (disch := omega) only [f_X2_isDictator_23, h1.1.1, le_nI, if_neg, inBn, if_pos, cl_nI, e54, holds_nI, b1_0, h1.1.2.1, isDummy_c hW h hm hq, Option.bind_some, nI_add, tb_bmk]
      have hs : cnt (m + 1) p = cnt m p + b1 (p m) := cnt_s _ _
      have hpm : p m = (!(bl R m == bl R v) && !(swB R (qq R) (bo R m) == 0)) := rfl
      rw [hJ, hpm] at hs
      rw [decide_eq_true hm, Bool.true_and]
      cases d1 : bl R m == bl R v
      · rw [if_pos rfl]
        cases d2 : swB R (qq R) (bo R m) == 0
        · rw [if_pos rfl]
          left
          have : 0 < cnt (nn R) p := cnt_pos.mpr ⟨m, hm, by rw [hpm, d1, d2]; rfl⟩
          have e : (cnt (nn R) p == 0) = false := by simp; omega
          rw [e]
          rfl
        · rw [if_neg (by decide)]
          right
          exact ⟨(), rfl, by rw [hs, d1, d2]; rfl⟩
      · rw [if_neg (by decide)]
        right
        exact ⟨(), rfl, by rw [hs, d1]; rfl⟩
theorem facI_eq {n : Nat} (h : n < 11) : facI n = nI (fac n) := by
  have : ∀ n, n < 11 → facI n = nI (fac n) := by decide +kernel
  exact this n h
theorem factorial_c {n : Nat} (h : n < 11) : f_X5_factorial k (nI n) I = some (nI (fac n)) := by
  unfold f_X5_factorial
  simp (disch := omega) only [lt0_nI, if_false, le_nI, if_neg, inBn, if_pos, cl_nI, facI_eq h]
theorem orders_c (hW : WF R) (h1 : P1 I R) (h2 : P2 I R) (hk : 2000 ≤ k) {m : Nat} (hm : m < nn R) : f_X2_orders k (nI m) I = some (nI (ordB R (qq R) (bo R m))) := by
  have hn := hW.n10
  have h2n := two_nb hW
  have hnb := nb_le hW
  have hbo := bo_nb hW hm
  have hbm := bmk_lt hW m
  have hs1 : ∀ s, s < 2 ^ nb R → f_X2_hasSwing k (nI m) (nI s) I = some (nI (b1 (sws R (qq R) (bo R m) s))) := by
    intro s hs
    have e := h2.2.2 s hs
    have hml := mset_lt hW s
    have hcw := cwin_eq h1 hW s
    have htb : (mset R s).testBit m = s.testBit (bo R m) := by rw [tb_mset]; simp [hm]
    unfold f_X2_hasSwing
    simp (disch := omega) only [inBn, if_pos, cl_nI, e.1, e.2, holds_nI, htb, b1_0, hcw, (h1.2 m hm).1, (h1.2 m hm).2, or_nI, nI_add]
    unfold sws
    cases d1 : s.testBit (bo R m)
    · have hcw2 := cwin_eq h1 hW (s ||| 2 ^ bo R m)
      rw [mset_or hW hm, wof_or _ _ (mset_hi hW hm d1)] at hcw2
      rw [if_pos rfl, hcw2]
      simp only [b1_0]
      cases ww R (qq R) s
      · rw [if_pos rfl]
        cases ww R (qq R) (s ||| 2 ^ bo R m) <;> simp [b1]
      · rw [if_neg (by decide)]
        simp [b1]
    · rw [if_neg (by decide)]
      simp [b1]
  refine loop0 (fun g s => f_X2_orders_4 k I (nI m) g (nI (sm s (fun s => if sws R (qq R) (bo R m) s then fac (pop s) * fac (nb R - 1 - pop s) else 0))) (nI s)) (2 ^ nb R) _ (by omega) (fun g => ?_) (fun g s hs => ?_)
  · simp (disch := omega) only [f_X2_orders_4, h2.2.1, le_nI, if_pos]
    rfl
  · have hpop := pop_le s
    simp (disch := omega) only [f_X2_orders_4, h2.2.1, le_nI, if_neg, hs1 s hs, Option.bind_some, b1_0, nI_add]
    cases d : sws R (qq R) (bo R m) s
    · rw [if_pos rfl, sm, d]
      rfl
    · have d1 : s.testBit (bo R m) = false := by
        unfold sws at d
        cases hb : s.testBit (bo R m)
        · rfl
        · rw [hb] at d
          cases d
      have hpl := pop_lt hs hnb hbo d1
      rw [if_neg (by decide)]
      simp (disch := omega) only [bitCount_eq, factorial_c, Option.bind_some, h2.1, sub_nI, mul_nI, nI_add]
      rw [sm, d]
      rfl
theorem cmp_nI {a b : Nat} (ha : a < 2 ^ 31) (hb : b < 2 ^ 31) : f_J6_compare_7cf53 (nI a) (nI b) = if b < a then nI 1 else if a = b then nI 0 else (-1 : Int32) := by
  unfold f_J6_compare_7cf53
  simp (disch := omega) only [le_nI, eq_nI]
  rcases Nat.lt_trichotomy a b with z | z | z
  · rw [if_neg (by omega), if_neg (by omega), if_neg (by omega)]
  · rw [if_pos (by omega), if_pos z, if_neg (by omega), if_pos z]
  · rw [if_pos (by omega), if_neg (by omega), if_pos z]
theorem isAhead_c (hW : WF R) (hC : CS0 I 0 R) (h : PWN I R) {m v : Nat} (hm : m < nn R) (hv : v < nn R) : f_X5_isAhead k (nI m) (nI v) I = some (nI (b1 (ahd R m v))) := by
  have hn := hW.n10
  have hq := hW.q500
  have s1 := swB_le hW (qq R) (bo R m)
  have s2 := swB_le hW (qq R) (bo R v)
  have w1 := hW.w50 hm
  have w2 := hW.w50 hv
  unfold f_X5_isAhead ahd
  simp (disch := omega) only [hC.q hW, swings_c hW h hm hq, swings_c hW h hv hq, Option.bind_some, cmp_nI, inBn, if_pos, cl_nI, hC.w hW hm, hC.w hW hv, le_nI]
  generalize swB R (qq R) (bo R m) = a at *
  generalize swB R (qq R) (bo R v) = b at *
  generalize wt R m = c at *
  generalize wt R v = d at *
  have n1 : ¬ nI 1 = 0 := by decide
  have n2 : ¬ ((-1 : Int32) = 0) := by decide
  have n3 : nI 0 = 0 := by decide
  have n4 : ¬ nI 1 ≤ 0 := by decide
  have n5 : (-1 : Int32) ≤ 0 := by decide
  rcases Nat.lt_trichotomy a b with z | z | z
  · have e1 : ¬ b < a := by omega
    have e2 : ¬ a = b := by omega
    simp [e1, e2, n2, n5, b1]
  · have e1 : ¬ b < a := by omega
    subst z
    rcases Nat.lt_trichotomy c d with y | y | y
    · have e3 : ¬ d < c := by omega
      have e4 : ¬ c = d := by omega
      simp [n3, e3, e4, n2, n5, b1]
    · subst y
      by_cases x : v ≤ m
      · simp [n3, x, Nat.not_lt.mpr x, b1]
      · simp [n3, x, Nat.lt_of_not_le x, b1]
    · simp [n3, y, n1, n4, b1]
  · simp [z, n1, n4, b1]
theorem rankOf_c (hW : WF R) (hC : CS0 I 0 R) (h : PWN I R) (hk : 2000 ≤ k) {v : Nat} (hv : v < nn R) : f_X5_rankOf k (nI v) I = some (nI (rkn R v)) := by
  have hn := hW.n10
  refine loop0 (fun g m => f_X5_rankOf_5 k I (nI v) g (nI (cnt m (fun m => ahd R m v))) (nI m)) (nn R) _ (by omega) (fun g => ?_) (fun g m hm => ?_)
  · simp (disch := omega) only [f_X5_rankOf_5, hC.n hW, le_nI, if_pos]
    rfl
  · simp (disch := omega) only [f_X5_rankOf_5, hC.n hW, le_nI, if_neg, isAhead_c hW hC h hm hv, Option.bind_some, b1_0, nI_add, cnt_s]
    cases ahd R m v <;> simp [b1]
end CL
