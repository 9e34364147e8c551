/-! the class's power, whole -/
def PW (I : Mem) (R : Nat → Int32) : Prop := P1 I R ∧ P2 I R ∧ PWN I R ∧ (I 53 12 = (-1 : Int32) ∨ LSt I R)
section LI
variable {k : Nat} {I J : Mem} {R : Nat → Int32} {q : Nat}
theorem wof_adn (hW : WF R) {s m : Nat} (hm : m < nn R) (h : s.testBit (bo R m) = true) : wof R (mset R s) = wof R (mset R (adn s (2 ^ bo R m))) + wof R (bmk R m) := by
  have hb : (adn s (2 ^ bo R m)).testBit (bo R m) = false := by rw [tb_adn, Nat.testBit_two_pow_self]; simp
  rw [← wof_or _ _ (mset_hi hW hm hb), ← mset_or hW hm]
  congr 2
  apply tb_ext
  intro i
  rw [Nat.testBit_or, tb_adn, Nat.testBit_two_pow]
  by_cases z : bo R m = i
  · subst z
    simp [h]
  · simp [z]
theorem isLeast_c (hW : WF R) (h1 : P1 I R) (hk : 2000 ≤ k) (s : Nat) : f_X2_isLeast k (nI (mset R s)) (nI (wof R (mset R s))) I = some (nI (b1 (isl R s))) := by
  have hn := hW.n10
  have hml := mset_lt hW s
  unfold f_X2_isLeast
  rw [cwin_eq h1 hW s]
  simp only [b1_0]
  unfold isl
  cases d : ww R (qq R) s
  · rw [if_pos rfl]
    rfl
  · rw [if_neg (by decide), Bool.true_and]
    let p : Nat → Bool := fun m => (mset R s).testBit m && ww R (qq R) (adn s (2 ^ bo R m))
    have key : (cnt (nb R) (fun b => s.testBit b && ww R (qq R) (adn s (2 ^ b))) == 0) = (cnt (nn R) p == 0) := by
      have z : 0 < cnt (nb R) (fun b => s.testBit b && ww R (qq R) (adn s (2 ^ b))) ↔ 0 < cnt (nn R) p := by
        rw [cnt_pos, cnt_pos]
        constructor
        · intro ⟨j, j1, j2⟩
          obtain ⟨m, m1, m2, m3⟩ := cnt_nth (show j < cnt (nn R) (pl R) from j1)
          have e : bo R m = j := (bo_pl m2).trans m3
          refine ⟨m, m1, ?_⟩
          show ((mset R s).testBit m && ww R (qq R) (adn s (2 ^ bo R m))) = true
          rw [tb_mset, e, decide_eq_true m1, Bool.true_and]
          exact j2
        · intro ⟨m, m1, m2⟩
          have m2' : ((mset R s).testBit m && ww R (qq R) (adn s (2 ^ bo R m))) = true := m2
          rw [tb_mset, decide_eq_true m1, Bool.true_and] at m2'
          exact ⟨bo R m, bo_nb hW m1, m2'⟩
      rw [Bool.eq_iff_iff, beq_iff_eq, beq_iff_eq]
      omega
    rw [key]
    refine loopX (σ := Unit) (fun g m _ => f_X2_isLeast_13 k I (nI (mset R s)) (nI (wof R (mset R s))) g (nI m)) (nn R) (fun m _ => cnt m p = 0) (fun o => o = some (nI (b1 (cnt (nn R) p == 0)))) (fun g _ hJ => ?_) (fun g m _ hm hJ => ?_) (nn R) 0 k () (by omega) (by omega) rfl
    · simp (disch := omega) only [f_X2_isLeast_13, h1.1.1, le_nI, if_pos, hJ]
      rfl
    · have hs : cnt (m + 1) p = cnt m p + b1 (p m) := cnt_s _ _
      have hpm : p m = ((mset R s).testBit m && ww R (qq R) (adn s (2 ^ bo R m))) := rfl
      rw [hJ, hpm] at hs
      simp (disch := omega) only [f_X2_isLeast_13, h1.1.1, le_nI, if_neg, holds_nI, b1_0, inBn, if_pos, cl_nI, (h1.2 m hm).1, (h1.2 m hm).2, adn_nI, nI_add]
      cases d1 : (mset R s).testBit m
      · rw [if_pos rfl]
        right
        exact ⟨(), rfl, by rw [hs, d1]; rfl⟩
      · have hsb : s.testBit (bo R m) = true := by
          rw [tb_mset, decide_eq_true hm, Bool.true_and] at d1
          exact d1
        have hcw := cwin_eq h1 hW (adn s (2 ^ bo R m))
        rw [if_neg (by decide), wof_adn hW hm hsb, sub_nI (by omega), Nat.add_sub_cancel, ← mset_adn hW hm, hcw]
        simp only [b1_0]
        cases d2 : ww R (qq R) (adn s (2 ^ bo R m))
        · rw [if_pos rfl]
          right
          exact ⟨(), rfl, by rw [hs, d1, d2]; rfl⟩
        · rw [if_neg (by decide)]
          left
          have : 0 < cnt (nn R) p := cnt_pos.mpr ⟨m, hm, by rw [hpm, d1, d2]; rfl⟩
          have e : (cnt (nn R) p == 0) = false := by simp; omega
          rw [e]
          rfl
theorem P1.mono (h : P1 I R) (h1 : ∀ i, i ≠ 12 → J 53 i = I 53 i) (h2 : ∀ a, 54 ≤ a → a < 59 → J a = I a) : P1 J R := by
  unfold P1
  rw [h1 0 (by decide), h1 1 (by decide), h1 2 (by decide), h1 4 (by decide), h2 54 (by decide) (by decide), h2 55 (by decide) (by decide)]
  exact h
theorem P2.mono (h : P2 I R) (h1 : ∀ i, i ≠ 12 → J 53 i = I 53 i) (h2 : ∀ a, 54 ≤ a → a < 59 → J a = I a) : P2 J R := by
  unfold P2
  rw [h1 3 (by decide), h1 9 (by decide), h2 56 (by decide) (by decide), h2 57 (by decide) (by decide)]
  exact h
theorem listLeast_eq (hW : WF R) (h1 : P1 I R) (h2 : P2 I R) (hk : 2000 ≤ k) : ∃ J, f_X2_listLeast k I = some J ∧ LSt J R ∧ (∀ i, i ≠ 12 → J 53 i = I 53 i) ∧ ∀ a, a ≠ 53 → a ≠ 59 → J a = I a := by
  have h2n := two_nb hW
  have hnb := nb_le hW
  have h252 := isl_252 hW
  unfold f_X2_listLeast
  refine loopE (fun g s (J : Mem) => f_X2_listLeast_7 k g (nI s) J) (2 ^ nb R) (fun s J => J 53 12 = nI (lc R s) ∧ (∀ j, j < lc R s → J 59 j = nI (kyR R (lf R s j))) ∧ (∀ i, i ≠ 12 → J 53 i = I 53 i) ∧ ∀ a, a ≠ 53 → a ≠ 59 → J a = I a) (fun o => ∃ J, o = some J ∧ LSt J R ∧ (∀ i, i ≠ 12 → J 53 i = I 53 i) ∧ ∀ a, a ≠ 53 → a ≠ 59 → J a = I a) (fun g J hJ => ?_) (fun g s J hs hJ => ?_) (2 ^ nb R) 0 k _ (by omega) (by omega) ⟨up2_eq _ _ _ _, fun j hj => absurd hj (Nat.not_lt_zero _), fun i hi => up2_nei _ _ _ _ hi, fun a h1 h2 => up2_nea _ _ _ _ h1⟩
  · obtain ⟨j1, j2, j3, j4⟩ := hJ
    have e9 : J 53 9 = nI (2 ^ nb R) := by rw [j3 _ (by decide)]; exact h2.2.1
    simp (disch := omega) only [f_X2_listLeast_7, e9, le_nI, if_pos]
    exact ⟨J, rfl, ⟨j1, j2⟩, j3, j4⟩
  · obtain ⟨j1, j2, j3, j4⟩ := hJ
    have e9 : J 53 9 = nI (2 ^ nb R) := by rw [j3 _ (by decide)]; exact h2.2.1
    have hP : P1 J R := h1.mono j3 (fun a x y => j4 a (by omega) (by omega))
    have hlc : lc R s ≤ s := cnt_le
    have hpop := pop_le s
    have hwl := wof_le hW (mset R s)
    have hml := mset_lt hW s
    have es := h2.2.2 s hs
    have e56 : J 56 s = nI (mset R s) := by rw [j4 _ (by decide) (by decide)]; exact es.1
    have e57 : J 57 s = nI (wof R (mset R s)) := by rw [j4 _ (by decide) (by decide)]; exact es.2
    simp (disch := omega) only [f_X2_listLeast_7, e9, le_nI, if_neg, inBn, if_pos, cl_nI, e56, e57, isLeast_c hW hP hk, Option.bind_some, b1_0, j1, nI_add, bitCount_eq, key_c]
    cases d : isl R s
    · rw [if_pos rfl]
      obtain ⟨e1, e2⟩ := lf_s0 d
      exact ⟨J, rfl, by rw [e2]; exact j1, by rw [e1, e2]; exact j2, j3, j4⟩
    · rw [if_neg (by decide)]
      obtain ⟨e1, e2⟩ := lf_s1 d
      have hlt : lc R s + 1 ≤ lc R (2 ^ nb R) := by
        rw [← e2]
        exact cnt_mono hs
      rw [if_neg (by omega)]
      obtain ⟨K, k1, k2, ⟨k3, k4⟩, k5⟩ := insert_c (k := k) (J := J) (x := s) hW hk (f := lf R s) (n := lc R s) (by omega) j2 j1
      rw [show (pop s * 512 + wof R (mset R s)) * 1024 + mset R s = kyR R s from rfl, k1, Option.bind_some]
      exact ⟨K, rfl, by rw [e2]; exact k3, by rw [e1, e2]; exact k2, fun i hi => by rw [k4 i hi, j3 i hi], fun a x y => by rw [k5 a x y, j4 a x y]⟩
theorem leastC_c (hW : WF R) (h : PW I R) (hk : 2000 ≤ k) : ∃ J, f_X2_leastCoalitions k I = some (nI (lc R (2 ^ nb R)), J) ∧ PW J R ∧ LSt J R ∧ ∀ a, a ≠ 53 → a ≠ 59 → J a = I a := by
  obtain ⟨h1, h2, h3, h4⟩ := h
  have h252 := isl_252 hW
  unfold f_X2_leastCoalitions
  rcases h4 with h4 | h4
  · obtain ⟨J, j1, j2, j3, j4⟩ := listLeast_eq hW h1 h2 hk
    rw [h4, if_pos rfl, j1, Option.bind_some]
    exact ⟨J, by rw [j2.1], ⟨h1.mono j3 (fun a x y => j4 a (by omega) (by omega)), h2.mono j3 (fun a x y => j4 a (by omega) (by omega)), fun r hr q hq => by rw [j4 _ (by omega) (by omega)]; exact h3 r hr q hq, Or.inr j2⟩, j2, j4⟩
  · rw [h4.1, if_neg (by rw [m1_eq (by omega)]; exact id)]
    exact ⟨I, rfl, ⟨h1, h2, h3, Or.inr h4⟩, h4, fun _ _ _ => rfl⟩
def lsR (R : Nat → Int32) (r w : Nat) : Nat := if w = 0 then mset R (lf R (2 ^ nb R) r) else if w = 1 then pop (lf R (2 ^ nb R) r) else wof R (mset R (lf R (2 ^ nb R) r))
theorem ofLeast_c (hW : WF R) (h : LSt I R) {r w : Nat} (hr : r < lc R (2 ^ nb R)) (hw : w ≤ 2) : f_X2_ofLeast k (nI r) (nI w) I = some (nI (lsR R r w)) := by
  have h252 := isl_252 hW
  have e := h.2 r hr
  unfold lsR
  generalize lf R (2 ^ nb R) r = s at *
  have s1 := pop_le s
  have s2 := wof_le hW (mset R s)
  have s3 := mset_lt hW s
  have s4 := (kyR_lt hW s).1
  unfold f_X2_ofLeast
  simp (disch := omega) only [inBn, if_pos, cl_nI, e, eq_nI, shr_nI]
  rw [pk_andN (n := kyR R s) (m := nI 1023) (by omega) 10 (by decide), pk_andN (n := kyR R s / 2 ^ 10) (m := nI 511) (by omega) 9 (by decide)]
  unfold kyR
  rcases (by omega : w = 0 ∨ w = 1 ∨ w = 2) with e | e | e <;> subst e
  · rw [if_pos rfl, if_pos rfl]
    exact congrArg some (congrArg nI (by omega))
  · rw [if_neg (by decide), if_pos rfl, if_neg (by decide), if_pos rfl]
    exact congrArg some (congrArg nI (by omega))
  · rw [if_neg (by decide), if_neg (by decide), if_neg (by decide), if_neg (by decide)]
    exact congrArg some (congrArg nI (by omega))
end LI
