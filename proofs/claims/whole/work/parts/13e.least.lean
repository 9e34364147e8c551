/-! the least coalitions -/
def isl (R : Nat → Int32) (s : Nat) : Bool := ww R (qq R) s && cnt (nb R) (fun b => s.testBit b && ww R (qq R) (adn s (2 ^ b))) == 0
def kyR (R : Nat → Int32) (s : Nat) : Nat := (pop s * 512 + wof R (mset R s)) * 1024 + mset R s
def lc (R : Nat → Int32) (c : Nat) : Nat := cnt c (isl R)
def posi (R : Nat → Int32) (f : Nat → Nat) (x : Nat) : Nat → Nat
  | 0 => 0
  | n + 1 => if kyR R x < kyR R (f n) then posi R f x n else n + 1
def ins (R : Nat → Int32) (f : Nat → Nat) (n x : Nat) : Nat → Nat := fun j => if j < posi R f x n then f j else if j = posi R f x n then x else f (j - 1)
def lf (R : Nat → Int32) : Nat → Nat → Nat
  | 0 => fun _ => 0
  | c + 1 => if isl R c then ins R (lf R c) (lc R c) c else lf R c
section LE
variable {k : Nat} {I J : Mem} {R : Nat → Int32} {q : Nat}
theorem posi_le (f : Nat → Nat) (x : Nat) : ∀ n, posi R f x n ≤ n
  | 0 => Nat.le_refl _
  | n + 1 => by
    have := posi_le f x n
    rw [posi]
    split <;> omega
theorem lf_lt : ∀ c j, j < lc R c → lf R c j < c
  | 0, j, h => absurd h (Nat.not_lt_zero _)
  | c + 1, j, h => by
    unfold lc at h
    rw [cnt_s] at h
    rw [lf]
    cases d : isl R c
    · rw [d] at h
      rw [if_neg (by decide)]
      have := lf_lt c j (by unfold lc; simpa [b1] using h)
      omega
    · rw [d] at h
      rw [if_pos rfl]
      have h2 : j < lc R c + 1 := h
      have hp := posi_le (R := R) (lf R c) c (lc R c)
      unfold ins
      by_cases z : j < posi R (lf R c) c (lc R c)
      · rw [if_pos z]
        have := lf_lt c j (by omega)
        omega
      · rw [if_neg z]
        by_cases y : j = posi R (lf R c) c (lc R c)
        · rw [if_pos y]
          omega
        · rw [if_neg y]
          have := lf_lt c (j - 1) (by omega)
          omega
theorem kyR_lt (hW : WF R) (s : Nat) : kyR R s < 2 ^ 23 ∧ pop s * 512 + wof R (mset R s) < 2 ^ 13 := by
  have h1 := pop_le s
  have h2 := wof_le hW (mset R s)
  have h3 := mset_lt hW s
  unfold kyR
  omega
theorem isl_252 (hW : WF R) : lc R (2 ^ nb R) ≤ 252 := by
  have h2n := two_nb hW
  have hnb := nb_le hW
  have e : lc R (2 ^ nb R) = cnt 1024 (fun s => decide (s < 2 ^ nb R) && isl R s) := (cnt_ext h2n).symm
  rw [e]
  refine sperner (fun s t _ _ h1 h2 hsub => ?_)
  simp only [Bool.and_eq_true, decide_eq_true_eq] at h1 h2
  by_cases he : s = t
  · exact he
  · exfalso
    have hx : ∃ x, t.testBit x = true ∧ s.testBit x = false := by
      apply Classical.byContradiction
      intro hn
      refine he (tb_ext (fun x => ?_))
      cases d : t.testBit x
      · cases d2 : s.testBit x
        · rfl
        · rw [hsub x d2] at d
          cases d
      · cases d2 : s.testBit x
        · exact absurd ⟨x, d, d2⟩ hn
        · rfl
    obtain ⟨x, x1, x2⟩ := hx
    have hxn : x < nb R := by
      rcases Nat.lt_or_ge x (nb R) with z | z
      · exact z
      · rw [Nat.testBit_lt_two_pow (Nat.lt_of_lt_of_le h2.1 (Nat.pow_le_pow_right (by decide) z))] at x1
        cases x1
    have hs := h1.2
    have ht := h2.2
    unfold isl at hs ht
    rw [Bool.and_eq_true] at hs ht
    have hw : ww R (qq R) (adn t (2 ^ x)) = true := ww_mono (fun i hi => by
      rw [tb_adn, hsub i hi, Nat.testBit_two_pow]
      by_cases z : x = i
      · subst z
        rw [x2] at hi
        cases hi
      · simp [z]) hs.1
    have : 0 < cnt (nb R) (fun b => t.testBit b && ww R (qq R) (adn t (2 ^ b))) := cnt_pos.mpr ⟨x, hxn, by show (t.testBit x && ww R (qq R) (adn t (2 ^ x))) = true; rw [x1, hw]; rfl⟩
    have h0 := eq_of_beq ht.2
    omega
/-! in the model -/
theorem isLeast_m (hW : WF R) (h : FN J R (qq R)) (hk : 2000 ≤ k) {s : Nat} (hs : s < 2 ^ nb R) : f_X6_isLeast k (nI s) J = some (nI (b1 (isl R s))) := by
  have h2 := two_nb hW
  have hnb := nb_le hW
  unfold f_X6_isLeast
  simp (disch := omega) only [inBn, if_pos, cl_nI, h.2.1 s hs]
  have e0 : (b1 (ww R (qq R) s)) = b1 (ww R (qq R) s && cnt 0 (fun b => s.testBit b && ww R (qq R) (adn s (2 ^ b))) == 0) := by
    show _ = b1 (_ && (0 == 0))
    simp
  rw [e0]
  refine loop0 (fun g j => f_X6_isLeast_9 k J (nI s) g (nI (b1 (ww R (qq R) s && cnt j (fun b => s.testBit b && ww R (qq R) (adn s (2 ^ b))) == 0))) (nI j)) (nb R) _ (by omega) (fun g => ?_) (fun g j hj => ?_)
  · have : ∀ p : Bool, vp_nar .boolean (nI (b1 p)) = nI (b1 p) := by intro p; cases p <;> decide
    simp (disch := omega) only [f_X6_isLeast_9, h.1.nb, le_nI, if_pos, this]
    rfl
  · have ha : adn s (2 ^ j) < 2 ^ nb R := adn_le _ _ _ hs
    simp (disch := omega) only [f_X6_isLeast_9, h.1.nb, le_nI, if_neg, b1_0, isIn_nI, shl1_nI, adn_nI, inBn, if_pos, cl_nI, h.2.1 _ ha, f_X6_isLeast_44, nI_add, cnt_s]
    cases d : (ww R (qq R) s && cnt j (fun b => s.testBit b && ww R (qq R) (adn s (2 ^ b))) == 0)
    · have : (ww R (qq R) s && cnt j (fun b => s.testBit b && ww R (qq R) (adn s (2 ^ b))) + b1 (s.testBit j && ww R (qq R) (adn s (2 ^ j))) == 0) = false := by
        rw [Bool.and_eq_false_iff] at d ⊢
        rcases d with d | d
        · exact Or.inl d
        · right
          simp at d ⊢
          omega
      rw [this]
      simp [b1]
    · rw [Bool.and_eq_true] at d
      have d2 : cnt j (fun b => s.testBit b && ww R (qq R) (adn s (2 ^ b))) = 0 := by simpa using d.2
      rw [d2, d.1]
      cases e1 : s.testBit j
      · simp [b1]
      · cases e2 : ww R (qq R) (adn s (2 ^ j)) <;> simp [b1]
theorem membersOf_m (hW : WF R) (h : LB J R (nn R)) (hk : 2000 ≤ k) {s : Nat} (hs : s < 2 ^ 31) : f_X6_membersOf k (nI s) J = some (nI (mset R s)) := by
  have hnb := nb_le hW
  have e0 : ∀ b, b ≤ nb R → msk (nn R) (fun j => s.testBit (bo R j) && decide (bo R j < b)) < 1024 := fun b _ => Nat.lt_of_lt_of_le (msk_lt _ _) (pow10 hW.n10)
  have hz : msk (nn R) (fun j => s.testBit (bo R j) && decide (bo R j < 0)) = 0 := sm_zero (fun i _ => by simp)
  suffices key : f_X6_membersOf_4 k J (nI s) k (nI (msk (nn R) (fun j => s.testBit (bo R j) && decide (bo R j < 0)))) (nI 0) = some (nI (mset R s)) by
    rw [hz] at key
    exact key
  refine loop0 (fun g b => f_X6_membersOf_4 k J (nI s) g (nI (msk (nn R) (fun j => s.testBit (bo R j) && decide (bo R j < b)))) (nI b)) (nb R) _ (by omega) (fun g => ?_) (fun g b hb => ?_)
  · simp (disch := omega) only [f_X6_membersOf_4, h.nb, le_nI, if_pos]
    refine congrArg some (congrArg nI (msk_congr (fun j hj => ?_)))
    rw [decide_eq_true (bo_nb hW hj), Bool.and_true]
  · simp (disch := omega) only [f_X6_membersOf_4, h.nb, le_nI, if_neg, isIn_nI, b1_0, inBn, if_pos, cl_nI, (h.2.2.1 b hb).2, or_nI, nI_add]
    cases d : s.testBit b
    · rw [if_pos rfl, Nat.or_zero]
      have : msk (nn R) (fun j => s.testBit (bo R j) && decide (bo R j < b)) = msk (nn R) (fun j => s.testBit (bo R j) && decide (bo R j < b + 1)) := msk_congr (fun j hj => by
        by_cases z : bo R j = b
        · rw [z, d]; rfl
        · have : (bo R j < b + 1) = (bo R j < b) := propext (by omega)
          simp [this])
      rw [this]
    · rw [if_neg (by decide)]
      have : msk (nn R) (fun j => s.testBit (bo R j) && decide (bo R j < b)) ||| msk (nn R) (fun j => bo R j == b) = msk (nn R) (fun j => s.testBit (bo R j) && decide (bo R j < b + 1)) := tb_ext (fun j => by
        rw [Nat.testBit_or, tb_msk, tb_msk, tb_msk]
        by_cases z : bo R j = b
        · rw [z, d]; simp
        · have : (bo R j < b + 1) = (bo R j < b) := propext (by omega)
          have e2 : (bo R j == b) = false := by simpa using z
          simp [this, e2])
      rw [this]
theorem isAhead_m (hW : WF R) (h : LB J R (nn R)) (hk : 2000 ≤ k) {s t : Nat} (hs : s < 2 ^ 31) (ht : t < 2 ^ 31) : f_X6_isAhead k (nI s) (nI t) J = some (nI (b1 (decide (kyR R s < kyR R t)))) := by
  have s1 := pop_le s
  have s2 := wof_le hW (mset R s)
  have s3 := mset_lt hW s
  have t1 := pop_le t
  have t2 := wof_le hW (mset R t)
  have t3 := mset_lt hW t
  unfold f_X6_isAhead kyR
  simp (disch := omega) only [many_m, Option.bind_some, weightOf_m hW h hk, membersOf_m hW h hk, eq_nI, le_nI]
  generalize pop s = a at *
  generalize pop t = b at *
  generalize wof R (mset R s) = c at *
  generalize wof R (mset R t) = d at *
  generalize mset R s = e at *
  generalize mset R t = f at *
  by_cases h1 : a = b
  · rw [if_pos h1]
    by_cases h2 : c = d
    · rw [if_pos h2]
      by_cases h3 : f ≤ e
      · rw [if_pos h3, decide_eq_false (by omega)]; rfl
      · rw [if_neg h3, decide_eq_true (by omega)]; rfl
    · rw [if_neg h2]
      by_cases h3 : d ≤ c
      · rw [if_pos h3, decide_eq_false (by omega)]; rfl
      · rw [if_neg h3, decide_eq_true (by omega)]; rfl
  · rw [if_neg h1]
    by_cases h3 : b ≤ a
    · rw [if_pos h3, decide_eq_false (by omega)]; rfl
    · rw [if_neg h3, decide_eq_true (by omega)]; rfl
end LE
