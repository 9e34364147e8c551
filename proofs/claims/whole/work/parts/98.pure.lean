/-! the law over the two -/
section LW
variable {k b L c : Nat} {sc : Nat → Int32} {I : Mem}
theorem STP.run {o : Option (Int32 × Mem)} {f : Mem → Option (Int32 × Mem)} (h : STP c o f) {g : Int32 × Mem → Option (Int32 × Mem)} {e : Int32 × Mem → Int32 × Mem → Option (Int32 × Mem)} {X : Mem → Option (Int32 × Mem)} (hg : ∀ r1 r2, e r1 r2 = if r1.1 = r2.1 then X r2.2 else some (nI 0, r2.2)) (hgg : ∀ r1, g r1 = Option.bind (f r1.2) (e r1)) : ∃ K, Option.bind o g = X K ∧ RLs (c + 1) K := by
  obtain ⟨r, I1, I2, h1, h2, h3⟩ := h
  refine ⟨I2, ?_, h3⟩
  rw [h1, Option.bind_some, hgg]
  show Option.bind (f I1) (e (r, I1)) = X I2
  rw [h2, Option.bind_some, hg, if_pos rfl]
theorem law_step (hk : 2000 ≤ k) (hL : L ≤ 1536) (hc : 3 * c + 3 ≤ L) (h : RLs c I) (g : Nat) : ∃ K, f_L_law_18 k b L sc (g + 1) (nI (3 * c)) I = f_L_law_18 k b L sc g (nI (3 * (c + 1))) K ∧ RLs (c + 1) K := by
  have n3 : nI (3 * (c + 1)) = nI (3 * c) + nI 3 := by rw [nI_add]; exact congrArg nI (by omega)
  have b0 : inB (nI (3 * c)) L = true := by rw [inBn (by omega)]; omega
  have b1' : inB (nI (3 * c) + nI 1) L = true := by rw [nI_add, inBn (by omega)]; omega
  have b2 : inB (nI (3 * c) + nI 2) L = true := by rw [nI_add, inBn (by omega)]; omega
  rw [n3, f_L_law_18, sub_nI (by omega), if_neg (by rw [lt_nI (by omega) (by omega)]; omega), if_pos b0]
  generalize sc (Int32.toNatClampNeg (nI (3 * c))) &&& nI 31 = w
  generalize hx : sc (Int32.toNatClampNeg (nI (3 * c) + nI 1)) = x
  generalize hy : sc (Int32.toNatClampNeg (nI (3 * c) + nI 2)) = y
  by_cases e0 : w = nI 0
  · rw [if_pos e0, if_pos b1']
    exact (s_addMember hk h x).run (fun _ _ => rfl) (fun r => if_pos b1')
  by_cases e1 : w = nI 1
  · rw [if_neg e0, if_pos e1, if_pos b1']
    exact (s_removeMember hk h x).run (fun _ _ => rfl) (fun r => if_pos b1')
  by_cases e2 : w = nI 2
  · rw [if_neg e0, if_neg e1, if_pos e2, if_pos b1', if_pos b2]
    exact (s_setWeight hk h x y).run (fun _ _ => rfl) (fun r => (if_pos b1').trans (if_pos b2))
  by_cases e3 : w = nI 3
  · rw [if_neg e0, if_neg e1, if_neg e2, if_pos e3, if_pos b1', if_pos b2]
    unfold f_L_law_238
    subst hx hy
    by_cases z : sc (Int32.toNatClampNeg (nI (3 * c) + nI 2)) = 0
    · rw [if_pos z]
      exact (s_setVeto hk h (sc (Int32.toNatClampNeg (nI (3 * c) + nI 1))) false).run (X := fun K => f_L_law_18 k b L sc g (nI (3 * c) + nI 3) K) (fun _ _ => rfl) (fun r => (if_pos b1').trans ((if_pos b2).trans (if_pos z)))
    · rw [if_neg z]
      exact (s_setVeto hk h (sc (Int32.toNatClampNeg (nI (3 * c) + nI 1))) true).run (X := fun K => f_L_law_18 k b L sc g (nI (3 * c) + nI 3) K) (fun _ _ => rfl) (fun r => (if_pos b1').trans ((if_pos b2).trans (if_neg z)))
  by_cases e4 : w = nI 4
  · rw [if_neg e0, if_neg e1, if_neg e2, if_neg e3, if_pos e4, if_pos b1']
    exact (s_setQuota hk h x).run (fun _ _ => rfl) (fun r => if_pos b1')
  by_cases e5 : w = nI 5
  · rw [if_neg e0, if_neg e1, if_neg e2, if_neg e3, if_neg e4, if_pos e5, if_pos b1', if_pos b2]
    exact (s_join hk h x y).run (fun _ _ => rfl) (fun r => (if_pos b1').trans (if_pos b2))
  by_cases e6 : w = nI 6
  · rw [if_neg e0, if_neg e1, if_neg e2, if_neg e3, if_neg e4, if_neg e5, if_pos e6, if_pos b1']
    exact (s_leave hk h x).run (fun _ _ => rfl) (fun r => if_pos b1')
  by_cases e7 : w = nI 7
  · rw [if_neg e0, if_neg e1, if_neg e2, if_neg e3, if_neg e4, if_neg e5, if_neg e6, if_pos e7, if_pos b1']
    exact (s_type h x).run (fun _ _ => rfl) (fun r => if_pos b1')
  by_cases e8 : w = nI 8
  · rw [if_neg e0, if_neg e1, if_neg e2, if_neg e3, if_neg e4, if_neg e5, if_neg e6, if_neg e7, if_pos e8]
    exact (s_clear h).run (fun _ _ => rfl) (fun r => rfl)
  by_cases e9 : w = nI 9
  · rw [if_neg e0, if_neg e1, if_neg e2, if_neg e3, if_neg e4, if_neg e5, if_neg e6, if_neg e7, if_neg e8, if_pos e9]
    exact (s_vote hk (by omega) h).run (fun _ _ => rfl) (fun r => rfl)
  by_cases e10 : w = nI 10
  · rw [if_neg e0, if_neg e1, if_neg e2, if_neg e3, if_neg e4, if_neg e5, if_neg e6, if_neg e7, if_neg e8, if_neg e9, if_pos e10]
    exact (s_undo hk h).run (fun _ _ => rfl) (fun r => rfl)
  by_cases e11 : w = nI 11
  · rw [if_neg e0, if_neg e1, if_neg e2, if_neg e3, if_neg e4, if_neg e5, if_neg e6, if_neg e7, if_neg e8, if_neg e9, if_neg e10, if_pos e11]
    exact (s_keep hk h).run (fun _ _ => rfl) (fun r => rfl)
  by_cases e12 : w = nI 12
  · rw [if_neg e0, if_neg e1, if_neg e2, if_neg e3, if_neg e4, if_neg e5, if_neg e6, if_neg e7, if_neg e8, if_neg e9, if_neg e10, if_neg e11, if_pos e12]
    exact (s_restore hk h).run (fun _ _ => rfl) (fun r => rfl)
  by_cases e13 : w = nI 13
  · rw [if_neg e0, if_neg e1, if_neg e2, if_neg e3, if_neg e4, if_neg e5, if_neg e6, if_neg e7, if_neg e8, if_neg e9, if_neg e10, if_neg e11, if_neg e12, if_pos e13, if_pos b1', if_pos b2]
    exact (s_member hk h x y).run (fun _ _ => rfl) (fun r => (if_pos b1').trans (if_pos b2))
  by_cases e14 : w = nI 14
  · rw [if_neg e0, if_neg e1, if_neg e2, if_neg e3, if_neg e4, if_neg e5, if_neg e6, if_neg e7, if_neg e8, if_neg e9, if_neg e10, if_neg e11, if_neg e12, if_neg e13, if_pos e14, if_pos b1', if_pos b2]
    exact (s_share hk h x y).run (fun _ _ => rfl) (fun r => (if_pos b1').trans (if_pos b2))
  by_cases e15 : w = nI 15
  · obtain ⟨r, K, w1, w2, w3⟩ := s_wins hk h x
    rw [if_neg e0, if_neg e1, if_neg e2, if_neg e3, if_neg e4, if_neg e5, if_neg e6, if_neg e7, if_neg e8, if_neg e9, if_neg e10, if_neg e11, if_neg e12, if_neg e13, if_neg e14, if_pos e15, if_pos b1', w1, Option.bind_some, if_pos b1', w2, Option.bind_some, if_pos rfl]
    exact ⟨K, rfl, w3⟩
  by_cases e16 : w = nI 16
  · rw [if_neg e0, if_neg e1, if_neg e2, if_neg e3, if_neg e4, if_neg e5, if_neg e6, if_neg e7, if_neg e8, if_neg e9, if_neg e10, if_neg e11, if_neg e12, if_neg e13, if_neg e14, if_neg e15, if_pos e16, if_pos b1', if_pos b2]
    exact (s_least hk h x y).run (fun _ _ => rfl) (fun r => (if_pos b1').trans (if_pos b2))
  by_cases e17 : w = nI 17
  · rw [if_neg e0, if_neg e1, if_neg e2, if_neg e3, if_neg e4, if_neg e5, if_neg e6, if_neg e7, if_neg e8, if_neg e9, if_neg e10, if_neg e11, if_neg e12, if_neg e13, if_neg e14, if_neg e15, if_neg e16, if_pos e17, if_pos b1']
    exact (s_ranked hk h x).run (fun _ _ => rfl) (fun r => if_pos b1')
  by_cases e18 : w = nI 18
  · rw [if_neg e0, if_neg e1, if_neg e2, if_neg e3, if_neg e4, if_neg e5, if_neg e6, if_neg e7, if_neg e8, if_neg e9, if_neg e10, if_neg e11, if_neg e12, if_neg e13, if_neg e14, if_neg e15, if_neg e16, if_neg e17, if_pos e18, if_pos b1', if_pos b2]
    exact (s_withQuota hk h x y).run (fun _ _ => rfl) (fun r => (if_pos b1').trans (if_pos b2))
  by_cases e19 : w = nI 19
  · rw [if_neg e0, if_neg e1, if_neg e2, if_neg e3, if_neg e4, if_neg e5, if_neg e6, if_neg e7, if_neg e8, if_neg e9, if_neg e10, if_neg e11, if_neg e12, if_neg e13, if_neg e14, if_neg e15, if_neg e16, if_neg e17, if_neg e18, if_pos e19, if_pos b1', if_pos b2]
    exact (s_leavesOut hk h x y).run (fun _ _ => rfl) (fun r => (if_pos b1').trans (if_pos b2))
  by_cases e20 : w = nI 20
  · rw [if_neg e0, if_neg e1, if_neg e2, if_neg e3, if_neg e4, if_neg e5, if_neg e6, if_neg e7, if_neg e8, if_neg e9, if_neg e10, if_neg e11, if_neg e12, if_neg e13, if_neg e14, if_neg e15, if_neg e16, if_neg e17, if_neg e18, if_neg e19, if_pos e20]
    exact (s_fairest hk h).run (fun _ _ => rfl) (fun r => rfl)
  by_cases e21 : w = nI 21
  · obtain ⟨r, w1, w2, w3⟩ := s_ballot (k := k) h x y
    rw [if_neg e0, if_neg e1, if_neg e2, if_neg e3, if_neg e4, if_neg e5, if_neg e6, if_neg e7, if_neg e8, if_neg e9, if_neg e10, if_neg e11, if_neg e12, if_neg e13, if_neg e14, if_neg e15, if_neg e16, if_neg e17, if_neg e18, if_neg e19, if_neg e20, if_pos e21, if_pos b1', if_pos b2, w1, Option.bind_some, if_pos b1', if_pos b2, w2, Option.bind_some, if_pos rfl]
    exact ⟨I, rfl, w3⟩
  by_cases e22 : w = nI 22
  · rw [if_neg e0, if_neg e1, if_neg e2, if_neg e3, if_neg e4, if_neg e5, if_neg e6, if_neg e7, if_neg e8, if_neg e9, if_neg e10, if_neg e11, if_neg e12, if_neg e13, if_neg e14, if_neg e15, if_neg e16, if_neg e17, if_neg e18, if_neg e19, if_neg e20, if_neg e21, if_pos e22, if_pos b1']
    exact (s_count hk h x).run (fun _ _ => rfl) (fun r => if_pos b1')
  rw [if_neg e0, if_neg e1, if_neg e2, if_neg e3, if_neg e4, if_neg e5, if_neg e6, if_neg e7, if_neg e8, if_neg e9, if_neg e10, if_neg e11, if_neg e12, if_neg e13, if_neg e14, if_neg e15, if_neg e16, if_neg e17, if_neg e18, if_neg e19, if_neg e20, if_neg e21, if_neg e22]
  obtain ⟨R, st, P, kp, A, len, ch, hG, hQ, hM⟩ := h
  exact ⟨I, rfl, R, st, P, kp, A, len, ch, hG.up, hQ, hM⟩
end LW
theorem start_RL : RLs 0 I0 := by
  obtain ⟨w1, w2, w3, w4, w5, w6⟩ := mkR (R := I0 72) (n := 0) (q := 1) (h := 0) (w := fun _ => 0) (v := fun _ => false) (b := fun _ => 0) (by decide) (by decide) (by decide) (by decide) (by decide) (fun m hm => absurd hm (Nat.not_lt_zero _)) (fun m hm => absurd hm (Nat.not_lt_zero _)) (fun m hm => absurd hm (Nat.not_lt_zero _)) (by decide) (by decide) (by decide)
  refine ⟨I0 72, 0, fun _ _ => 0, false, fun _ => 0, 0, fun _ => 0, ⟨⟨w1, by rw [w4]; decide⟩, fun p hp => absurd hp (Nat.not_lt_zero _), fun e => absurd e (by decide)⟩, ⟨⟨⟨w6 I0 0 (by decide) (by decide) (by decide) (fun m hm => absurd hm (Nat.not_lt_zero _)), fun m hm => ?_, ⟨by decide, by decide⟩, by decide⟩, ⟨by decide, by decide, fun i => 2 + i, ⟨fun i hi => ⟨rfl, show 2 ≤ 2 + i by omega, show 2 + i < 6 by omega⟩, fun i j _ _ e => (by change 2 + i = 2 + j at e; omega)⟩, fun p hp => absurd hp (Nat.not_lt_zero _)⟩, ⟨by decide, fun e => absurd e (by decide)⟩, ⟨by decide, by decide, fun j hj => absurd hj (Nat.not_lt_zero _)⟩⟩, Or.inl (by decide)⟩, ⟨fun _ _ => rfl, ⟨by decide, fun p hp => absurd hp (Nat.not_lt_zero _)⟩, ⟨by decide, fun e => absurd e (by decide)⟩, by decide, fun j hj => absurd hj (Nat.not_lt_zero _)⟩⟩
  rw [w2] at hm
  exact absurd hm (Nat.not_lt_zero _)
/-- the pure core -/
theorem pure_main (sc : Nat → Int32) (L b : Nat) (hL : L ≤ 1536) : ∃ (k : Nat) (r : Int32 × Mem), f_L_law k b L sc I0 = some r ∧ r.1 = 1 := by
  refine ⟨2000, ?_⟩
  unfold f_L_law
  refine loopE (fun g t (J : Mem) => f_L_law_18 2000 b L sc g (nI (3 * t)) J) (L / 3) (fun t J => RLs t J) (fun o => ∃ r : Int32 × Mem, o = some r ∧ r.1 = 1) (fun g J hJ => ?_) (fun g t J ht hJ => ?_) (L / 3) 0 2000 I0 (by omega) (by omega) start_RL
  · rw [f_L_law_18]
    by_cases z : 3 ≤ L
    · rw [sub_nI z, if_pos (by rw [lt_nI (by omega) (by omega)]; omega)]
      exact ⟨(nI 1, J), rfl, show nI 1 = 1 by decide⟩
    · have : nI L - nI 3 < nI (3 * (L / 3)) := by
        rw [show L / 3 = 0 by omega]
        have := pk_sneg (show (3 : Nat) < 2 ^ 30 by decide) (show L < 3 by omega)
        exact neg_lt this (by decide)
      rw [if_pos this]
      exact ⟨(nI 1, J), rfl, show nI 1 = 1 by decide⟩
  · exact law_step (by decide) hL (by omega) hJ g
