/-! copies; the history -/
theorem arrcpy_eq (I : Mem) {a b n j : Nat} (hn : n < 2 ^ 31) (h : j < n) : arrcpy I a b (nI 0) (nI 0) (nI n) b j = I a j := by
  unfold arrcpy upr va_cpy
  rw [if_pos rfl, cl_nI hn, cl_nI (by decide : (0 : Nat) < 2 ^ 31)]
  show (if 0 ≤ j ∧ j < 0 + n then I a (0 + (j - 0)) else I b j) = I a j
  rw [if_pos ⟨Nat.zero_le _, by omega⟩]
  exact congrArg (I a) (by omega)
theorem arrcpy_ne (I : Mem) {a b c n : Nat} (h : c ≠ b) : arrcpy I a b (nI 0) (nI 0) (nI n) c = I c := by
  unfold arrcpy upr
  rw [if_neg h]
section CO
variable {k s s2 : Nat} {I : Mem}
theorem bcopy_eq (h : s ≠ s2) : ∃ J, f_X0_copyFrom k s s2 I = some J ∧ (∀ j, j < 2 → J (8 * s + 4) j = I (8 * s2 + 4) j) ∧ (∀ j, j < 8 → J (8 * s + 5) j = I (8 * s2 + 5) j ∧ J (8 * s + 6) j = I (8 * s2 + 6) j ∧ J (8 * s + 7) j = I (8 * s2 + 7) j) ∧ ∀ b, b ≠ 8 * s + 4 → b ≠ 8 * s + 5 → b ≠ 8 * s + 6 → b ≠ 8 * s + 7 → J b = I b := by
  unfold f_X0_copyFrom
  simp only [Option.bind_some]
  refine ⟨_, rfl, fun j hj => ?_, fun j hj => ⟨?_, ?_, ?_⟩, fun b h4 h5 h6 h7 => ?_⟩
  · rw [arrcpy_ne _ (by omega), arrcpy_ne _ (by omega), arrcpy_ne _ (by omega)]
    by_cases e : j = 1
    · rw [e, up2_eq, up2_nea _ _ _ _ (by omega)]
    · rw [show j = 0 by omega, up2_nei _ _ _ _ (by decide), up2_eq]
  · rw [arrcpy_ne _ (by omega), arrcpy_ne _ (by omega), arrcpy_eq _ (by decide) hj, up2_nea _ _ _ _ (by omega), up2_nea _ _ _ _ (by omega)]
  · rw [arrcpy_ne _ (by omega), arrcpy_eq _ (by decide) hj, arrcpy_ne _ (by omega), up2_nea _ _ _ _ (by omega), up2_nea _ _ _ _ (by omega)]
  · rw [arrcpy_eq _ (by decide) hj, arrcpy_ne _ (by omega), arrcpy_ne _ (by omega), up2_nea _ _ _ _ (by omega), up2_nea _ _ _ _ (by omega)]
  · rw [arrcpy_ne _ h7, arrcpy_ne _ h6, arrcpy_ne _ h5, up2_nea _ _ _ _ h4, up2_nea _ _ _ _ h4]
theorem copy_eq (h : s ≠ s2) : ∃ J, f_X3_copyFrom k s s2 I = some J ∧ (∀ R, nn R ≤ 10 → CS I s2 R → CS J s R) ∧ ∀ b, (b < 8 * s ∨ 8 * s + 8 ≤ b) → J b = I b := by
  unfold f_X3_copyFrom
  simp only [Option.bind_some]
  generalize e1 : up2 (up2 I (8 * s) 0 (I (8 * s2) 0)) (8 * s) 1 (up2 I (8 * s) 0 (I (8 * s2) 0) (8 * s2) 1) = J1
  generalize e2 : arrcpy (arrcpy (up2 J1 (8 * s) 2 (J1 (8 * s2) 2)) (8 * s2 + 1) (8 * s + 1) (nI 0) (nI 0) (nI 10)) (8 * s2 + 2) (8 * s + 2) (nI 0) (nI 0) (nI 10) = J2
  obtain ⟨J, q1, q2, q3, q4⟩ := bcopy_eq (k := k) (I := arrcpy J2 (8 * s2 + 3) (8 * s + 3) (nI 0) (nI 0) (nI 10)) h
  have f1 : ∀ b, b ≠ 8 * s → J1 b = I b := fun b hb => by rw [← e1, up2_nea _ _ _ _ hb, up2_nea _ _ _ _ hb]
  have f2 : ∀ b, b ≠ 8 * s → b ≠ 8 * s + 1 → b ≠ 8 * s + 2 → J2 b = I b := fun b h1 h2 h3 => by rw [← e2, arrcpy_ne _ h3, arrcpy_ne _ h2, up2_nea _ _ _ _ h1, f1 _ h1]
  rw [q1]
  refine ⟨J, rfl, fun R hn hR => ⟨⟨⟨?_, ?_, ?_⟩, fun m hm => ⟨?_, ?_⟩⟩, fun m hm => ?_, ⟨?_, ?_⟩, fun j hj => ⟨?_, ?_, ?_⟩⟩, fun b hb => ?_⟩
  · rw [q4 _ (by omega) (by omega) (by omega) (by omega), arrcpy_ne _ (by omega), ← e2, arrcpy_ne _ (by omega), arrcpy_ne _ (by omega), up2_nei _ _ _ _ (by decide), ← e1, up2_nei _ _ _ _ (by decide), up2_eq]
    exact hR.1.1.1
  · rw [q4 _ (by omega) (by omega) (by omega) (by omega), arrcpy_ne _ (by omega), ← e2, arrcpy_ne _ (by omega), arrcpy_ne _ (by omega), up2_nei _ _ _ _ (by decide), ← e1, up2_eq, up2_nea _ _ _ _ (by omega)]
    exact hR.1.1.2.1
  · rw [q4 _ (by omega) (by omega) (by omega) (by omega), arrcpy_ne _ (by omega), ← e2, arrcpy_ne _ (by omega), arrcpy_ne _ (by omega), up2_eq, f1 _ (by omega)]
    exact hR.1.1.2.2
  · rw [q4 _ (by omega) (by omega) (by omega) (by omega), arrcpy_ne _ (by omega), ← e2, arrcpy_ne _ (by omega), arrcpy_eq _ (by decide) (by omega), up2_nea _ _ _ _ (by omega), f1 _ (by omega)]
    exact (hR.1.2 m hm).1
  · rw [q4 _ (by omega) (by omega) (by omega) (by omega), arrcpy_ne _ (by omega), ← e2, arrcpy_eq _ (by decide) (by omega), arrcpy_ne _ (by omega), up2_nea _ _ _ _ (by omega), f1 _ (by omega)]
    exact (hR.1.2 m hm).2
  · rw [q4 _ (by omega) (by omega) (by omega) (by omega), arrcpy_eq _ (by decide) (by omega), f2 _ (by omega) (by omega) (by omega)]
    exact hR.2.1 m hm
  · rw [q2 _ (by decide), arrcpy_ne _ (by omega), f2 _ (by omega) (by omega) (by omega)]
    exact hR.2.2.1.1
  · rw [q2 _ (by decide), arrcpy_ne _ (by omega), f2 _ (by omega) (by omega) (by omega)]
    exact hR.2.2.1.2
  · rw [(q3 j hj).1, arrcpy_ne _ (by omega), f2 _ (by omega) (by omega) (by omega)]
    exact (hR.2.2.2 j hj).1
  · rw [(q3 j hj).2.1, arrcpy_ne _ (by omega), f2 _ (by omega) (by omega) (by omega)]
    exact (hR.2.2.2 j hj).2.1
  · rw [(q3 j hj).2.2, arrcpy_ne _ (by omega), f2 _ (by omega) (by omega) (by omega)]
    exact (hR.2.2.2 j hj).2.2
  · rw [q4 _ (by omega) (by omega) (by omega) (by omega), arrcpy_ne _ (by omega), f2 _ (by omega) (by omega) (by omega)]
end CO
/-- the row of the history's four objects -/
def HP (I : Mem) (π : Nat → Nat) : Prop := (∀ i, i < 4 → I 50 i = nI (π i) ∧ 2 ≤ π i ∧ π i < 6) ∧ ∀ i j, i < 4 → j < 4 → π i = π j → i = j
def CH (I : Mem) (st : Nat) (P : Nat → Nat → Int32) : Prop := I 49 1 = nI st ∧ st ≤ 4 ∧ ∃ π, HP I π ∧ ∀ p, p < st → CS I (π p) (P p)
def nst (st : Nat) : Nat := if st = 4 then 4 else st + 1
def nP (st : Nat) (P : Nat → Nat → Int32) (R : Nat → Int32) : Nat → Nat → Int32 := fun p => if p = nst st - 1 then R else if st = 4 then P (p + 1) else P p
section HI
variable {k st : Nat} {I J : Mem} {P : Nat → Nat → Int32} {R : Nat → Int32}
theorem CH.mono (h : CH I st P) (hf : ∀ b, 16 ≤ b → b < 48 → J b = I b) (h1 : J 49 1 = I 49 1) (h2 : J 50 = I 50) : CH J st P := by
  obtain ⟨a1, a2, π, ⟨a3, a4⟩, a5⟩ := h
  refine ⟨h1.trans a1, a2, π, ⟨fun i hi => by rw [h2]; exact a3 i hi, a4⟩, fun p hp => (a5 p hp).mono (fun j hj => hf _ ?_ ?_)⟩
  · have := a3 p (by omega)
    omega
  · have := a3 p (by omega)
    omega
theorem drop_eq (h : CH I 4 P) (hk : 2000 ≤ k) : ∃ J, f_X1_dropOldest k I = some J ∧ CH J 3 (fun p => P (p + 1)) ∧ (J 49 1 = nI 3) ∧ ∀ b, b ≠ 49 → b ≠ 50 → J b = I b := by
  obtain ⟨a1, _, π, ⟨a3, a4⟩, a5⟩ := h
  have b0 := a3 0 (by decide)
  have b1 := a3 1 (by decide)
  have b2 := a3 2 (by decide)
  have b3 := a3 3 (by decide)
  obtain ⟨k', rfl⟩ : ∃ k', k = k' + 1 + 1 + 1 + 1 := ⟨k - 4, by omega⟩
  unfold f_X1_dropOldest
  have c1 := b1.1
  have c2 := b2.1
  have c3 := b3.1
  simp (disch := omega) only [cl_nI, b0.1, if_pos]
  simp (disch := omega) only [f_X1_dropOldest_9, le_nI, if_neg, if_pos, inBn, cl_nI, sub_nI, nI_add, Option.bind_some, up2_nei, c1, c2, c3]
  refine ⟨_, rfl, ⟨?_, by decide, fun i => if i = 3 then π 0 else π (i + 1), ⟨fun i hi => ?_, fun i j hi hj e => ?_⟩, fun p hp => ?_⟩, ?_, fun b hb1 hb2 => ?_⟩
  · rw [up2_eq, up2_nea _ _ _ _ (by decide), up2_nea _ _ _ _ (by decide), up2_nea _ _ _ _ (by decide), up2_nea _ _ _ _ (by decide), a1, sub_nI (by decide)]
  · rw [up2_nea _ _ _ _ (by decide)]
    rcases (by omega : i = 0 ∨ i = 1 ∨ i = 2 ∨ i = 3) with e | e | e | e <;> subst e
    · rw [up2_nei _ _ _ _ (by decide), up2_nei _ _ _ _ (by decide), up2_nei _ _ _ _ (by decide), up2_eq]
      exact ⟨rfl, b1.2⟩
    · rw [up2_nei _ _ _ _ (by decide), up2_nei _ _ _ _ (by decide), up2_eq]
      exact ⟨rfl, b2.2⟩
    · rw [up2_nei _ _ _ _ (by decide), up2_eq]
      exact ⟨rfl, b3.2⟩
    · rw [up2_eq]
      exact ⟨rfl, b0.2⟩
  · by_cases e1 : i = 3 <;> by_cases e2 : j = 3
    · omega
    · simp only [e1, if_true, e2, if_false] at e
      have := a4 _ _ (by decide) (by omega) e
      omega
    · simp only [e1, if_true, e2, if_false] at e
      have := a4 _ _ (by omega) (by decide) e
      omega
    · simp only [e1, e2, if_false] at e
      have := a4 _ _ (by omega) (by omega) e
      omega
  · simp only [show p ≠ 3 by omega, if_false]
    have := a3 (p + 1) (by omega)
    exact (a5 (p + 1) (by omega)).mono (fun j hj => by
      rw [up2_nea _ _ _ _ (by omega), up2_nea _ _ _ _ (by omega), up2_nea _ _ _ _ (by omega), up2_nea _ _ _ _ (by omega), up2_nea _ _ _ _ (by omega)])
  · rw [up2_eq, up2_nea _ _ _ _ (by decide), up2_nea _ _ _ _ (by decide), up2_nea _ _ _ _ (by decide), up2_nea _ _ _ _ (by decide), a1, sub_nI (by decide)]
  · rw [up2_nea _ _ _ _ hb1, up2_nea _ _ _ _ hb2, up2_nea _ _ _ _ hb2, up2_nea _ _ _ _ hb2, up2_nea _ _ _ _ hb2]
theorem hadd12_eq (h : CH I st P) (hs : st < 4) (hn : nn R ≤ 10) (hR : CS I 0 R) : ∃ J, f_X1_add_12 k 0 I = some J ∧ CH J (st + 1) (fun p => if p = st then R else P p) ∧ ∀ b, (b < 16 ∨ b = 48 ∨ 50 < b) → J b = I b := by
  obtain ⟨a1, _, π, ⟨a3, a4⟩, a5⟩ := h
  have b0 := a3 st hs
  obtain ⟨J, q1, q2, q3⟩ := copy_eq (k := k) (s := π st) (s2 := 0) (I := I) (by omega)
  unfold f_X1_add_12
  simp (disch := omega) only [a1, inBn, if_pos, cl_nI, b0.1, q1, Option.bind_some]
  refine ⟨_, rfl, ⟨?_, by omega, π, ⟨fun i hi => ?_, a4⟩, fun p hp => ?_⟩, fun b hb => ?_⟩
  · rw [up2_eq, q3 _ (by omega), a1, nI_add]
  · rw [up2_nea _ _ _ _ (by decide), q3 _ (by omega)]
    exact a3 i hi
  · show CS _ _ (if p = st then R else P p)
    by_cases e : p = st
    · rw [if_pos e, e]
      exact (q2 R hn hR).mono (fun j hj => up2_nea _ _ _ _ (by omega))
    · rw [if_neg e]
      have := a3 p (by omega)
      refine (a5 p (by omega)).mono (fun j hj => ?_)
      have hne : π p ≠ π st := fun z => e (a4 _ _ (by omega) hs z)
      rw [up2_nea _ _ _ _ (by omega), q3 _ (by omega)]
  · rw [up2_nea _ _ _ _ (by omega), q3 _ (by omega)]
theorem hadd_eq (h : CH I st P) (hn : nn R ≤ 10) (hR : CS I 0 R) (hk : 2000 ≤ k) : ∃ J, f_X1_add k 0 I = some J ∧ CH J (nst st) (nP st P R) ∧ ∀ b, (b < 16 ∨ b = 48 ∨ 50 < b) → J b = I b := by
  unfold f_X1_add
  have a1 := h.1
  have a2 := h.2.1
  simp (disch := omega) only [a1, eq_nI]
  by_cases e : st = 4
  · subst e
    obtain ⟨J, q1, q2, q3, q4⟩ := drop_eq h hk
    rw [if_pos rfl, q1, Option.bind_some]
    obtain ⟨J2, r1, r2, r3⟩ := hadd12_eq (k := k) (R := R) q2 (by decide) hn (hR.mono (fun j hj => q4 _ (by omega) (by omega)))
    refine ⟨J2, r1, r2, fun b hb => ?_⟩
    rw [r3 b hb, q4 _ (by omega) (by omega)]
  · rw [if_neg e]
    obtain ⟨J2, r1, r2, r3⟩ := hadd12_eq (k := k) (R := R) h (by omega) hn hR
    refine ⟨J2, r1, ?_, r3⟩
    have e1 : nst st = st + 1 := if_neg e
    have e2 : nP st P R = fun p => if p = st then R else P p := by
      funext p
      unfold nP
      rw [e1, Nat.add_sub_cancel, if_neg e]
    rw [e1, e2]
    exact r2
theorem begin_eq (h : CH I st P) (hn : nn R ≤ 10) (hR : CS I 0 R) (hk : 2000 ≤ k) : ∃ J, f_X5_beginAct k I = some J ∧ CH J (nst st) (nP st P R) ∧ J 48 6 = 0 ∧ (∀ i, i ≠ 6 → J 48 i = I 48 i) ∧ ∀ b, (b < 16 ∨ 50 < b) → J b = I b := by
  obtain ⟨J, q1, q2, q3⟩ := hadd_eq h hn hR hk
  unfold f_X5_beginAct
  rw [q1]
  refine ⟨_, rfl, q2.mono (fun b _ _ => up2_nea _ _ _ _ (by omega)) (by rw [up2_nea _ _ _ _ (by omega)]) (up2_nea _ _ _ _ (by omega)), up2_eq _ _ _ _, fun i hi => ?_, fun b hb => ?_⟩
  · rw [up2_nei _ _ _ _ hi, q3 _ (by omega)]
  · rw [up2_nea _ _ _ _ (by omega), q3 _ (by omega)]
theorem take_eq (h : CH I (st + 1) P) (hn : nn (P st) ≤ 10) : ∃ J, f_X1_takeLatest k 0 I = some J ∧ CH J st P ∧ CS J 0 (P st) ∧ ∀ b, (8 ≤ b ∧ b ≠ 49) → J b = I b := by
  obtain ⟨a1, a0, π, ⟨a3, a4⟩, a5⟩ := h
  have b0 := a3 st (by omega)
  unfold f_X1_takeLatest
  simp (disch := omega) only [a1, le0_nI, if_neg, up2_eq, up2_nea, sub_nI, Nat.add_sub_cancel, inBn, if_pos, cl_nI, b0.1]
  generalize eI : up2 I 49 1 (nI st) = I1
  obtain ⟨J, q1, q2, q3⟩ := copy_eq (k := k) (s := 0) (s2 := π st) (I := I1) (by omega)
  have f1 : ∀ b, b ≠ 49 → I1 b = I b := fun b hb => by rw [← eI, up2_nea _ _ _ _ hb]
  rw [q1]
  refine ⟨J, rfl, ⟨?_, by omega, π, ⟨fun i hi => ?_, a4⟩, fun p hp => ?_⟩, q2 _ hn ((a5 st (by omega)).mono (fun j hj => f1 _ (by omega))), fun b hb => ?_⟩
  · rw [q3 _ (by omega), ← eI, up2_eq]
  · rw [q3 _ (by omega), f1 _ (by omega)]
    exact a3 i hi
  · have := a3 p (by omega)
    exact (a5 p (by omega)).mono (fun j hj => by rw [q3 _ (by omega), f1 _ (by omega)])
  · rw [q3 _ (by omega), f1 _ (by omega)]
end HI
