/-! rows from their data; what the acts make of a row -/
theorem mkR {R : Nat → Int32} {n q h : Nat} {w : Nat → Nat} {v : Nat → Bool} {b : Nat → Nat} (h0 : R 0 = nI n) (hn : n ≤ 10) (h1 : R 1 = nI q) (hq1 : 1 ≤ q) (hq2 : q ≤ 500) (hw : ∀ m, m < n → R (29 + m) = nI (w m) ∧ w m ≤ 50) (hv : ∀ m, m < n → R (39 + m) = nI (b1 (v m))) (hb : ∀ m, m < n → R (49 + m) = nI (b m) ∧ b m ≤ m ∧ b (b m) = b m) (h2 : R 2 = nI h) (hh : h ≤ 20000) (h4 : R 4 = nI (min 8 h)) : WF R ∧ nn R = n ∧ qq R = q ∧ hd R = h ∧ (∀ m, m < n → wt R m = w m ∧ vt R m = v m ∧ bl R m = b m) ∧ ∀ (I : Mem) (s : Nat), I (8 * s) 0 = nI n → I (8 * s) 1 = nI q → I (8 * s) 2 = nI (msk n v) → (∀ m, m < n → I (8 * s + 1) m = nI (w m) ∧ I (8 * s + 2) m = nI (msk n (fun j => b j == b m))) → CS0 I s R := by
  have en : nn R = n := by unfold nn; rw [h0, cl_nI (by omega)]
  have eq : qq R = q := by unfold qq; rw [h1, cl_nI (by omega)]
  have eh : hd R = h := by unfold hd; rw [h2, cl_nI (by omega)]
  have ew : ∀ m, m < n → wt R m = w m := fun m hm => by unfold wt; rw [(hw m hm).1, cl_nI (by have := (hw m hm).2; omega)]
  have eb : ∀ m, m < n → bl R m = b m := fun m hm => by unfold bl; rw [(hb m hm).1, cl_nI (by have := (hb m hm).2.1; omega)]
  have ev : ∀ m, m < n → vt R m = v m := fun m hm => by unfold vt; rw [hv m hm]; cases v m <;> decide
  refine ⟨⟨⟨by rw [en]; exact h0, by omega⟩, ⟨by rw [eq]; exact h1, by omega, by omega⟩, fun m hm => ?_, by rw [eh]; exact h2, by omega, by rw [eh]; exact h4⟩, en, eq, eh, fun m hm => ⟨ew m hm, ev m hm, eb m hm⟩, fun I s g0 g1 g2 g3 => ⟨⟨g0.trans h0.symm, g1.trans h1.symm, ?_⟩, fun m hm => ?_⟩⟩
  · rw [en] at hm
    have hbm := (hb m hm).2
    refine ⟨⟨by rw [ew m hm]; exact (hw m hm).1, by rw [ew m hm]; exact (hw m hm).2⟩, by rw [ev m hm]; exact hv m hm, by rw [eb m hm]; exact (hb m hm).1, by rw [eb m hm]; exact hbm.1, ?_⟩
    rw [eb m hm, eb _ (by omega)]
    exact hbm.2
  · rw [g2]
    unfold vmk
    rw [en]
    exact congrArg nI (msk_congr (fun i hi => (ev i hi).symm))
  · rw [en] at hm
    refine ⟨(g3 m hm).1.trans (hw m hm).1.symm, (g3 m hm).2.trans ?_⟩
    unfold bmk
    rw [en, eb m hm]
    exact congrArg nI (msk_congr (fun i hi => by rw [eb i hi]))
section AD
variable {k s : Nat} {I J : Mem} {R : Nat → Int32}
/-- what a row's own cells say -/
theorem CS0.v (h : CS0 I s R) : I (8 * s) 2 = nI (vmk R) := h.1.2.2
def set1 (R : Nat → Int32) (j : Nat) (x : Int32) : Nat → Int32 := fun i => if i = j then x else R i
theorem set1_eq {R : Nat → Int32} {j : Nat} {x : Int32} : set1 R j x j = x := if_pos rfl
theorem set1_ne {R : Nat → Int32} {i j : Nat} {x : Int32} (h : i ≠ j) : set1 R j x i = R i := if_neg h
theorem WF.r0 (hW : WF R) : R 0 = nI (nn R) := hW.1.1
theorem WF.r1 (hW : WF R) : R 1 = nI (qq R) := hW.2.1.1
theorem WF.r2 (hW : WF R) : R 2 = nI (hd R) := hW.2.2.2.1
theorem WF.h2 (hW : WF R) : hd R ≤ 20000 := hW.2.2.2.2.1
theorem WF.r4 (hW : WF R) : R 4 = nI (min 8 (hd R)) := hW.2.2.2.2.2
theorem WF.rw (hW : WF R) {m : Nat} (hm : m < nn R) : R (29 + m) = nI (wt R m) := (hW.2.2.1 m hm).1.1
theorem WF.rv (hW : WF R) {m : Nat} (hm : m < nn R) : R (39 + m) = nI (b1 (vt R m)) := (hW.2.2.1 m hm).2.1
theorem WF.rb (hW : WF R) {m : Nat} (hm : m < nn R) : R (49 + m) = nI (bl R m) := (hW.2.2.1 m hm).2.2.1
/-- the ballots' cells in another row -/
theorem CSb.cong {R' : Nat → Int32} (h : CSb I s R) (e : ∀ j, 2 ≤ j → j < 29 → R' j = R j) : CSb I s R' := by
  unfold CSb
  rw [e 2 (by decide) (by decide), e 3 (by decide) (by decide)]
  refine ⟨h.1, fun j hj => ?_⟩
  rw [e (5 + 3 * j) (by omega) (by omega), e (6 + 3 * j) (by omega) (by omega), e (7 + 3 * j) (by omega) (by omega)]
  exact h.2 j hj
theorem CSb.mono (h : CSb I s R) (hh : ∀ j, 4 ≤ j → j < 8 → J (8 * s + j) = I (8 * s + j)) : CSb J s R := by
  unfold CSb
  rw [hh 4 (by decide) (by decide), hh 5 (by decide) (by decide), hh 6 (by decide) (by decide), hh 7 (by decide) (by decide)]
  exact h
def addR (R : Nat → Int32) (w : Nat) : Nat → Int32 := set1 (set1 (set1 (set1 (set1 R (29 + nn R) (nI w)) (39 + nn R) (nI 0)) (49 + nn R) (nI (nn R))) (59 + nn R) (nI 0)) 0 (nI (nn R + 1))
theorem add_data (hW : WF R) (hn : nn R < 10) {w : Nat} (hw : w ≤ 50) : WF (addR R w) ∧ nn (addR R w) = nn R + 1 ∧ qq (addR R w) = qq R ∧ hd (addR R w) = hd R ∧ (∀ m, m < nn R + 1 → wt (addR R w) m = (if m = nn R then w else wt R m) ∧ vt (addR R w) m = (if m = nn R then false else vt R m) ∧ bl (addR R w) m = (if m = nn R then m else bl R m)) ∧ ∀ (I : Mem) (s : Nat), I (8 * s) 0 = nI (nn R + 1) → I (8 * s) 1 = nI (qq R) → I (8 * s) 2 = nI (msk (nn R + 1) (fun m => if m = nn R then false else vt R m)) → (∀ m, m < nn R + 1 → I (8 * s + 1) m = nI (if m = nn R then w else wt R m) ∧ I (8 * s + 2) m = nI (msk (nn R + 1) (fun j => (if j = nn R then j else bl R j) == (if m = nn R then m else bl R m)))) → CS0 I s (addR R w) := by
  have hle := fun m (hm : m < nn R) => hW.bl_le hm
  refine mkR (w := fun m => if m = nn R then w else wt R m) (v := fun m => if m = nn R then false else vt R m) (b := fun m => if m = nn R then m else bl R m) set1_eq (by omega) ?_ hW.q1 hW.q500 (fun m hm => ?_) (fun m hm => ?_) (fun m hm => ?_) ?_ hW.h2 ?_
  · exact (by unfold addR; rw [set1_ne (by omega), set1_ne (by omega), set1_ne (by omega), set1_ne (by omega), set1_ne (by omega)]; exact hW.r1)
  · unfold addR
    rw [set1_ne (by omega), set1_ne (by omega), set1_ne (by omega), set1_ne (by omega)]
    by_cases e : m = nn R
    · rw [if_pos e, e, set1_eq]; exact ⟨rfl, hw⟩
    · rw [if_neg e, set1_ne (by omega)]; exact ⟨hW.rw (by omega), hW.w50 (by omega)⟩
  · unfold addR
    rw [set1_ne (by omega), set1_ne (by omega), set1_ne (by omega)]
    by_cases e : m = nn R
    · rw [if_pos e, e, set1_eq]; rfl
    · rw [if_neg e, set1_ne (by omega), set1_ne (by omega)]; exact hW.rv (by omega)
  · unfold addR
    rw [set1_ne (by omega), set1_ne (by omega)]
    by_cases e : m = nn R
    · simp only [if_pos e]
      rw [e, set1_eq]; exact ⟨rfl, Nat.le_refl _, trivial⟩
    · have := hle m (by omega)
      simp only [if_neg e]
      rw [set1_ne (by omega), set1_ne (by omega), set1_ne (by omega), if_neg (by omega)]; exact ⟨hW.rb (by omega), this, hW.bl_bl (by omega)⟩
  · unfold addR
    rw [set1_ne (by omega), set1_ne (by omega), set1_ne (by omega), set1_ne (by omega), set1_ne (by omega)]; exact hW.r2
  · unfold addR
    rw [set1_ne (by omega), set1_ne (by omega), set1_ne (by omega), set1_ne (by omega), set1_ne (by omega)]; exact hW.r4
theorem append_eq (hW : WF R) (h : CS I s R) (hn : nn R < 10) {w : Nat} (hw : w ≤ 50) : ∃ J, f_X3_append k s (nI w) I = some (nI (nn R), J) ∧ CS J s (addR R w) ∧ ∀ b, (b < 8 * s ∨ 8 * s + 8 ≤ b) → J b = I b := by
  have hle := fun m (hm : m < nn R) => hW.bl_le hm
  obtain ⟨_, _, _, _, _, hC⟩ := add_data hW hn hw
  unfold f_X3_append
  simp (disch := omega) only [h.1.n hW, le_nI, if_neg, if_pos, inBn, cl_nI, bit_nI, Option.bind_some, up2_nea, nI_add]
  refine ⟨_, rfl, ⟨hC _ s ?_ ?_ ?_ (fun m hm => ⟨?_, ?_⟩), fun m hm => ?_, ?_⟩, fun b hb => ?_⟩
  · rw [up2_eq]
  · rw [up2_nei _ _ _ _ (by decide), up2_nea _ _ _ _ (by omega), up2_nea _ _ _ _ (by omega), up2_nea _ _ _ _ (by omega)]
    exact h.1.q hW
  · rw [up2_nei _ _ _ _ (by decide), up2_nea _ _ _ _ (by omega), up2_nea _ _ _ _ (by omega), up2_nea _ _ _ _ (by omega), h.1.v, msk_s]
    refine congrArg nI ?_
    rw [if_neg (by simp), Nat.add_zero]
    exact msk_congr (fun i hi => by rw [if_neg (by omega)])
  · rw [up2_nea _ _ _ _ (by omega), up2_nea _ _ _ _ (by omega), up2_nea _ _ _ _ (by omega)]
    by_cases e : m = nn R
    · rw [if_pos e, e, up2_eq]
    · rw [if_neg e, up2_nei _ _ _ _ e]; exact h.1.w hW (by omega)
  · rw [up2_nea _ _ _ _ (by omega), up2_nea _ _ _ _ (by omega), msk_s]
    by_cases e : m = nn R
    · rw [e, up2_eq]
      refine congrArg nI ?_
      have z : msk (nn R) (fun j => (if j = nn R then j else bl R j) == nn R) = 0 := by
        refine sm_zero (fun i hi => if_neg ?_)
        show ¬ (((if i = nn R then i else bl R i) == nn R) = true)
        have := hle i hi
        rw [if_neg (by omega)]
        simp
        omega
      simp only [if_true, beq_self_eq_true, z, Nat.zero_add]
    · rw [up2_nei _ _ _ _ e, up2_nea _ _ _ _ (by omega), h.1.b (by omega)]
      refine congrArg nI ?_
      have := hle m (by omega)
      have z : ((nn R == bl R m) = true) = False := eq_false (by simp; omega)
      simp only [if_true, if_neg e, z, if_false, Nat.add_zero]
      exact msk_congr (fun i hi => by rw [if_neg (by omega)])
  · rw [(add_data hW hn hw).2.1] at hm
    rw [up2_nea _ _ _ _ (by omega)]
    unfold addR
    rw [set1_ne (by omega)]
    by_cases e : m = nn R
    · rw [e, up2_eq, set1_eq]
    · rw [up2_nei _ _ _ _ e, up2_nea _ _ _ _ (by omega), up2_nea _ _ _ _ (by omega), set1_ne (by omega), set1_ne (by omega), set1_ne (by omega), set1_ne (by omega)]
      exact h.2.1 m (by omega)
  · refine CSb.cong (R := R) (h.2.2.mono (fun j h1 h2 => ?_)) (fun j h1 h2 => ?_)
    · rw [up2_nea _ _ _ _ (by omega), up2_nea _ _ _ _ (by omega), up2_nea _ _ _ _ (by omega), up2_nea _ _ _ _ (by omega)]
    · unfold addR
      rw [set1_ne (by omega), set1_ne (by omega), set1_ne (by omega), set1_ne (by omega), set1_ne (by omega)]
  · rw [up2_nea _ _ _ _ (by omega), up2_nea _ _ _ _ (by omega), up2_nea _ _ _ _ (by omega), up2_nea _ _ _ _ (by omega)]
end AD
