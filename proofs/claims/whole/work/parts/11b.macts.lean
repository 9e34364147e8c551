/-! the model's acts -/
def RW (I : Mem) (R : Nat → Int32) : Prop := ∀ j, j < 69 → I 72 j = R j
theorem RW.set {I : Mem} {R : Nat → Int32} (h : RW I R) (i : Nat) (x : Int32) : RW (up2 I 72 i x) (set1 R i x) := fun j hj => by
  unfold set1
  by_cases e : j = i
  · rw [e, up2_eq, if_pos rfl]
  · rw [up2_nei _ _ _ _ e, if_neg e]
    exact h j hj
theorem RW.mono {I J : Mem} {R : Nat → Int32} (h : RW I R) (e : J 72 = I 72) : RW J R := fun j hj => by rw [e]; exact h j hj
section RWS
variable {k : Nat} {I J : Mem} {R R' : Nat → Int32}
theorem RW.n (h : RW I R) (hW : WF R) : I 72 0 = nI (nn R) := (h 0 (by decide)).trans hW.r0
theorem RW.q (h : RW I R) (hW : WF R) : I 72 1 = nI (qq R) := (h 1 (by decide)).trans hW.r1
theorem RW.w (h : RW I R) (hW : WF R) {m : Nat} (hm : m < nn R) : I 72 (29 + m) = nI (wt R m) := (h _ (by have := hW.n10; omega)).trans (hW.rw hm)
theorem RW.v (h : RW I R) (hW : WF R) {m : Nat} (hm : m < nn R) : I 72 (39 + m) = nI (b1 (vt R m)) := (h _ (by have := hW.n10; omega)).trans (hW.rv hm)
theorem RW.b (h : RW I R) (hW : WF R) {m : Nat} (hm : m < nn R) : I 72 (49 + m) = nI (bl R m) := (h _ (by have := hW.n10; omega)).trans (hW.rb hm)
theorem withVeto_eq (h : RW I R) (hW : WF R) (hk : 2000 ≤ k) : f_X6_withVeto k I = some (nI (cnt (nn R) (vt R))) := by
  have hn := hW.n10
  refine loop0 (fun g m => f_X6_withVeto_4 k I g (nI (cnt m (vt R))) (nI m)) (nn R) _ (by omega) (fun g => ?_) (fun g m hm => ?_)
  · simp (disch := omega) only [f_X6_withVeto_4, cl_nI, h.n hW, le_nI, if_pos]
  · simp (disch := omega) only [f_X6_withVeto_4, cl_nI, h.n hW, le_nI, if_neg, nI_add, inBn, if_pos, h.v hW hm, cnt_s]
theorem size_eq (h : RW I R) (hW : WF R) (hk : 2000 ≤ k) {b : Nat} (hb : b < 100) : f_X6_size k (nI b) I = some (nI (cnt (nn R) (fun m => bl R m == b))) := by
  have hn := hW.n10
  refine loop0 (fun g m => f_X6_size_4 k I (nI b) g (nI (cnt m (fun m => bl R m == b))) (nI m)) (nn R) _ (by omega) (fun g => ?_) (fun g m hm => ?_)
  · simp (disch := omega) only [f_X6_size_4, cl_nI, h.n hW, le_nI, if_pos]
  · have := hW.bl_le hm
    simp (disch := omega) only [f_X6_size_4, cl_nI, h.n hW, le_nI, if_neg, nI_add, inBn, if_pos, h.b hW hm, cnt_s, eq_nI]
    by_cases e : bl R m = b <;> simp [e, b1]
theorem nxt_q {v : Nat} (h : nxt R v < nn R) : nxt R v ≠ v ∧ bl R (nxt R v) = bl R v := by
  have := ff_no (fun m => !(!(m == v) && bl R m == bl R v)) (nn R) h
  change (!(!(nxt R v == v) && bl R (nxt R v) == bl R v)) = false at this
  simpa using this
theorem m5_le (a : Prop) [Decidable a] {m : Nat} (hm : m < 2 ^ 31) : ((0 : Int32) ≤ if a then nI m else (-5 : Int32)) = a := by
  by_cases h : a
  · rw [if_pos h, ge0_nI hm]
    exact (eq_true h).symm
  · rw [if_neg h]
    exact (eq_false (by decide)).trans (eq_false h).symm
theorem part_eq (h : RW I R) (hW : WF R) (hk : 2000 ≤ k) {v : Nat} (hv : v < nn R) : ∃ J, f_X6_part k (nI v) I = some J ∧ RW J (blR R (pb R v)) ∧ ∀ b, b ≠ 72 → J b = I b := by
  have hn := hW.n10
  have hbv := hW.bl_le hv
  have hnx : nxt R v ≤ nn R := ff_le _ _
  unfold f_X6_part
  rw [nI_add, if_pos (by rw [inBn (by omega)]; omega), cl_nI (by omega), h.b hW hv]
  refine loopE (fun g m (J : Mem) => f_X6_part_16 k (nI v) (nI (bl R v)) g (if nxt R v < m then nI (nxt R v) else (-5 : Int32)) (nI m) J) (nn R) (fun m J => (∀ j, j < 69 → J 72 j = if 49 ≤ j ∧ j < 49 + m ∧ j ≠ 49 + v then nI (pb R v (j - 49)) else R j) ∧ ∀ b, b ≠ 72 → J b = I b) (fun o => ∃ J, o = some J ∧ RW J (blR R (pb R v)) ∧ ∀ b, b ≠ 72 → J b = I b) (fun g J hJ => ?_) (fun g m J hm hJ => ?_) (nn R) 0 k I (by omega) (by omega) ⟨fun j hj => by rw [if_neg (by omega)]; exact h j hj, fun _ _ => rfl⟩
  · obtain ⟨j1, j2⟩ := hJ
    have e0 : J 72 0 = nI (nn R) := by rw [j1 _ (by omega), if_neg (by omega)]; exact hW.r0
    simp (disch := omega) only [f_X6_part_16, cl_nI, e0, le_nI, if_pos, nI_add, inBn]
    refine ⟨_, rfl, fun j hj => ?_, fun b hb => ?_⟩
    · unfold blR
      by_cases e : j = 49 + v
      · rw [e, up2_eq, if_pos (by omega), Nat.add_sub_cancel_left]
        unfold pb
        rw [if_pos rfl]
      · rw [up2_nei _ _ _ _ e, j1 j hj]
        by_cases z : 49 ≤ j ∧ j < 49 + nn R
        · rw [if_pos (by omega), if_pos z]
        · rw [if_neg (by omega), if_neg z]
    · rw [up2_nea _ _ _ _ hb, j2 b hb]
  · obtain ⟨j1, j2⟩ := hJ
    have e0 : J 72 0 = nI (nn R) := by rw [j1 _ (by omega), if_neg (by omega)]; exact hW.r0
    have eb : J 72 (49 + m) = nI (bl R m) := by rw [j1 _ (by omega), if_neg (by omega)]; exact hW.rb hm
    have hbm := hW.bl_le hm
    simp (disch := omega) only [f_X6_part_16, cl_nI, e0, le_nI, if_neg, nI_add, inBn, if_pos, eq_nI, eb, f_X6_part_57, m5_le]
    by_cases em : m = v
    · refine ⟨J, ?_, fun j hj => ?_, j2⟩
      · rw [if_pos em]
        have : (nxt R v < m + 1) = (nxt R v < m) := by
          apply propext
          constructor
          · intro z
            have := (nxt_q (R := R) (v := v) (by omega)).1
            omega
          · omega
        simp only [this]
      · rw [j1 j hj]
        by_cases z : 49 ≤ j ∧ j < 49 + m ∧ j ≠ 49 + v
        · rw [if_pos z, if_pos (by omega)]
        · rw [if_neg z, if_neg (by omega)]
    · by_cases e2 : bl R m = bl R v
      · obtain ⟨n1, n2, n3⟩ := nxt_le hm em e2
        have hpb : pb R v m = nxt R v := by unfold pb; rw [if_neg em, if_pos e2]
        refine ⟨up2 J 72 (49 + m) (nI (nxt R v)), ?_, fun j hj => ?_, fun b hb => ?_⟩
        · rw [if_neg em, if_pos e2, if_pos (show nxt R v < m + 1 by omega)]
          by_cases z : nxt R v < m
          · simp only [if_pos z]
          · simp only [if_neg z]
            rw [show nxt R v = m by omega]
        · by_cases e : j = 49 + m
          · rw [e, up2_eq, if_pos (by omega), Nat.add_sub_cancel_left, hpb]
          · rw [up2_nei _ _ _ _ e, j1 j hj]
            by_cases z : 49 ≤ j ∧ j < 49 + m ∧ j ≠ 49 + v
            · rw [if_pos z, if_pos (by omega)]
            · rw [if_neg z, if_neg (by omega)]
        · rw [up2_nea _ _ _ _ hb, j2 b hb]
      · refine ⟨J, ?_, fun j hj => ?_, j2⟩
        · rw [if_neg em, if_neg e2]
          have : (nxt R v < m + 1) = (nxt R v < m) := by
            apply propext
            constructor
            · intro z
              have := (nxt_q (R := R) (v := v) (by omega)).2
              rcases Nat.lt_or_ge (nxt R v) m with y | y
              · exact y
              · rw [show nxt R v = m by omega] at this
                exact absurd this e2
            · omega
          simp only [this]
        · rw [j1 j hj]
          by_cases z : 49 ≤ j ∧ j < 49 + m ∧ j ≠ 49 + v
          · rw [if_pos z, if_pos (by omega)]
          · by_cases e : j = 49 + m
            · rw [if_neg z, e, if_pos (by omega), Nat.add_sub_cancel_left]
              unfold pb
              rw [if_neg em, if_neg e2]
              exact hW.rb hm
            · rw [if_neg z, if_neg (by omega)]
end RWS
