/-! letting a member go, texts, undo, the snapshot in the model -/
section MD
variable {k st : Nat} {I J K : Mem} {P : Nat → Nat → Int32} {R R' : Nat → Int32} {kp : Bool} {A : Nat → Int32} {len : Nat} {ch : Nat → Nat}
theorem removeMember_m (hW : WF R) (h : MR I R st P kp A len ch) (hst : st ≤ 4) (hk : 2000 ≤ k) {v : Nat} (hv : v < nn R) : AM (f_X6_removeMember k (nI v) I) (nI (nn R - 1)) I R (drR R v) st P kp A len ch := by
  have hn := hW.n10
  obtain ⟨J0, q1, q2, q3, q4⟩ := record_eq h hst hk
  obtain ⟨J1, p1, p2, p3⟩ := part_eq q2.row hW hk hv
  have e0 : J1 72 0 = nI (nn R) := by rw [p2 0 (by decide), blR_ne (by omega)]; exact hW.r0
  unfold f_X6_removeMember
  rw [noMember_yes (h.row.n hW) hn hv, Option.bind_some, if_pos (by decide), q1, Option.bind_some, p1, Option.bind_some, cl_nI (by decide), e0, sub_nI (by omega)]
  have w1 := (show RF J0 J1 (blR R (pb R v)) from ⟨p2, p3⟩).set 0 (nI (nn R - 1))
  generalize up2 J1 72 0 (nI (nn R - 1)) = J2 at w1 ⊢
  have x0 : set1 (blR R (pb R v)) 0 (nI (nn R - 1)) 0 = nI (nn R - 1) := set1_eq
  have xk : ∀ j, 0 < j → set1 (blR R (pb R v)) 0 (nI (nn R - 1)) j = blR R (pb R v) j := fun j hj => set1_ne (by omega)
  generalize set1 (blR R (pb R v)) 0 (nI (nn R - 1)) = X at w1 x0 xk
  suffices hs : ∃ J, f_X6_removeMember_31 k (nI v) k (nI v) J2 = some (nI (nn R - 1), J) ∧ RF J0 J (drR R v) by
    obtain ⟨J, r1, r2⟩ := hs
    exact ⟨J, r1, q2.putF r2, fun b hb => by rw [r2.2 b (by omega), q3 _ (by omega) (by omega)]⟩
  refine loopE (fun g m (J : Mem) => f_X6_removeMember_31 k (nI v) g (nI m) J) (nn R - 1) (fun m J => v ≤ m ∧ (∀ j, j < 69 → J 72 j = if (29 + v ≤ j ∧ j < 29 + m) ∨ (39 + v ≤ j ∧ j < 39 + m) ∨ (49 + v ≤ j ∧ j < 49 + m) ∨ (59 + v ≤ j ∧ j < 59 + m) then X (j + 1) else X j) ∧ ∀ b, b ≠ 72 → J b = J0 b) (fun o => ∃ J, o = some (nI (nn R - 1), J) ∧ RF J0 J (drR R v)) (fun g J hJ => ?_) (fun g m J hm hJ => ?_) (nn R - 1 - v) v k J2 (by omega) (by omega) ⟨Nat.le_refl _, fun j hj => by rw [if_neg (by omega)]; exact w1.1 j hj, w1.2⟩
  · obtain ⟨hvm, j1, j2⟩ := hJ
    have e1 : J 72 0 = nI (nn R - 1) := by rw [j1 _ (by omega), if_neg (by omega)]; exact x0
    simp (disch := omega) only [f_X6_removeMember_31, cl_nI, e1, le_nI, if_pos]
    have eb : ∀ m, m < nn R - 1 → J 72 (49 + m) = nI (pb R v (upm v m)) := by
      intro m hm
      rw [j1 _ (by omega)]
      unfold upm
      by_cases z : m < v
      · rw [if_pos z, if_neg (by omega), xk _ (by omega), blR_at (by omega)]
      · rw [if_neg z, if_pos (by omega), xk _ (by omega), show 49 + m + 1 = 49 + (m + 1) by omega, blR_at (by omega)]
    refine loopE (fun g m (K : Mem) => f_X6_removeMember_129 k (nI v) g (nI m) K) (nn R - 1) (fun m K => (∀ j, j < 69 → K 72 j = if 49 ≤ j ∧ j < 49 + m then nI (dnm v (pb R v (upm v (j - 49)))) else J 72 j) ∧ ∀ b, b ≠ 72 → K b = J0 b) (fun o => ∃ J, o = some (nI (nn R - 1), J) ∧ RF J0 J (drR R v)) (fun g K hK => ?_) (fun g m K hm hK => ?_) (nn R - 1) 0 k J (by omega) (by omega) ⟨fun j hj => by rw [if_neg (by omega)], j2⟩
    · obtain ⟨k1, k2⟩ := hK
      have e2 : K 72 0 = nI (nn R - 1) := by rw [k1 _ (by omega), if_neg (by omega)]; exact e1
      simp (disch := omega) only [f_X6_removeMember_129, cl_nI, e2, le_nI, if_pos]
      refine ⟨K, rfl, fun j hj => ?_, k2⟩
      rw [k1 j hj]
      unfold drR
      by_cases z0 : j = 0
      · rw [z0, if_neg (by omega), if_pos rfl]; exact e1
      · rw [if_neg z0]
        by_cases z1 : 49 ≤ j ∧ j < 49 + (nn R - 1)
        · rw [if_pos z1, if_pos (by omega), if_neg (by omega)]
        · rw [if_neg z1, j1 j hj]
          by_cases z2 : 49 ≤ j ∧ j < 49 + nn R
          · have e : j = 49 + (nn R - 1) := by omega
            rw [if_neg (by omega), if_pos z2, if_pos e, xk _ (by omega), e, blR_at (by omega), Nat.add_sub_cancel_left]
          · rw [if_neg z2]
            by_cases z3 : (29 + v ≤ j ∧ j < 29 + (nn R - 1)) ∨ (39 + v ≤ j ∧ j < 39 + (nn R - 1)) ∨ (59 + v ≤ j ∧ j < 59 + (nn R - 1))
            · rw [if_pos (by omega), if_pos z3, xk _ (by omega), blR_ne (by omega)]
            · rw [if_neg (by omega), if_neg z3, xk _ (by omega), blR_ne z2]
    · obtain ⟨k1, k2⟩ := hK
      have e2 : K 72 0 = nI (nn R - 1) := by rw [k1 _ (by omega), if_neg (by omega)]; exact e1
      have e3 : K 72 (49 + m) = nI (pb R v (upm v m)) := by rw [k1 _ (by omega), if_neg (by omega)]; exact eb m hm
      obtain ⟨u1, u2⟩ := up_lt hv hm
      have hpb := (pb_ok hW hv _ u1).1
      simp (disch := omega) only [f_X6_removeMember_129, cl_nI, e2, le_nI, if_neg, nI_add, inBn, if_pos, e3, Option.bind_some]
      refine ⟨up2 K 72 (49 + m) (nI (dnm v (pb R v (upm v m)))), ?_, fun j hj => ?_, fun b hb => ?_⟩
      · unfold dnm
        by_cases z : v < pb R v (upm v m)
        · rw [if_neg (by omega), if_pos z, sub_nI (by omega)]
        · rw [if_pos (by omega), if_neg z, sub_nI (by omega)]
          rfl
      · by_cases e : j = 49 + m
        · rw [e, up2_eq, if_pos (by omega), Nat.add_sub_cancel_left]
        · rw [up2_nei _ _ _ _ e, k1 j hj]
          by_cases z : 49 ≤ j ∧ j < 49 + m
          · rw [if_pos z, if_pos (by omega)]
          · rw [if_neg z, if_neg (by omega)]
      · rw [up2_nea _ _ _ _ hb, k2 b hb]
  · obtain ⟨hvm, j1, j2⟩ := hJ
    have e1 : J 72 0 = nI (nn R - 1) := by rw [j1 _ (by omega), if_neg (by omega)]; exact x0
    simp (disch := omega) only [f_X6_removeMember_31, cl_nI, e1, le_nI, if_neg, nI_add, inBn, if_pos, Option.bind_some, up2_nei]
    refine ⟨_, rfl, by omega, fun j hj => ?_, fun b hb => by rw [up2_nea _ _ _ _ hb, up2_nea _ _ _ _ hb, up2_nea _ _ _ _ hb, up2_nea _ _ _ _ hb, j2 b hb]⟩
    by_cases c4 : j = 59 + m
    · rw [c4, up2_eq, j1 _ (by omega), if_neg (by omega), if_pos (by omega)]
    · rw [up2_nei _ _ _ _ c4]
      by_cases c3 : j = 49 + m
      · rw [c3, up2_eq, j1 _ (by omega), if_neg (by omega), if_pos (by omega)]
      · rw [up2_nei _ _ _ _ c3]
        by_cases c2 : j = 39 + m
        · rw [c2, up2_eq, j1 _ (by omega), if_neg (by omega), if_pos (by omega)]
        · rw [up2_nei _ _ _ _ c2]
          by_cases c1 : j = 29 + m
          · rw [c1, up2_eq, j1 _ (by omega), if_neg (by omega), if_pos (by omega)]
          · rw [up2_nei _ _ _ _ c1, j1 j hj]
            by_cases z : (29 + v ≤ j ∧ j < 29 + m) ∨ (39 + v ≤ j ∧ j < 39 + m) ∨ (49 + v ≤ j ∧ j < 49 + m) ∨ (59 + v ≤ j ∧ j < 59 + m)
            · rw [if_pos z, if_pos (by omega)]
            · rw [if_neg z, if_neg (by omega)]
theorem type_m (h : MR I R st P kp A len ch) (hl : len < 60) {c : Nat} (hc : c < 65536) : ∃ J, f_X6_type k (nI c) I = some (nI (len + 1), J) ∧ MR J R st P kp A (len + 1) (fun j => if j = len then c else ch j) ∧ ∀ b, b < 71 → J b = I b := by
  have e1 := h.2.2.2.1
  unfold f_X6_type
  simp (disch := omega) only [e1, eq_nI, if_neg, inBn, if_pos, cl_nI, nar_cN, Option.bind_some, up2_nea, nI_add, up2_eq]
  refine ⟨_, rfl, ⟨fun j hj => ?_, ⟨?_, fun p hp j hj => ?_⟩, ⟨?_, fun e j hj => ?_⟩, up2_eq _ _ _ _, fun j hj => ?_⟩, fun b hb => ?_⟩
  · rw [up2_nea _ _ _ _ (by omega), up2_nea _ _ _ _ (by omega)]; exact h.1 j hj
  · rw [up2_nei _ _ _ _ (by omega), up2_nea _ _ _ _ (by omega)]; exact h.2.1.1
  · rw [up2_nea _ _ _ _ (by omega), up2_nea _ _ _ _ (by omega)]; exact h.2.1.2 p hp j hj
  · rw [up2_nei _ _ _ _ (by omega), up2_nea _ _ _ _ (by omega)]; exact h.2.2.1.1
  · rw [up2_nea _ _ _ _ (by omega), up2_nea _ _ _ _ (by omega)]; exact h.2.2.1.2 e j hj
  · rw [up2_nea _ _ _ _ (by omega)]
    by_cases e : j = len
    · simp only [if_pos e]
      rw [e, up2_eq]
    · simp only [if_neg e]
      rw [up2_nei _ _ _ _ e]
      exact h.2.2.2.2 j (by omega)
  · rw [up2_nea _ _ _ _ (by omega), up2_nea _ _ _ _ (by omega)]
theorem clear_m (h : MR I R st P kp A len ch) : ∃ J, f_X6_clearText k I = some (nI len, J) ∧ MR J R st P kp A 0 ch ∧ ∀ b, b < 71 → J b = I b := by
  unfold f_X6_clearText
  rw [h.2.2.2.1]
  refine ⟨_, rfl, ⟨fun j hj => ?_, ⟨?_, fun p hp j hj => ?_⟩, ⟨?_, fun e j hj => ?_⟩, up2_eq _ _ _ _, fun j hj => by omega⟩, fun b hb => up2_nea _ _ _ _ (by omega)⟩
  · rw [up2_nea _ _ _ _ (by omega)]; exact h.1 j hj
  · rw [up2_nei _ _ _ _ (by omega)]; exact h.2.1.1
  · rw [up2_nea _ _ _ _ (by omega)]; exact h.2.1.2 p hp j hj
  · rw [up2_nei _ _ _ _ (by omega)]; exact h.2.2.1.1
  · rw [up2_nea _ _ _ _ (by omega)]; exact h.2.2.1.2 e j hj
theorem undo_m (h : MR I R (st + 1) P kp A len ch) (hst : st + 1 ≤ 4) (hk : 2000 ≤ k) : ∃ J, f_X6_undo k I = some (nI st, J) ∧ MR J (P st) st P kp A len ch ∧ ∀ b, b < 71 → J b = I b := by
  unfold f_X6_undo
  rw [h.2.1.1, if_neg (by rw [eq0_nI (by omega)]; omega), sub_nI (by omega), Nat.add_sub_cancel]
  refine loopE (fun g m (J : Mem) => f_X6_undo_22 k g (nI m) J) 69 (fun m J => (∀ j, j < m → J 72 j = P st j) ∧ (∀ b, b ≠ 71 → b ≠ 72 → J b = I b) ∧ J 71 3 = nI st ∧ ∀ i, i ≠ 3 → J 71 i = I 71 i) (fun o => ∃ J, o = some (nI st, J) ∧ MR J (P st) st P kp A len ch ∧ ∀ b, b < 71 → J b = I b) (fun g J hJ => ?_) (fun g m J hm hJ => ?_) 69 0 k _ (by omega) (by omega) ⟨fun j hj => by omega, fun b h1 h2 => up2_nea _ _ _ _ h1, up2_eq _ _ _ _, fun i hi => up2_nei _ _ _ _ hi⟩
  · obtain ⟨j1, j2, j3, j4⟩ := hJ
    simp (disch := omega) only [f_X6_undo_22, le_nI, if_pos, j3]
    refine ⟨J, rfl, ⟨j1, ⟨j3, fun p hp j hj => ?_⟩, ⟨?_, fun e j hj => ?_⟩, ?_, fun j hj => ?_⟩, fun b hb => j2 b (by omega) (by omega)⟩
    · rw [j2 _ (by omega) (by omega)]; exact h.2.1.2 p (by omega) j hj
    · rw [j4 _ (by decide)]; exact h.2.2.1.1
    · rw [j2 _ (by omega) (by omega)]; exact h.2.2.1.2 e j hj
    · rw [j4 _ (by decide)]; exact h.2.2.2.1
    · rw [j2 _ (by omega) (by omega)]; exact h.2.2.2.2 j hj
  · obtain ⟨j1, j2, j3, j4⟩ := hJ
    simp (disch := omega) only [f_X6_undo_22, le_nI, if_neg, j3, mul_nI, nI_add, inBn, if_pos, cl_nI, Option.bind_some]
    refine ⟨_, rfl, fun j hj => ?_, fun b h1 h2 => ?_, ?_, fun i hi => ?_⟩
    · by_cases e : j = m
      · rw [e, up2_eq, j2 _ (by omega) (by omega)]; exact h.2.1.2 st (by omega) m hm
      · rw [up2_nei _ _ _ _ e]; exact j1 j (by omega)
    · rw [up2_nea _ _ _ _ h2, j2 b h1 h2]
    · rw [up2_nea _ _ _ _ (by omega)]; exact j3
    · rw [up2_nea _ _ _ _ (by omega)]; exact j4 i hi
theorem keep_m (hW : WF R) (h : MR I R st P kp A len ch) (hk : 2000 ≤ k) : ∃ J, f_X6_keep k I = some (nI (nn R), J) ∧ MR J R st P true R len ch ∧ ∀ b, b < 71 → J b = I b := by
  unfold f_X6_keep
  refine loopE (fun g m (J : Mem) => f_X6_keep_2 k g (nI m) J) 69 (fun m J => (∀ j, j < m → J 74 j = R j) ∧ ∀ b, b ≠ 74 → J b = I b) (fun o => ∃ J, o = some (nI (nn R), J) ∧ MR J R st P true R len ch ∧ ∀ b, b < 71 → J b = I b) (fun g J hJ => ?_) (fun g m J hm hJ => ?_) 69 0 k I (by omega) (by omega) ⟨fun j hj => by omega, fun _ _ => rfl⟩
  · obtain ⟨j1, j2⟩ := hJ
    have e0 : up2 J 71 4 (nI 1) 72 0 = nI (nn R) := by rw [up2_nea _ _ _ _ (by omega), j2 _ (by omega)]; exact h.row.n hW
    simp (disch := omega) only [f_X6_keep_2, le_nI, if_pos, cl_nI, e0]
    refine ⟨_, rfl, ⟨fun j hj => ?_, ⟨?_, fun p hp j hj => ?_⟩, ⟨up2_eq _ _ _ _, fun e j hj => ?_⟩, ?_, fun j hj => ?_⟩, fun b hb => ?_⟩
    · rw [up2_nea _ _ _ _ (by omega), j2 _ (by omega)]; exact h.1 j hj
    · rw [up2_nei _ _ _ _ (by omega), j2 _ (by omega)]; exact h.2.1.1
    · rw [up2_nea _ _ _ _ (by omega), j2 _ (by omega)]; exact h.2.1.2 p hp j hj
    · rw [up2_nea _ _ _ _ (by omega)]; exact j1 j hj
    · rw [up2_nei _ _ _ _ (by omega), j2 _ (by omega)]; exact h.2.2.2.1
    · rw [up2_nea _ _ _ _ (by omega), j2 _ (by omega)]; exact h.2.2.2.2 j hj
    · rw [up2_nea _ _ _ _ (by omega), j2 _ (by omega)]
  · obtain ⟨j1, j2⟩ := hJ
    simp (disch := omega) only [f_X6_keep_2, le_nI, if_neg, inBn, if_pos, cl_nI, nI_add]
    refine ⟨_, rfl, fun j hj => ?_, fun b hb => by rw [up2_nea _ _ _ _ hb, j2 b hb]⟩
    by_cases e : j = m
    · rw [e, up2_eq, j2 _ (by omega)]; exact h.1 m hm
    · rw [up2_nei _ _ _ _ e]; exact j1 j (by omega)
theorem restore_m (hA : WF A) (h : MR I R st P true A len ch) (hst : st ≤ 4) (hk : 2000 ≤ k) : AM (f_X6_restore k I) (nI (nn A)) I R A st P true A len ch := by
  obtain ⟨J0, q1, q2, q3, q4⟩ := record_eq h hst hk
  unfold f_X6_restore
  rw [h.2.2.1.1, if_neg b1_pos, q1, Option.bind_some]
  suffices hs : ∃ J, f_X6_restore_16 k k (nI 0) J0 = some (nI (nn A), J) ∧ RF J0 J A by
    obtain ⟨J, r1, r2⟩ := hs
    exact ⟨J, r1, q2.putF r2, fun b hb => by rw [r2.2 b (by omega), q3 _ (by omega) (by omega)]⟩
  refine loopE (fun g m (J : Mem) => f_X6_restore_16 k g (nI m) J) 69 (fun m J => (∀ j, j < m → J 72 j = A j) ∧ ∀ b, b ≠ 72 → J b = J0 b) (fun o => ∃ J, o = some (nI (nn A), J) ∧ RF J0 J A) (fun g J hJ => ?_) (fun g m J hm hJ => ?_) 69 0 k J0 (by omega) (by omega) ⟨fun j hj => by omega, fun _ _ => rfl⟩
  · obtain ⟨j1, j2⟩ := hJ
    have e0 : J 72 0 = nI (nn A) := by rw [j1 _ (by omega)]; exact hA.r0
    simp (disch := omega) only [f_X6_restore_16, le_nI, if_pos, cl_nI, e0]
    exact ⟨J, rfl, j1, j2⟩
  · obtain ⟨j1, j2⟩ := hJ
    simp (disch := omega) only [f_X6_restore_16, le_nI, if_neg, inBn, if_pos, cl_nI, nI_add]
    refine ⟨_, rfl, fun j hj => ?_, fun b hb => by rw [up2_nea _ _ _ _ hb, j2 b hb]⟩
    by_cases e : j = m
    · rw [e, up2_eq, j2 _ (by omega)]; exact q2.2.2.1.2 rfl m hm
    · rw [up2_nei _ _ _ _ e]; exact j1 j (by omega)
end MD
