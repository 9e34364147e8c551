/-- after an act of the model -/
def AM (o : Option (Int32 × Mem)) (r : Int32) (I : Mem) (R R' : Nat → Int32) (st : Nat) (P : Nat → Nat → Int32) (kp : Bool) (A : Nat → Int32) (len : Nat) (ch : Nat → Nat) : Prop := ∃ J, o = some (r, J) ∧ MR J R' (nst st) (nP st P R) kp A len ch ∧ ∀ b, b < 71 → J b = I b
/-- J differs from I in the row alone, which is R -/
def RF (I J : Mem) (R : Nat → Int32) : Prop := RW J R ∧ ∀ b, b ≠ 72 → J b = I b
section MB
variable {k st : Nat} {I J K : Mem} {P : Nat → Nat → Int32} {R R' : Nat → Int32} {kp : Bool} {A : Nat → Int32} {len : Nat} {ch : Nat → Nat}
theorem RF.set (h : RF I J R) (i : Nat) (x : Int32) : RF I (up2 J 72 i x) (set1 R i x) := ⟨h.1.set i x, fun b hb => by rw [up2_nea _ _ _ _ hb, h.2 b hb]⟩
theorem MR.row (h : MR I R st P kp A len ch) : RW I R := h.1
theorem MR.rf (h : MR I R st P kp A len ch) : RF I I R := ⟨h.1, fun _ _ => rfl⟩
theorem MR.putF (h : MR I R st P kp A len ch) (hR : RF I J R') : MR J R' st P kp A len ch :=
  h.put hR.1 (fun b h1 h2 => hR.2 _ (by omega)) (by rw [hR.2 _ (by omega)]) (by rw [hR.2 _ (by omega)]) (by rw [hR.2 _ (by omega)])
theorem RF.cong (h : RF I J R) (e : ∀ j, j < 69 → R j = R' j) : RF I J R' := ⟨fun j hj => (h.1 j hj).trans (e j hj), h.2⟩
theorem addMember_m (hW : WF R) (h : MR I R st P kp A len ch) (hst : st ≤ 4) (hk : 2000 ≤ k) (hn : nn R < 10) {w : Nat} (hw : w ≤ 50) : AM (f_X6_addMember k (nI w) I) (nI (nn R)) I R (addR R w) st P kp A len ch := by
  obtain ⟨J, q1, q2, q3, q4⟩ := record_eq h hst hk
  have e0 := h.row.n hW
  unfold f_X6_addMember
  rw [in_yes (by decide) (by decide) (by omega) (by omega) hw, if_neg (by decide)]
  simp (disch := omega) only [cl_nI, e0, eq_nI, if_neg, q1, Option.bind_some, nI_add, inBn, if_pos]
  have w1 := (((q2.rf.set (29 + nn R) (nI w)).set (39 + nn R) (nI 0)).set (49 + nn R) (nI (nn R))).set (59 + nn R) (nI 0)
  have e1 : up2 (up2 (up2 (up2 J 72 (29 + nn R) (nI w)) 72 (39 + nn R) (nI 0)) 72 (49 + nn R) (nI (nn R))) 72 (59 + nn R) (nI 0) 72 0 = nI (nn R) := by
    rw [w1.1 0 (by decide), set1_ne (by omega), set1_ne (by omega), set1_ne (by omega), set1_ne (by omega)]
    exact hW.r0
  generalize up2 (up2 (up2 (up2 J 72 (29 + nn R) (nI w)) 72 (39 + nn R) (nI 0)) 72 (49 + nn R) (nI (nn R))) 72 (59 + nn R) (nI 0) = K at w1 e1 ⊢
  rw [e1, nI_add]
  have w2 := w1.set 0 (nI (nn R + 1))
  exact ⟨_, rfl, q2.putF w2, fun b hb => by rw [w2.2 b (by omega), q3 _ (by omega) (by omega)]⟩
theorem set_m (h : MR I R st P kp A len ch) (hst : st ≤ 4) (hk : 2000 ≤ k) {p : Nat} (hp : p < 69) {x : Int32} (hne : R p ≠ x) : AM (f_X6_set k (nI p) x I) (R p) I R (set1 R p x) st P kp A len ch := by
  obtain ⟨J, q1, q2, q3, q4⟩ := record_eq h hst hk
  unfold f_X6_set
  rw [if_pos (by rw [inBn (by omega)]; exact hp), cl_nI (by omega), h.row p hp, if_neg hne, q1, Option.bind_some, if_pos (by rw [inBn (by omega)]; exact hp)]
  have w := q2.rf.set p x
  exact ⟨_, rfl, q2.putF w, fun b hb => by rw [w.2 b (by omega), q3 _ (by omega) (by omega)]⟩
theorem set_same (h : RW I R) {p : Nat} (hp : p < 69) : f_X6_set k (nI p) (R p) I = some ((-5 : Int32), I) := by
  unfold f_X6_set
  rw [if_pos (by rw [inBn (by omega)]; exact hp), cl_nI (by omega), h p hp, if_pos rfl]
theorem AM.pair {o : Option (Int32 × Mem)} {r : Int32} (h : AM o r I R R' st P kp A len ch) : AM (Option.bind o (fun q => some (q.1, q.2))) r I R R' st P kp A len ch := by
  obtain ⟨J, q1, q2⟩ := h
  rw [q1]
  exact ⟨J, rfl, q2⟩
theorem setWeight_m (hW : WF R) (h : MR I R st P kp A len ch) (hst : st ≤ 4) (hk : 2000 ≤ k) {v w : Nat} (hv : v < nn R) (hw : w ≤ 50) (hne : wt R v ≠ w) : AM (f_X6_setWeight k (nI v) (nI w) I) (nI (wt R v)) I R (set1 R (29 + v) (nI w)) st P kp A len ch := by
  have hn := hW.n10
  have hw2 := hW.w50 hv
  have := set_m h hst hk (p := 29 + v) (by omega) (x := nI w) (by rw [hW.rw hv]; intro e; rw [eq_nI (by omega) (by omega)] at e; exact hne e)
  rw [hW.rw hv] at this
  unfold f_X6_setWeight
  rw [noMember_yes (h.row.n hW) hn hv, Option.bind_some, if_pos (by decide), in_yes (by decide) (by decide) (by omega) (by omega) hw, if_neg (by decide), nI_add]
  exact this.pair
theorem setQuota_m (hW : WF R) (h : MR I R st P kp A len ch) (hst : st ≤ 4) (hk : 2000 ≤ k) {q : Nat} (hq1 : 1 ≤ q) (hq2 : q ≤ 500) (hne : qq R ≠ q) : AM (f_X6_setQuota k (nI q) I) (nI (qq R)) I R (set1 R 1 (nI q)) st P kp A len ch := by
  have hw2 := hW.q500
  have := set_m h hst hk (p := 1) (by omega) (x := nI q) (by rw [hW.r1]; intro e; rw [eq_nI (by omega) (by omega)] at e; exact hne e)
  rw [hW.r1] at this
  unfold f_X6_setQuota
  rw [in_yes (by decide) (by decide) (by omega) hq1 hq2, if_neg (by decide)]
  exact this.pair
theorem setVeto_m (hW : WF R) (h : MR I R st P kp A len ch) (hst : st ≤ 4) (hk : 2000 ≤ k) {v : Nat} (hv : v < nn R) {p : Bool} (hne : vt R v ≠ p) : AM (f_X6_setVeto k (nI v) (nI (b1 p)) I) (nI (cnt (nn R) (fun m => if m = v then p else vt R m))) I R (set1 R (39 + v) (nI (b1 p))) st P kp A len ch := by
  have hn := hW.n10
  obtain ⟨J, q1, q2, q3, q4⟩ := record_eq h hst hk
  have w := q2.rf.set (39 + v) (nI (b1 p))
  obtain ⟨s1, s2, ⟨s3, s4⟩, _⟩ := set_v hW hv p
  have hc := withVeto_eq w.1 s1 hk
  rw [s3, cnt_congr s4] at hc
  have key : f_X6_setVeto_19 k I (nI v) (nI (b1 p)) = some (nI (cnt (nn R) (fun m => if m = v then p else vt R m)), up2 J 72 (39 + v) (nI (b1 p))) := by
    have hbb : ¬ (nI (b1 (vt R v)) = nI (b1 p)) := by
      intro e
      exact hne (by revert e; cases vt R v <;> cases p <;> decide)
    unfold f_X6_setVeto_19
    rw [nI_add, if_pos (by rw [inBn (by omega)]; omega), cl_nI (by omega), h.row.v hW hv, if_neg hbb, q1, Option.bind_some, if_pos (by rw [inBn (by omega)]; omega), hc, Option.bind_some]
  unfold f_X6_setVeto
  rw [noMember_yes (h.row.n hW) hn hv, Option.bind_some, if_pos (by decide)]
  refine ⟨up2 J 72 (39 + v) (nI (b1 p)), ?_, q2.putF w, fun b hb => by rw [w.2 b (by omega), q3 _ (by omega) (by omega)]⟩
  rw [← key]
  cases p <;> rfl
theorem leave_m (hW : WF R) (h : MR I R st P kp A len ch) (hst : st ≤ 4) (hk : 2000 ≤ k) {v : Nat} (hv : v < nn R) (hne : cnt (nn R) (fun j => bl R j == bl R v) ≠ 1) : AM (f_X6_leave k (nI v) I) (nI (cnt (nn R) (fun j => bl R j == bl R v) - 1)) I R (blR R (pb R v)) st P kp A len ch := by
  have hn := hW.n10
  have hbv := hW.bl_le hv
  have hpos := left_eq hW hv
  have hc := cnt_le (n := nn R) (p := fun j => bl R j == bl R v)
  obtain ⟨J, q1, q2, q3, q4⟩ := record_eq h hst hk
  obtain ⟨K, p1, p2, p3⟩ := part_eq q2.row hW hk hv
  unfold f_X6_leave
  rw [noMember_yes (h.row.n hW) hn hv, Option.bind_some, if_pos (by decide), nI_add, if_pos (by rw [inBn (by omega)]; omega), cl_nI (by omega), h.row.b hW hv, size_eq h.row hW hk (by omega), Option.bind_some, sub_nI (by omega), if_neg (by rw [eq0_nI (by omega)]; omega), q1, Option.bind_some, p1, Option.bind_some]
  exact ⟨K, rfl, q2.putF ⟨p2, p3⟩, fun b hb => by rw [p3 b (by omega), q3 _ (by omega) (by omega)]⟩
theorem join_m (hW : WF R) (h : MR I R st P kp A len ch) (hst : st ≤ 4) (hk : 2000 ≤ k) {v w : Nat} (hv : v < nn R) (hw : w < nn R) (hne : bl R v ≠ bl R w) : AM (f_X6_join k (nI v) (nI w) I) (nI (cnt (nn R) (fun m => jb R v w m == min (bl R v) (bl R w)))) I R (joR R v w) st P kp A len ch := by
  have hn := hW.n10
  have hbv := hW.bl_le hv
  have hbw := hW.bl_le hw
  obtain ⟨J0, q1, q2, q3, q4⟩ := record_eq h hst hk
  obtain ⟨s1, s2, s3, s4, s5, _⟩ := blR_data hW (jb_ok hW hv hw)
  have key : ∃ J, f_X6_join_69 k (nI (bl R v)) (nI (bl R w)) (nI (min (bl R v) (bl R w))) k (nI 0) J0 = some (nI (cnt (nn R) (fun m => jb R v w m == min (bl R v) (bl R w))), J) ∧ RF J0 J (joR R v w) := by
    refine loopE (fun g m (J : Mem) => f_X6_join_69 k (nI (bl R v)) (nI (bl R w)) (nI (min (bl R v) (bl R w))) g (nI m) J) (nn R) (fun m J => (∀ j, j < 69 → J 72 j = if 49 ≤ j ∧ j < 49 + m then nI (jb R v w (j - 49)) else R j) ∧ ∀ b, b ≠ 72 → J b = J0 b) (fun o => ∃ J, o = some (nI (cnt (nn R) (fun m => jb R v w m == min (bl R v) (bl R w))), J) ∧ RF J0 J (joR R v w)) (fun g J hJ => ?_) (fun g m J hm hJ => ?_) (nn R) 0 k J0 (by omega) (by omega) ⟨fun j hj => by rw [if_neg (by omega)]; exact q2.row j hj, fun _ _ => rfl⟩
    · obtain ⟨j1, j2⟩ := hJ
      have hR : RW J (joR R v w) := fun j hj => j1 j hj
      have e0 := hR.n s1
      have hs := size_eq hR s1 hk (b := min (bl R v) (bl R w)) (by omega)
      have e1 : nn (joR R v w) = nn R := s2
      rw [e1, cnt_congr (q := fun m => jb R v w m == min (bl R v) (bl R w)) (fun i hi => by show (bl (joR R v w) i == _) = _; rw [show bl (joR R v w) i = jb R v w i from (s5 i hi).2.2])] at hs
      rw [e1] at e0
      simp (disch := omega) only [f_X6_join_69, cl_nI, e0, le_nI, if_pos, hs, Option.bind_some]
      exact ⟨J, rfl, hR, j2⟩
    · obtain ⟨j1, j2⟩ := hJ
      have e0 : J 72 0 = nI (nn R) := by rw [j1 _ (by omega), if_neg (by omega)]; exact hW.r0
      have eb : J 72 (49 + m) = nI (bl R m) := by rw [j1 _ (by omega), if_neg (by omega)]; exact hW.rb hm
      have hbm := hW.bl_le hm
      refine ⟨up2 J 72 (49 + m) (nI (jb R v w m)), ?_, fun j hj => ?_, fun b hb => ?_⟩
      · simp (disch := omega) only [f_X6_join_69, cl_nI, e0, le_nI, if_neg, nI_add, inBn, if_pos, eq_nI, eb, f_X6_join_118, Option.bind_some]
        unfold jb
        by_cases x : bl R m = bl R v
        · rw [if_pos x, if_pos (Or.inl x)]
        · by_cases y : bl R m = bl R w
          · rw [if_neg x, if_pos y, if_pos (Or.inr y)]
          · rw [if_neg x, if_neg y, if_neg (by omega)]
      · by_cases e : j = 49 + m
        · rw [e, up2_eq, if_pos (by omega), Nat.add_sub_cancel_left]
        · rw [up2_nei _ _ _ _ e, j1 j hj]
          by_cases z : 49 ≤ j ∧ j < 49 + m
          · rw [if_pos z, if_pos (by omega)]
          · rw [if_neg z, if_neg (by omega)]
      · rw [up2_nea _ _ _ _ hb, j2 b hb]
  obtain ⟨J, k1, k2⟩ := key
  unfold f_X6_join
  rw [noMember_yes (h.row.n hW) hn hv, Option.bind_some, if_pos (by decide), noMember_yes (h.row.n hW) hn hw, Option.bind_some, if_pos (by decide), nI_add, nI_add, if_pos (by rw [inBn (by omega)]; omega), if_pos (by rw [inBn (by omega)]; omega), cl_nI (by omega), cl_nI (by omega), h.row.b hW hv, h.row.b hW hw, if_neg (by rw [eq_nI (by omega) (by omega)]; exact hne), q1, Option.bind_some]
  refine ⟨J, ?_, q2.putF k2, fun b hb => by rw [k2.2 b (by omega), q3 _ (by omega) (by omega)]⟩
  rw [← k1]
  simp (disch := omega) only [le_nI]
  by_cases z : bl R w ≤ bl R v
  · rw [if_pos z, Nat.min_eq_right z]
  · rw [if_neg z, Nat.min_eq_left (by omega)]
end MB
