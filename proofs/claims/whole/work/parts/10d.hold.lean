/-! holding a ballot -/
/-- the same council -/
def CE (R R' : Nat → Int32) : Prop := R' 0 = R 0 ∧ R' 1 = R 1 ∧ ∀ j, 29 ≤ j → j < 59 → R' j = R j
section CEs
variable {R R' : Nat → Int32}
theorem CE.nn (h : CE R R') : nn R' = nn R := by unfold _root_.Jvm.Pilot.@@N@@.nn; rw [h.1]
theorem CE.qq (h : CE R R') : qq R' = qq R := by unfold _root_.Jvm.Pilot.@@N@@.qq; rw [h.2.1]
theorem CE.wt (h : CE R R') {m : Nat} (hm : m < 10) : wt R' m = wt R m := by unfold _root_.Jvm.Pilot.@@N@@.wt; rw [h.2.2 _ (by omega) (by omega)]
theorem CE.vt (h : CE R R') {m : Nat} (hm : m < 10) : vt R' m = vt R m := by unfold _root_.Jvm.Pilot.@@N@@.vt; rw [h.2.2 _ (by omega) (by omega)]
theorem CE.bl (h : CE R R') {m : Nat} (hm : m < 10) : bl R' m = bl R m := by unfold _root_.Jvm.Pilot.@@N@@.bl; rw [h.2.2 _ (by omega) (by omega)]
theorem CE.vmk (h : CE R R') (hn : _root_.Jvm.Pilot.@@N@@.nn R ≤ 10) : vmk R' = vmk R := by
  unfold _root_.Jvm.Pilot.@@N@@.vmk
  rw [h.nn]
  exact msk_congr (fun i hi => h.vt (by omega))
theorem CE.bmk (h : CE R R') (hn : _root_.Jvm.Pilot.@@N@@.nn R ≤ 10) {m : Nat} (hm : m < 10) : bmk R' m = bmk R m := by
  unfold _root_.Jvm.Pilot.@@N@@.bmk
  rw [h.nn, h.bl hm]
  exact msk_congr (fun i hi => by rw [h.bl (by omega)])
theorem CE.wof (h : CE R R') (hn : _root_.Jvm.Pilot.@@N@@.nn R ≤ 10) (set : Nat) : wof R' set = wof R set := by
  unfold _root_.Jvm.Pilot.@@N@@.wof
  rw [h.nn]
  exact sm_congr (fun i hi => by unfold wset; rw [h.wt (by omega)])
theorem CE.winm (h : CE R R') (hn : _root_.Jvm.Pilot.@@N@@.nn R ≤ 10) (q set : Nat) : winm R' q set = winm R q set := by
  unfold _root_.Jvm.Pilot.@@N@@.winm
  rw [h.wof hn, h.vmk hn]
theorem CS0.cong {I : Mem} {s : Nat} (h : CS0 I s R) (hn : _root_.Jvm.Pilot.@@N@@.nn R ≤ 10) (e : CE R R') : CS0 I s R' := by
  refine ⟨⟨h.1.1.trans e.1.symm, h.1.2.1.trans e.2.1.symm, by rw [e.vmk hn]; exact h.1.2.2⟩, fun m hm => ?_⟩
  rw [e.nn] at hm
  obtain ⟨h1, h2⟩ := h.2 m hm
  exact ⟨h1.trans (e.2.2 _ (by omega) (by omega)).symm, by rw [e.bmk hn (by omega)]; exact h2⟩
end CEs
def plusOf (R : Nat → Int32) (sg : Nat → Nat) : Nat := msk (nn R) (fun m => sg (ld R m) == 43)
def dissOf (R : Nat → Int32) (sg : Nat → Nat) : Nat := cnt (nn R) (fun m => !(sg m == sg (ld R m)))
def swg (R : Nat → Int32) (pl m : Nat) : Bool := winm R (qq R) (pl ^^^ bmk R m) != winm R (qq R) pl
def holdR (R : Nat → Int32) (sg : Nat → Nat) : Nat → Int32 := fun j =>
  if 59 ≤ j ∧ j < 59 + nn R then R j + nI (b1 (swg R (plusOf R sg) (j - 59)))
  else if 5 ≤ j ∧ j < 29 then (if j = 5 then nI (b1 (winm R (qq R) (plusOf R sg))) else if j = 6 then nI (wof R (plusOf R sg)) else if j = 7 then nI (dissOf R sg) else R (j - 3))
  else if j = 2 then R 2 + nI 1 else if j = 3 then R 3 + nI (b1 (winm R (qq R) (plusOf R sg))) else if j = 4 then nI (min 8 (hd R + 1)) else R j
theorem holdR_CE {R : Nat → Int32} {sg : Nat → Nat} : CE R (holdR R sg) := by
  refine ⟨?_, ?_, fun j h1 h2 => ?_⟩
  · unfold holdR
    rw [if_neg (by omega), if_neg (by omega), if_neg (by omega), if_neg (by omega), if_neg (by omega)]
  · unfold holdR
    rw [if_neg (by omega), if_neg (by omega), if_neg (by omega), if_neg (by omega), if_neg (by omega)]
  · unfold holdR
    rw [if_neg (by omega), if_neg (by omega), if_neg (by omega), if_neg (by omega), if_neg (by omega)]
theorem holdR_5 {R : Nat → Int32} {sg : Nat → Nat} : holdR R sg 5 = nI (b1 (winm R (qq R) (plusOf R sg))) := by
  unfold holdR
  rw [if_neg (by omega), if_pos (by omega), if_pos rfl]
theorem holdR_6 {R : Nat → Int32} {sg : Nat → Nat} : holdR R sg 6 = nI (wof R (plusOf R sg)) := by
  unfold holdR
  rw [if_neg (by omega), if_pos (by omega), if_neg (by omega), if_pos rfl]
theorem holdR_7 {R : Nat → Int32} {sg : Nat → Nat} : holdR R sg 7 = nI (dissOf R sg) := by
  unfold holdR
  rw [if_neg (by omega), if_pos (by omega), if_neg (by omega), if_neg (by omega), if_pos rfl]
theorem holdR_8 {R : Nat → Int32} {sg : Nat → Nat} {j : Nat} (h1 : 8 ≤ j) (h2 : j < 29) : holdR R sg j = R (j - 3) := by
  unfold holdR
  rw [if_neg (by omega), if_pos (by omega), if_neg (by omega), if_neg (by omega), if_neg (by omega)]
section TH
variable {k s : Nat} {I J : Mem} {R : Nat → Int32} {len : Nat} {ch : Nat → Nat}
theorem plusOf_lt (hW : WF R) (sg : Nat → Nat) : plusOf R sg < 1024 := Nat.lt_of_lt_of_le (msk_lt _ _) (pow10 hW.1.2)
theorem xor_1024 {a b : Nat} (ha : a < 1024) (hb : b < 1024) : a ^^^ b < 1024 := Nat.xor_lt_two_pow (n := 10) ha hb
theorem tellSwings_eq (hW : WF R) (h : CS0 I s R) (hk : 2000 ≤ k) {pl : Nat} (hp : pl < 1024) : ∃ J, f_X3_tellSwings k s (nI pl) (nI (b1 (winm R (qq R) pl))) I = some J ∧ (∀ m, m < nn R → J (8 * s + 3) m = I (8 * s + 3) m + nI (b1 (swg R pl m))) ∧ ∀ b, b ≠ 8 * s + 3 → J b = I b := by
  have hn := hW.n10
  unfold f_X3_tellSwings
  refine loopE (fun g m (J : Mem) => f_X3_tellSwings_2 k s (nI pl) (nI (b1 (winm R (qq R) pl))) g (nI m) J) (nn R) (fun m J => (∀ j, J (8 * s + 3) j = if j < m then I (8 * s + 3) j + nI (b1 (swg R pl j)) else I (8 * s + 3) j) ∧ ∀ b, b ≠ 8 * s + 3 → J b = I b) (fun o => ∃ J, o = some J ∧ (∀ m, m < nn R → J (8 * s + 3) m = I (8 * s + 3) m + nI (b1 (swg R pl m))) ∧ ∀ b, b ≠ 8 * s + 3 → J b = I b) (fun g J hJ => ?_) (fun g m J hm hJ => ?_) (nn R) 0 k I (by omega) (by omega) ⟨fun j => by rw [if_neg (by omega)], fun _ _ => rfl⟩
  · have h' : CS0 J s R := h.mono (hJ.2 _ (by omega)) (hJ.2 _ (by omega)) (hJ.2 _ (by omega))
    simp (disch := omega) only [f_X3_tellSwings_2, h'.n hW, le_nI, if_pos]
    exact ⟨J, rfl, fun m hm => by rw [hJ.1, if_pos hm], hJ.2⟩
  · have h' : CS0 J s R := h.mono (hJ.2 _ (by omega)) (hJ.2 _ (by omega)) (hJ.2 _ (by omega))
    have hx := xor_1024 hp (bmk_lt hW m)
    have hb := b1_le (winm R (qq R) pl)
    have hb2 := b1_le (winm R (qq R) (pl ^^^ bmk R m))
    simp (disch := omega) only [f_X3_tellSwings_2, h'.n hW, le_nI, if_neg, if_pos, inBn, cl_nI, h'.b hm, xor_nI, isWinning_eq hW h' hk, Option.bind_some, eq_nI, nI_add]
    by_cases e : swg R pl m = true
    · rw [if_neg (by intro q; unfold swg at e; revert q e; cases winm R (qq R) (pl ^^^ bmk R m) <;> cases winm R (qq R) pl <;> decide)]
      refine ⟨_, rfl, fun j => ?_, fun b hb => ?_⟩
      · by_cases ej : j = m
        · subst ej
          rw [up2_eq, hJ.1, if_neg (by omega), if_pos (by omega), e]
          rfl
        · rw [up2_nei _ _ _ _ ej, hJ.1]
          by_cases e2 : j < m
          · rw [if_pos e2, if_pos (by omega)]
          · rw [if_neg e2, if_neg (by omega)]
      · rw [up2_nea _ _ _ _ hb, hJ.2 b hb]
    · rw [if_pos (by unfold swg at e; revert e; cases winm R (qq R) (pl ^^^ bmk R m) <;> cases winm R (qq R) pl <;> decide)]
      refine ⟨_, rfl, fun j => ?_, hJ.2⟩
      rw [hJ.1]
      by_cases ej : j = m
      · subst ej
        rw [if_neg (by omega), if_pos (by omega), Bool.eq_false_iff.mpr e]
        exact (Int32.add_zero _).symm
      · by_cases e2 : j < m
        · rw [if_pos e2, if_pos (by omega)]
        · rw [if_neg e2, if_neg (by omega)]
theorem hold_eq (hW : WF R) (h : CS I s R) (hT : TX I len ch) (hk : 2000 ≤ k) {st : Nat} (hst : ∀ m, m < nn R → st + m < len) (hs6 : s < 6) : ∃ J, f_X3_hold k s (nI st) I = some J ∧ CS J s (holdR R (fun m => ch (st + m))) ∧ ∀ b, (b < 8 * s ∨ 8 * s + 8 ≤ b) → J b = I b := by
  have hn := hW.n10
  have hlen := hT.2.1
  unfold f_X3_hold
  refine loop0e (fun g m => f_X3_hold_8 k s I (nI st) g (nI (msk m (fun m => ch (st + ld R m) == 43))) (nI (cnt m (fun m => !(ch (st + m) == ch (st + ld R m))))) (nI m)) (nn R) (fun o => ∃ J, o = some J ∧ CS J s (holdR R (fun m => ch (st + m))) ∧ ∀ b, (b < 8 * s ∨ 8 * s + 8 ≤ b) → J b = I b) (by omega) (fun g => ?_) (fun g m hm => ?_)
  · have hpl := plusOf_lt hW (fun m => ch (st + m))
    have e1 : msk (nn R) (fun m => ch (st + ld R m) == 43) = plusOf R (fun m => ch (st + m)) := rfl
    have e2 : cnt (nn R) (fun m => !(ch (st + m) == ch (st + ld R m))) = dissOf R (fun m => ch (st + m)) := rfl
    rw [e1, e2]
    generalize hpe : plusOf R (fun m => ch (st + m)) = pl at *
    obtain ⟨J1, j1, j2, j3⟩ := tellSwings_eq (k := k) hW h.1 hk hpl
    have hJ1 : CS0 J1 s R := h.1.mono (j3 _ (by omega)) (j3 _ (by omega)) (j3 _ (by omega))
    obtain ⟨J2, i1, ⟨i2, i3⟩, i4, i5⟩ := badd_eq (k := k) (s := s) (I := J1) (p := winm R (qq R) pl) (v := nI (wof R pl)) (w := nI (dissOf R (fun m => ch (st + m)))) hk
    simp (disch := omega) only [f_X3_hold_8, h.1.n hW, le_nI, if_pos, isWinning_eq hW h.1 hk, Option.bind_some, j1, weightOf_eq hW hJ1 hk, i1]
    refine ⟨J2, rfl, ⟨?_, fun m hm => ?_, ⟨?_, ?_⟩, fun j hj => ?_⟩, fun b hb => ?_⟩
    · exact (hJ1.mono (i5 _ (by omega) (by omega) (by omega) (by omega)) (i5 _ (by omega) (by omega) (by omega) (by omega)) (i5 _ (by omega) (by omega) (by omega) (by omega))).cong hn holdR_CE
    · rw [holdR_CE.nn] at hm
      rw [i5 _ (by omega) (by omega) (by omega) (by omega), j2 m hm, h.2.1 m hm]
      unfold holdR
      rw [if_pos (by omega), Nat.add_sub_cancel_left, hpe]
    · rw [i2, j3 _ (by omega), h.2.2.1.1]
      unfold holdR
      rw [if_neg (by omega), if_neg (by omega), if_pos rfl]
    · rw [i3, j3 _ (by omega), h.2.2.1.2]
      unfold holdR
      rw [if_neg (by omega), if_neg (by omega), if_neg (by omega), if_pos rfl, hpe]
    · obtain ⟨l1, l2, l3⟩ := i4 j hj
      rw [l1, l2, l3, j3 _ (by omega), j3 _ (by omega), j3 _ (by omega)]
      by_cases e : j = 0
      · subst e
        refine ⟨?_, ?_, ?_⟩
        · rw [if_pos rfl]; exact (by rw [← hpe]; exact holdR_5.symm)
        · rw [if_pos rfl]; exact (by rw [← hpe]; exact holdR_6.symm)
        · rw [if_pos rfl]; exact holdR_7.symm
      · obtain ⟨p1, p2, p3⟩ := h.2.2.2 (j - 1) (by omega)
        rw [if_neg e, if_neg e, if_neg e, p1, p2, p3, holdR_8 (by omega) (by omega), holdR_8 (by omega) (by omega), holdR_8 (by omega) (by omega)]
        exact ⟨congrArg R (by omega), congrArg R (by omega), congrArg R (by omega)⟩
    · rw [i5 _ (by omega) (by omega) (by omega) (by omega), j3 _ (by omega)]
  · have hl := ld_lt hW hm
    have h1 := hst m hm
    have h2 := hst _ hl
    have c1 := (hT.2.2 _ h1).2
    have c2 := (hT.2.2 _ h2).2
    simp (disch := omega) only [f_X3_hold_8, h.1.n hW, le_nI, if_neg, leaderOf_eq hW h.1 hk hm, Option.bind_some, nI_add, at_eq hT h2, eq_nI, f_X3_hold_46, at_eq hT h1, bit_nI, or_nI, cnt_s, msk_s]
    have eo : msk m (fun m => ch (st + ld R m) == 43) ||| 2 ^ m = msk m (fun m => ch (st + ld R m) == 43) + 2 ^ m := by
      rw [Nat.or_comm, Nat.add_comm, ← Nat.mul_one (2 ^ m), Nat.two_pow_add_eq_or_of_lt (msk_lt _ _)]
    by_cases e1 : ch (st + ld R m) = 43
    · by_cases e2 : ch (st + m) = 43
      · simp [e1, e2, b1, eo]
      · simp [e1, e2, b1, eo]
    · by_cases e2 : ch (st + m) = ch (st + ld R m)
      · simp [e1, e2, b1, eo]
      · simp [e1, e2, b1, eo]
end TH
