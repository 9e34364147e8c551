/-! counting to the end; the power that is worked out -/
def PWN (I : Mem) (R : Nat → Int32) : Prop := ∀ r, r ≤ 10 → ∀ q, q ≤ 500 → I (60 + r) q = nI (WN R r q)
/-- coalitions with at least the weight q -/
def cge (R : Nat → Int32) (r q : Nat) : Nat := cnt (2 ^ nb R) (fun s => vok R s && (decide (q ≤ wof R (mset R s)) && rin R r s))
section WO
variable {k : Nat} {I J K : Mem} {R : Nat → Int32} {q : Nat}
theorem cge_WN (r q : Nat) : cge R r q = WN R r q := cnt_congr (fun s _ => by
  unfold ww winm vok
  cases adn (vmk R) (mset R s) == 0 <;> cases decide (q ≤ wof R (mset R s)) <;> cases rin R r s <;> rfl)
theorem cnt_add {n : Nat} {p p1 p2 : Nat → Bool} (h : ∀ i, i < n → b1 (p i) = b1 (p1 i) + b1 (p2 i)) : cnt n p = cnt n p1 + cnt n p2 := by
  unfold cnt
  rw [← sm_add]
  exact sm_congr h
theorem cge_s (r q : Nat) : cge R r q = cw3 R r (2 ^ nb R) q + cge R r (q + 1) := by
  unfold cge cw3
  refine cnt_add (fun s _ => ?_)
  cases vok R s
  · rfl
  · cases rin R r s
    · simp [b1]
    · rcases Nat.lt_trichotomy q (wof R (mset R s)) with z | z | z
      · have e1 : (wof R (mset R s) == q) = false := by simp; omega
        simp [e1, b1, show q ≤ wof R (mset R s) by omega, show q + 1 ≤ wof R (mset R s) by omega]
      · rw [← z]
        simp [b1]
      · have e1 : (wof R (mset R s) == q) = false := by simp; omega
        simp [e1, b1, show ¬ q ≤ wof R (mset R s) by omega, show ¬ q + 1 ≤ wof R (mset R s) by omega]
theorem cge_501 (hW : WF R) (r : Nat) : cge R r 501 = 0 := sm_zero (fun s _ => by
  have := wof_le hW (mset R s)
  show b1 (vok R s && (decide (501 ≤ wof R (mset R s)) && rin R r s)) = 0
  rw [decide_eq_false (by omega)]
  simp [b1])
theorem suffix_eq (hW : WF R) {r : Nat} (hr : r ≤ 10) (h : ∀ j, j ≤ 500 → I (60 + r) j = nI (cw3 R r (2 ^ nb R) j)) (f : Int32 → Mem → Option Mem) (hk : 2000 ≤ k) : ∃ J, f_X2_countWinning_81 k (nI r) f k (nI 499) I = f (nI (r + 1)) J ∧ (∀ j, j ≤ 500 → J (60 + r) j = nI (WN R r j)) ∧ ∀ b, b ≠ 60 + r → J b = I b := by
  have hneg : ((-1 : Int32) < 0) = True := by decide
  have h500 : I (60 + r) 500 = nI (cge R r 500) := by rw [h 500 (by decide), cge_s, cge_501 hW]; rfl
  refine loopE (fun g m (J : Mem) => f_X2_countWinning_81 k (nI r) f g (if m ≤ 499 then nI (499 - m) else (-1 : Int32)) J) 500 (fun m J => (∀ j, j ≤ 500 → J (60 + r) j = if 500 - m ≤ j then nI (cge R r j) else nI (cw3 R r (2 ^ nb R) j)) ∧ ∀ b, b ≠ 60 + r → J b = I b) (fun o => ∃ J, o = f (nI (r + 1)) J ∧ (∀ j, j ≤ 500 → J (60 + r) j = nI (WN R r j)) ∧ ∀ b, b ≠ 60 + r → J b = I b) (fun g J hJ => ?_) (fun g m J hm hJ => ?_) 500 0 k I (by omega) (by omega) ⟨fun j hj => ?_, fun _ _ => rfl⟩
  · rw [if_neg (by omega)]
    simp only [f_X2_countWinning_81, hneg, if_true, nI_add]
    exact ⟨J, rfl, fun j hj => by rw [hJ.1 j hj, if_pos (by omega), cge_WN], hJ.2⟩
  · obtain ⟨j1, j2⟩ := hJ
    have e1 := j1 (499 - m) (by omega)
    have e2 := j1 (499 - m + 1) (by omega)
    rw [if_neg (by omega)] at e1
    rw [if_pos (by omega)] at e2
    rw [if_pos (by omega)]
    simp (disch := omega) only [f_X2_countWinning_81, lt0_nI, if_false, inBn, if_pos, nI_add, cl_nI, e1, e2, Option.bind_some]
    refine ⟨up2 J (60 + r) (499 - m) (nI (cw3 R r (2 ^ nb R) (499 - m) + cge R r (499 - m + 1))), ?_, fun j hj => ?_, fun b hb => by rw [up2_nea _ _ _ _ hb, j2 b hb]⟩
    · by_cases z : m + 1 ≤ 499
      · rw [if_pos z, m1_nI (by omega), show 499 - m - 1 = 499 - (m + 1) by omega]
      · rw [if_neg z, show 499 - m = 0 by omega]
        rfl
    · by_cases e : j = 499 - m
      · rw [e, up2_eq, if_pos (by omega), ← cge_s]
      · rw [up2_nei _ _ _ _ e, j1 j hj]
        by_cases z : 500 - m ≤ j
        · rw [if_pos z, if_pos (by omega)]
        · rw [if_neg z, if_neg (by omega)]
  · by_cases z : 500 - 0 ≤ j
    · rw [if_pos z, show j = 500 by omega]; exact h500
    · rw [if_neg z]; exact h j hj
theorem countW_eq (hW : WF R) (h1 : P1 I R) (h2 : P2 I R) (hk : 2000 ≤ k) : ∃ J, f_X2_countWinning k I = some J ∧ PWN J R ∧ ∀ b, (b < 60 ∨ 70 < b) → J b = I b := by
  have hnb := nb_le hW
  have h2n := two_nb hW
  unfold f_X2_countWinning
  refine loopE (fun g m (J : Mem) => f_X2_countWinning_2 k g (nI m) J) 11 (fun m J => (∀ r, r < m → ∀ j, j < 501 → J (60 + r) j = nI 0) ∧ ∀ b, (b < 60 ∨ 70 < b) → J b = I b) (fun o => ∃ J, o = some J ∧ PWN J R ∧ ∀ b, (b < 60 ∨ 70 < b) → J b = I b) (fun g J hJ => ?_) (fun g m J hm hJ => ?_) 11 0 k I (by omega) (by omega) ⟨fun r hr => by omega, fun _ _ => rfl⟩
  · simp (disch := omega) only [f_X2_countWinning_2, lt_nI, if_pos]
    refine loopE (fun g s (K : Mem) => f_X2_countWinning_26 k g (nI s) K) (2 ^ nb R) (fun s K => (∀ r, r ≤ 10 → ∀ j, j < 501 → K (60 + r) j = nI (cw3 R r s j)) ∧ ∀ b, (b < 60 ∨ 70 < b) → K b = I b) (fun o => ∃ J, o = some J ∧ PWN J R ∧ ∀ b, (b < 60 ∨ 70 < b) → J b = I b) (fun g K hK => ?_) (fun g s K hs hK => ?_) (2 ^ nb R) 0 k J (by omega) (by omega) ⟨fun r hr j hj => hJ.1 r (by omega) j hj, hJ.2⟩
    · have e9 : K 53 9 = nI (2 ^ nb R) := by rw [hK.2 _ (by omega)]; exact h2.2.1
      simp (disch := omega) only [f_X2_countWinning_26, e9, le_nI, if_pos]
      refine loopE (fun g m (L : Mem) => f_X2_countWinning_71 k g (nI m) L) 11 (fun m L => (∀ r, r ≤ 10 → ∀ j, j ≤ 500 → L (60 + r) j = if r < m then nI (WN R r j) else nI (cw3 R r (2 ^ nb R) j)) ∧ ∀ b, (b < 60 ∨ 70 < b) → L b = I b) (fun o => ∃ J, o = some J ∧ PWN J R ∧ ∀ b, (b < 60 ∨ 70 < b) → J b = I b) (fun g L hL => ?_) (fun g m L hm hL => ?_) 11 0 k K (by omega) (by omega) ⟨fun r hr j hj => by rw [if_neg (by omega)]; exact hK.1 r hr j (by omega), hK.2⟩
      · simp (disch := omega) only [f_X2_countWinning_71, lt_nI, if_pos]
        exact ⟨L, rfl, fun r hr q hq => by rw [hL.1 r hr q hq, if_pos (by omega)], hL.2⟩
      · obtain ⟨M, m1, m2, m3⟩ := suffix_eq (k := k) (I := L) hW (r := m) (by omega) (fun j hj => by rw [hL.1 m (by omega) j hj, if_neg (by omega)]) (f_X2_countWinning_71 k g) hk
        simp (disch := omega) only [f_X2_countWinning_71, lt_nI, if_neg]
        refine ⟨M, m1, fun r hr j hj => ?_, fun b hb => by rw [m3 b (by omega), hL.2 b hb]⟩
        by_cases e : r = m
        · rw [e, if_pos (by omega)]; exact m2 j hj
        · rw [m3 _ (by omega), hL.1 r hr j hj]
          by_cases z : r < m
          · rw [if_pos z, if_pos (by omega)]
          · rw [if_neg z, if_neg (by omega)]
    · obtain ⟨k1, k2⟩ := hK
      have e9 : K 53 9 = nI (2 ^ nb R) := by rw [k2 _ (by omega)]; exact h2.2.1
      have e0 : K 53 0 = nI (nn R) := by rw [k2 _ (by omega)]; exact h1.1.1
      have ev : K 53 2 = nI (vmk R) := by rw [k2 _ (by omega)]; exact h1.1.2.2.1
      have e56 : K 56 s = nI (mset R s) := by rw [k2 _ (by omega)]; exact (h2.2.2 s hs).1
      have e57 : K 57 s = nI (wof R (mset R s)) := by rw [k2 _ (by omega)]; exact (h2.2.2 s hs).2
      have hwl := wof_le hW (mset R s)
      have hstep : ∀ r w, cw3 R r (s + 1) w = cw3 R r s w + b1 (vok R s && (wof R (mset R s) == w && rin R r s)) := fun r w => cnt_s _ _
      simp (disch := omega) only [f_X2_countWinning_26, e9, le_nI, if_neg, inBn, if_pos, cl_nI, e56, hav_eq ev hW, b1_0, e57, nI_add]
      cases d : vok R s
      · rw [if_pos rfl]
        refine ⟨K, rfl, fun r hr j hj => ?_, k2⟩
        rw [k1 r hr j hj, hstep, d]
        rfl
      · rw [if_neg (by decide)]
        obtain ⟨M, m1, m2, m3⟩ := caw_eq (k := k) (I := K) hW (s := s) e0 hwl hk
        rw [m1, Option.bind_some]
        refine ⟨M, rfl, fun r hr j hj => ?_, fun b hb => by rw [m3 b hb, k2 b hb]⟩
        rw [m2 r hr j, k1 r hr j hj, hstep, d, nI_add]
        have : (j == wof R (mset R s)) = (wof R (mset R s) == j) := by rw [Bool.eq_iff_iff, beq_iff_eq, beq_iff_eq]; exact eq_comm
        rw [this, Bool.true_and]
  · obtain ⟨M, m1, m2, m3⟩ := fill_eq (k := k) (I := J) (a := 60 + m) hk
    simp (disch := omega) only [f_X2_countWinning_2, lt_nI, if_neg, inBn, if_pos, cl_nI, m1, Option.bind_some, nI_add]
    refine ⟨M, rfl, fun r hr j hj => ?_, fun b hb => by rw [m3 b (by omega), hJ.2 b hb]⟩
    by_cases e : r = m
    · rw [e]; exact m2 j hj
    · rw [m3 _ (by omega)]; exact hJ.1 r (by omega) j hj
theorem workOut_eq (hW : WF R) (h : CS0 I 0 R) (hk : 2000 ≤ k) : ∃ J, f_X2_workOut k 0 I = some J ∧ P1 J R ∧ P2 J R ∧ PWN J R ∧ J 53 12 = (-1 : Int32) ∧ ∀ b, (b < 53 ∨ 70 < b) → J b = I b := by
  have hn := hW.n10
  unfold f_X2_workOut
  rw [Option.bind_some]
  refine loopE (fun g m (J : Mem) => f_X2_workOut_31 k 0 g (nI m) J) (nn R) (fun m J => (J 53 0 = nI (nn R) ∧ J 53 1 = nI (qq R) ∧ J 53 2 = nI (vmk R) ∧ J 53 4 = nI (msk m (pl R))) ∧ (∀ i, i < m → J 54 i = nI (bmk R i) ∧ J 55 i = nI (wof R (bmk R i))) ∧ ∀ b, (b < 53 ∨ 70 < b) → J b = I b) (fun o => ∃ J, o = some J ∧ P1 J R ∧ P2 J R ∧ PWN J R ∧ J 53 12 = (-1 : Int32) ∧ ∀ b, (b < 53 ∨ 70 < b) → J b = I b) (fun g J hJ => ?_) (fun g m J hm hJ => ?_) (nn R) 0 k _ (by omega) (by omega) ⟨⟨?_, ?_, ?_, up2_eq _ _ _ _⟩, fun i hi => by omega, fun b hb => by rw [up2_nea _ _ _ _ (by omega), up2_nea _ _ _ _ (by omega), up2_nea _ _ _ _ (by omega), up2_nea _ _ _ _ (by omega)]⟩
  · obtain ⟨⟨j1, j2, j3, j4⟩, j5, j6⟩ := hJ
    have hml : msk (nn R) (pl R) < 1024 := Nat.lt_of_lt_of_le (msk_lt _ _) (pow10 hn)
    have h1 : P1 (up2 J 53 3 (nI (nb R))) R := ⟨⟨by rw [up2_nei _ _ _ _ (by decide)]; exact j1, by rw [up2_nei _ _ _ _ (by decide)]; exact j2, by rw [up2_nei _ _ _ _ (by decide)]; exact j3, by rw [up2_nei _ _ _ _ (by decide)]; exact j4⟩, fun m hm => by rw [up2_nea _ _ _ _ (by decide), up2_nea _ _ _ _ (by decide)]; exact j5 m hm⟩
    obtain ⟨K, k1, ⟨k2, k3⟩, k4, k5⟩ := listCoal_eq (k := k) hW h1 hk
    have e3 : K 53 3 = nI (nb R) := by rw [k3 _ (by decide), up2_eq]
    have hp1 : P1 K R := ⟨⟨by rw [k3 _ (by decide)]; exact h1.1.1, by rw [k3 _ (by decide)]; exact h1.1.2.1, by rw [k3 _ (by decide)]; exact h1.1.2.2.1, by rw [k3 _ (by decide)]; exact h1.1.2.2.2⟩, fun m hm => by rw [k5 _ (by decide) (by decide) (by decide), k5 _ (by decide) (by decide) (by decide)]; exact h1.2 m hm⟩
    have hp2 : P2 K R := ⟨e3, k2, k4⟩
    obtain ⟨L, l1, l2, l3⟩ := countW_eq (k := k) hW hp1 hp2 hk
    have hpop : pop (msk (nn R) (pl R)) = nb R := pop_msk hn _
    simp (disch := omega) only [f_X2_workOut_31, j1, le_nI, if_pos, j4, bitCount_eq, hpop, k1, Option.bind_some, l1]
    refine ⟨_, rfl, ⟨⟨?_, ?_, ?_, ?_⟩, fun m hm => ?_⟩, ⟨?_, ?_, fun s hs => ?_⟩, fun r hr q hq => ?_, up2_eq _ _ _ _, fun b hb => ?_⟩
    · rw [up2_nei _ _ _ _ (by decide), l3 _ (by omega)]; exact hp1.1.1
    · rw [up2_nei _ _ _ _ (by decide), l3 _ (by omega)]; exact hp1.1.2.1
    · rw [up2_nei _ _ _ _ (by decide), l3 _ (by omega)]; exact hp1.1.2.2.1
    · rw [up2_nei _ _ _ _ (by decide), l3 _ (by omega)]; exact hp1.1.2.2.2
    · rw [up2_nea _ _ _ _ (by decide), up2_nea _ _ _ _ (by decide), l3 _ (by omega), l3 _ (by omega)]; exact hp1.2 m hm
    · rw [up2_nei _ _ _ _ (by decide), l3 _ (by omega)]; exact hp2.1
    · rw [up2_nei _ _ _ _ (by decide), l3 _ (by omega)]; exact hp2.2.1
    · rw [up2_nea _ _ _ _ (by decide), up2_nea _ _ _ _ (by decide), l3 _ (by omega), l3 _ (by omega)]; exact hp2.2.2 s hs
    · rw [up2_nea _ _ _ _ (by omega)]; exact l2 r hr q hq
    · rw [up2_nea _ _ _ _ (by omega), l3 _ (by omega), k5 _ (by omega) (by omega) (by omega), up2_nea _ _ _ _ (by omega), j6 b hb]
  · obtain ⟨⟨j1, j2, j3, j4⟩, j5, j6⟩ := hJ
    have hJ0 : CS0 J 0 R := h.mono (j6 _ (by omega)) (j6 _ (by omega)) (j6 _ (by omega))
    have hbl := bmk_lt hW m
    have hml := msk_lt m (pl R)
    have e54 : ∀ x y, CS0 (up2 (up2 J 54 m x) 55 m y) 0 R := fun x y => hJ0.mono (by rw [up2_nea _ _ _ _ (by omega), up2_nea _ _ _ _ (by omega)]) (by rw [up2_nea _ _ _ _ (by omega), up2_nea _ _ _ _ (by omega)]) (by rw [up2_nea _ _ _ _ (by omega), up2_nea _ _ _ _ (by omega)])
    have e54a : ∀ x, CS0 (up2 J 54 m x) 0 R := fun x => hJ0.mono (up2_nea _ _ _ _ (by omega)) (up2_nea _ _ _ _ (by omega)) (up2_nea _ _ _ _ (by omega))
    simp (disch := omega) only [f_X2_workOut_31, j1, le_nI, if_neg, inBn, if_pos, cl_nI, hJ0.b hm, up2_nea, weightOf_eq hW (e54a _) hk, Option.bind_some, isLowest_eq hW (e54 _ _) hk hm, b1_0, bit_nI, nI_add, j4, or_nI]
    have fin : ∀ x : Nat, x = msk (m + 1) (pl R) → ∀ K : Mem, K 53 4 = nI x → (∀ i, i ≠ 4 → K 53 i = J 53 i) → (∀ b, b ≠ 53 → K b = up2 (up2 J 54 m (nI (bmk R m))) 55 m (nI (wof R (bmk R m))) b) → (K 53 0 = nI (nn R) ∧ K 53 1 = nI (qq R) ∧ K 53 2 = nI (vmk R) ∧ K 53 4 = nI (msk (m + 1) (pl R))) ∧ (∀ i, i < m + 1 → K 54 i = nI (bmk R i) ∧ K 55 i = nI (wof R (bmk R i))) ∧ ∀ b, (b < 53 ∨ 70 < b) → K b = I b := by
      intro x hx K g1 g2 g3
      refine ⟨⟨by rw [g2 _ (by decide)]; exact j1, by rw [g2 _ (by decide)]; exact j2, by rw [g2 _ (by decide)]; exact j3, by rw [g1, hx]⟩, fun i hi => ?_, fun b hb => by rw [g3 _ (by omega), up2_nea _ _ _ _ (by omega), up2_nea _ _ _ _ (by omega), j6 b hb]⟩
      rw [g3 _ (by decide), g3 _ (by decide), up2_nea _ _ _ _ (by decide)]
      by_cases e : i = m
      · rw [e, up2_eq, up2_eq]
        exact ⟨rfl, rfl⟩
      · rw [up2_nei _ _ _ _ e, up2_nei _ _ _ _ e, up2_nea _ _ _ _ (by decide)]
        exact j5 i (by omega)
    have hpl : (bl R m == m) = pl R m := rfl
    rw [hpl]
    cases d : pl R m
    · rw [if_pos rfl]
      refine ⟨_, rfl, fin (msk m (pl R)) (by rw [msk_s, d]; simp) _ ?_ (fun i hi => ?_) (fun b hb => rfl)⟩
      · rw [up2_nea _ _ _ _ (by decide), up2_nea _ _ _ _ (by decide)]; exact j4
      · rw [up2_nea _ _ _ _ (by decide), up2_nea _ _ _ _ (by decide)]
    · rw [if_neg (by decide)]
      refine ⟨_, rfl, fin _ ?_ _ (up2_eq _ _ _ _) (fun i hi => ?_) (fun b hb => up2_nea _ _ _ _ hb)⟩
      · rw [msk_s, d, if_pos rfl, Nat.or_comm, Nat.add_comm (msk m _), ← Nat.mul_one (2 ^ m), Nat.two_pow_add_eq_or_of_lt hml]
      · rw [up2_nei _ _ _ _ hi, up2_nea _ _ _ _ (by decide), up2_nea _ _ _ _ (by decide)]
  · rw [up2_nei _ _ _ _ (by decide), up2_nei _ _ _ _ (by decide), up2_nei _ _ _ _ (by decide), up2_eq]
    exact h.n hW
  · rw [up2_nei _ _ _ _ (by decide), up2_nei _ _ _ _ (by decide), up2_eq, up2_nea _ _ _ _ (by decide)]
    exact h.q hW
  · rw [up2_nei _ _ _ _ (by decide), up2_eq, up2_nea _ _ _ _ (by decide), up2_nea _ _ _ _ (by decide)]
    exact h.v
end WO
