section WI
variable {k : Nat} {I J : Mem} {R : Nat → Int32} {q : Nat}
theorem lvq_ge {v q0 : Nat} (h : q0 ≤ aW R + 1) : q0 ≤ lvq R v q0 := by
  rcases Nat.lt_or_ge (lvq R v q0) q0 with z | z
  · have h1 := ff_no (lvp R v q0) (aW R + 1) (by unfold lvq at z; omega)
    change lvp R v q0 (lvq R v q0) = false at h1
    unfold lvp at h1
    rw [decide_eq_true z] at h1
    cases h1
  · exact z
theorem lvq_in {v q0 i : Nat} (h1 : q0 ≤ i) (h2 : i < lvq R v q0) : swB R i (bo R v) ≠ 0 := by
  have := ff_yes _ _ _ h2
  unfold lvp at this
  rw [decide_eq_false (by omega)] at this
  simpa using this
theorem lvq_at {v q0 : Nat} (h : lvq R v q0 ≤ aW R) (h2 : q0 ≤ lvq R v q0) : swB R (lvq R v q0) (bo R v) = 0 := by
  have h1 := ff_no (lvp R v q0) (aW R + 1) (by unfold lvq at h; omega)
  change lvp R v q0 (lvq R v q0) = false at h1
  unfold lvp at h1
  rw [decide_eq_false (by omega)] at h1
  simpa using h1
theorem lvq_lt {v q0 : Nat} : lvq R v q0 ≤ aW R + 1 := ff_le _ _
theorem lvr_far {v q0 : Nat} (h : aW R < q0) : lvr R v q0 = (-5 : Int32) := by
  unfold lvr
  have h3 := lvq_lt (R := R) (v := v) (q0 := q0)
  rw [if_neg]
  intro z
  rcases Nat.lt_or_ge (lvq R v q0) q0 with y | y
  · have h1 := ff_no (lvp R v q0) (aW R + 1) (by unfold lvq at z; omega)
    change lvp R v q0 (lvq R v q0) = false at h1
    unfold lvp at h1
    rw [decide_eq_true y] at h1
    cases h1
  · omega
theorem leaves_c (hW : WF R) (h : PWN I R) (hk : 2000 ≤ k) {v q0 : Nat} (hv : v < nn R) (hq : q0 ≤ 500) : f_X5_leavesOut_47 k I (nI v) (nI (aW R)) k (nI q0) = some (lvr R v q0, I) := by
  have ha := aW_le hW
  by_cases far : aW R < q0
  · obtain ⟨k', rfl⟩ : ∃ k', k = k' + 1 := ⟨k - 1, by omega⟩
    simp (disch := omega) only [f_X5_leavesOut_47, lt_nI, if_pos, lvr_far far]
  · have hge := lvq_ge (R := R) (v := v) (q0 := q0) (by omega)
    have hlt := lvq_lt (R := R) (v := v) (q0 := q0)
    refine loopM (fun g q => f_X5_leavesOut_47 k I (nI v) (nI (aW R)) g (nI q)) (lvq R v q0) _ (m0 := q0) hge (by omega) (fun g => ?_) (fun g q h0 hq => ?_)
    · by_cases z : lvq R v q0 ≤ aW R
      · have e := lvq_at z hge
        simp (disch := omega) only [f_X5_leavesOut_47, lt_nI, if_neg, isDummy_c hW h hv, Option.bind_some, b1_0, e, beq_self_eq_true]
        unfold lvr
        rw [if_pos z, if_neg (by decide)]
      · simp (disch := omega) only [f_X5_leavesOut_47, lt_nI, if_pos]
        unfold lvr
        rw [if_neg z]
    · have e := lvq_in (R := R) (v := v) h0 hq
      have e2 : (swB R q (bo R v) == 0) = false := by simpa using e
      simp (disch := omega) only [f_X5_leavesOut_47, lt_nI, if_neg, isDummy_c hW h hv, Option.bind_some, b1_0, e2, if_true, nI_add]
theorem leaves_m (hW : WF R) (hR : RW I R) (hk : 2000 ≤ k) {v q0 : Nat} (hv : v < nn R) (hq : q0 ≤ 500) : ∃ J, f_X6_leavesOut_32 k (nI v) (nI (aW R)) k (nI q0) I = some (lvr R v q0, J) ∧ FQ I J := by
  have ha := aW_le hW
  have hnb := nb_le hW
  have hbo := bo_nb hW hv
  by_cases far : aW R < q0
  · obtain ⟨k', rfl⟩ : ∃ k', k = k' + 1 := ⟨k - 1, by omega⟩
    simp (disch := omega) only [f_X6_leavesOut_32, lt_nI, if_pos, lvr_far far]
    exact ⟨I, rfl, FQ.rfl'⟩
  · have hge := lvq_ge (R := R) (v := v) (q0 := q0) (by omega)
    have hlt := lvq_lt (R := R) (v := v) (q0 := q0)
    refine loopE (fun g q (J : Mem) => f_X6_leavesOut_32 k (nI v) (nI (aW R)) g (nI q) J) (lvq R v q0) (fun q J => q0 ≤ q ∧ FQ I J) (fun o => ∃ J, o = some (lvr R v q0, J) ∧ FQ I J) (fun g J hJ => ?_) (fun g q J hq hJ => ?_) (lvq R v q0 - q0) q0 k I (by omega) (by omega) ⟨Nat.le_refl _, FQ.rfl'⟩
    · have hRJ : RW J R := hR.mono (hJ.2.1 _ (by decide) (by decide))
      by_cases z : lvq R v q0 ≤ aW R
      · have e := lvq_at z hge
        obtain ⟨K, k1, k2, k3⟩ := find_eq (k := k) hW hRJ hk (q := lvq R v q0) (by omega)
        have hRK : RW K R := hRJ.mono (k3.1 _ (by decide) (by decide))
        simp (disch := omega) only [f_X6_leavesOut_32, lt_nI, if_neg, k1, Option.bind_some, blocOf_m hW hRK k2.1 hk hv, inBn, if_pos, cl_nI, k2.2.2.1 _ hbo, e]
        refine ⟨K, ?_, hJ.2.trans k3⟩
        unfold lvr
        rw [if_pos z, if_pos nI_0]
      · simp (disch := omega) only [f_X6_leavesOut_32, lt_nI, if_pos]
        unfold lvr
        rw [if_neg z]
        exact ⟨J, rfl, hJ.2⟩
    · have hRJ : RW J R := hR.mono (hJ.2.1 _ (by decide) (by decide))
      have e := lvq_in (R := R) (v := v) hJ.1 hq
      have hs := swB_le hW q (bo R v)
      obtain ⟨K, k1, k2, k3⟩ := find_eq (k := k) hW hRJ hk (q := q) (by omega)
      have hRK : RW K R := hRJ.mono (k3.1 _ (by decide) (by decide))
      simp (disch := omega) only [f_X6_leavesOut_32, lt_nI, if_neg, k1, Option.bind_some, blocOf_m hW hRK k2.1 hk hv, inBn, if_pos, cl_nI, k2.2.2.1 _ hbo, eq0_nI, nI_add]
      have := hJ.1
      exact ⟨K, rfl, by omega, hJ.2.trans k3⟩
/-! wins -/
theorem nI_full (v : Int32) : nI v.toBitVec.toNat = v := by
  apply Int32.toBitVec_inj.mp
  rw [tbv, BitVec.ofNat_toNat, BitVec.setWidth_eq]
theorem nand_id {v e : Int32} (h : v &&& (e ^^^ (-1 : Int32)) = 0) : v = v &&& e := by
  apply Int32.toBitVec_inj.mp
  have h2 := congrArg Int32.toBitVec h
  rw [Int32.toBitVec_and, Int32.toBitVec_xor] at h2
  rw [Int32.toBitVec_and]
  apply BitVec.eq_of_getLsbD_eq
  intro i hi
  have h3 := congrArg (fun z => z.getLsbD i) h2
  have h1 : (-1 : Int32).toBitVec.getLsbD i = true := by
    have : ∀ i, i < 32 → (-1 : Int32).toBitVec.getLsbD i = true := by decide +kernel
    exact this i hi
  have h0 : (0 : Int32).toBitVec.getLsbD i = false := by
    have : ∀ i, i < 32 → (0 : Int32).toBitVec.getLsbD i = false := by decide +kernel
    exact this i hi
  simp only [BitVec.getLsbD_and, BitVec.getLsbD_xor, h1, h0] at h3
  rw [BitVec.getLsbD_and]
  revert h3
  cases v.toBitVec.getLsbD i <;> cases e.toBitVec.getLsbD i <;> simp
theorem wins_or (v : Int32) {n : Nat} (hn : n ≤ 10) : (∃ m, m < 2 ^ n ∧ v = nI m) ∨ ((∀ m, m < 2 ^ n → v ≠ nI m) ∧ ¬ (v &&& ((nI (2 ^ n - 1)) ^^^ (-1 : Int32))) = 0) := by
  by_cases h : ∃ m, m < 2 ^ n ∧ v = nI m
  · exact Or.inl h
  · right
    refine ⟨fun m hm e => h ⟨m, hm, e⟩, fun e => h ?_⟩
    have h1 := nand_id e
    rw [← nI_full v, and_nI] at h1
    refine ⟨v.toBitVec.toNat &&& (2 ^ n - 1), ?_, ?_⟩
    · have := Nat.and_le_right (n := v.toBitVec.toNat) (m := 2 ^ n - 1)
      have : 1 ≤ 2 ^ n := Nat.one_le_two_pow
      omega
    · rw [← h1, nI_full]
/-- the coalition of the blocs that lie wholly in a set -/
def whb (R : Nat → Int32) (s B : Nat) : Nat := msk B (fun b => adn (msk (nn R) (fun j => bo R j == b)) s == 0)
def whm (R : Nat → Int32) (s : Nat) : Nat := msk (nn R) (fun m => adn (bmk R m) s == 0)
theorem whb_mset (hW : WF R) (s : Nat) : mset R (whb R s (nb R)) = whm R s := by
  unfold mset whm
  refine msk_congr (fun j hj => ?_)
  unfold whb
  rw [tb_msk, decide_eq_true (bo_nb hW hj), Bool.true_and]
  have : msk (nn R) (fun i => bo R i == bo R j) = bmk R j := msk_congr (fun i hi => by
    rw [Bool.eq_iff_iff, beq_iff_eq, beq_iff_eq, bo_eq hW hi hj])
  rw [this]
theorem everyone_eq (hC : CS0 I 0 R) (hW : WF R) : f_X3_everyone 0 I = nI (2 ^ nn R - 1) := by
  have hn := hW.n10
  unfold f_X3_everyone
  rw [hC.n hW, shl1_nI (by omega), sub_nI Nat.one_le_two_pow]
theorem wins_c (hW : WF R) (hC : CS0 I 0 R) (hk : 2000 ≤ k) {s : Nat} (hs : s < 2 ^ nn R) : f_X5_wins k (nI s) I = some (nI (b1 (winm R (qq R) (whm R s)))) := by
  have hn := hW.n10
  have h10 := pow10 hn
  have hwl : whm R s < 1024 := Nat.lt_of_lt_of_le (msk_lt _ _) h10
  have hz : adn s (2 ^ nn R - 1) = 0 := tb_ext (fun i => by
    rw [tb_adn, all_tb, Nat.zero_testBit]
    by_cases h1 : i < nn R
    · simp [h1]
    · rw [Nat.testBit_lt_two_pow (Nat.lt_of_lt_of_le hs (Nat.pow_le_pow_right (by decide) (by omega)))]
      rfl)
  unfold f_X5_wins
  rw [everyone_eq hC hW, adn_nI, hz, if_pos nI_0, wholeBlocsIn_eq hW hC hk (by omega), Option.bind_some, show msk (nn R) (fun m => adn (bmk R m) s == 0) = whm R s from rfl, isWinning_eq hW hC hk (by omega), Option.bind_some, oneIf_eq]
theorem wins_m (hW : WF R) (hF : FN J R (qq R)) (hk : 2000 ≤ k) {s : Nat} (hs : s < 1024) : f_X6_wins_29 k J (nI s) k (nI 0) (nI 0) = some (nI (b1 (winm R (qq R) (whm R s))), J) := by
  have hn := hW.n10
  have hnb := nb_le hW
  have h2n := two_nb hW
  refine loop0 (fun g b => f_X6_wins_29 k J (nI s) g (nI (whb R s b)) (nI b)) (nb R) _ (by omega) (fun g => ?_) (fun g b hb => ?_)
  · have hl : whb R s (nb R) < 2 ^ nb R := msk_lt _ _
    simp (disch := omega) only [f_X6_wins_29, hF.1.nb, le_nI, if_pos, inBn, cl_nI, hF.2.1 _ hl, b1_0]
    unfold ww
    rw [whb_mset hW]
    cases winm R (qq R) (whm R s)
    · rw [if_pos rfl]
      rfl
    · rw [if_neg (by decide)]
      rfl
  · have hml : msk (nn R) (fun j => bo R j == b) < 1024 := Nat.lt_of_lt_of_le (msk_lt _ _) (pow10 hn)
    have ha : adn (msk (nn R) (fun j => bo R j == b)) s < 1024 := adn_le _ _ 10 hml
    simp (disch := omega) only [f_X6_wins_29, hF.1.nb, le_nI, if_neg, inBn, if_pos, cl_nI, (hF.1.2.2.1 b hb).2, adn_nI, eq0_nI, shl1_nI, or_nI, nI_add]
    have hw : whb R s (b + 1) = whb R s b + (if adn (msk (nn R) (fun j => bo R j == b)) s == 0 then 2 ^ b else 0) := msk_s _ _
    rw [hw]
    by_cases e : adn (msk (nn R) (fun j => bo R j == b)) s = 0
    · rw [if_pos e, if_pos (by simp [e]), Nat.or_comm, Nat.add_comm (whb R s b), ← Nat.mul_one (2 ^ b), Nat.two_pow_add_eq_or_of_lt (show whb R s b < 2 ^ b from msk_lt _ _)]
    · rw [if_neg e, if_neg (by simp [e]), Nat.or_zero]
      rfl
end WI
