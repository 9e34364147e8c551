section SU
variable {k c st : Nat} {I J K : Mem} {P : Nat → Nat → Int32} {R R' : Nat → Int32} {kp : Bool} {A : Nat → Int32} {len : Nat} {ch : Nat → Nat}
theorem gt_of {w : Int32} {n : Nat} (hn : n < 1000) (h : ∀ j, j < n + 1 → w ≠ nI j) : w < 0 ∨ (¬ w < 0 ∧ ¬ w ≤ nI n) := by
  rcases int_cases w with z | ⟨m, h1, rfl⟩
  · exact Or.inl z
  · right
    refine ⟨nI_pos h1, ?_⟩
    rw [le_nI h1 (by omega)]
    intro z
    exact h m (by omega) rfl
theorem s_share (hk : 2000 ≤ k) (h : RLs c I) (v w : Int32) : STP c (f_X5_share k v w I) (fun J => f_X6_share k v w J) := by
  obtain ⟨R, st, P, kp, A, len, ch, hG, hQ, hM⟩ := h
  have hW := hG.1.1
  have hn := hW.n10
  have hq := hW.q500
  have hC := hQ.1.1.1
  have h2n := two_nb hW
  rcases mem_or v (nn R) with ⟨m, hm, rfl⟩ | hv
  · rcases mem_or w 4 with ⟨j, hj, rfl⟩ | hw
    · have hcl : cnt (2 ^ nb R) (ww R (qq R)) ≤ 2 ^ nb R := cnt_le
      by_cases e : cnt (2 ^ nb R) (ww R (qq R)) = 0
      · refine STP.ask (r := (-5 : Int32)) hG hM (ask5 hW hQ hk fun J j1 j2 j3 => ?_) (ask6 hW hk fun J K hJ k1 k2 k3 => ?_)
        · unfold f_X5_share
          rw [has_yes (hC.n hW) hn hm, if_neg (by decide), if_neg (nI_pos (by omega)), if_pos (nI_le (by omega) (by decide)), j1, Option.bind_some, j2.1.1.q hW, winC_c j3.2.2.1 hq, Option.bind_some, if_pos (by rw [e]; decide)]
        · unfold f_X6_share
          rw [noMember_yes (hJ.row.n hW) hn hm, Option.bind_some, if_pos (by decide), in_yes (by decide) (by decide) (by omega) (by omega) (by omega), if_neg (by decide), k1, Option.bind_some, winning_m hW k2 hk, Option.bind_some, if_pos (by rw [e]; decide)]
      · refine STP.ask (r := nI (shR R m j)) hG hM (ask5 hW hQ hk fun J j1 j2 j3 => ?_) (ask6 hW hk fun J K hJ k1 k2 k3 => ?_)
        · unfold f_X5_share
          rw [has_yes (hC.n hW) hn hm, if_neg (by decide), if_neg (nI_pos (by omega)), if_pos (nI_le (by omega) (by decide)), j1, Option.bind_some, j2.1.1.q hW, winC_c j3.2.2.1 hq, Option.bind_some, if_neg (by rw [eq0_nI (by omega)]; exact e)]
          exact share_c hW j2.1.1 j3.1 j3.2.1 j3.2.2.1 hk hm (by omega) (by omega)
        · unfold f_X6_share
          rw [noMember_yes (hJ.row.n hW) hn hm, Option.bind_some, if_pos (by decide), in_yes (by decide) (by decide) (by omega) (by omega) (by omega), if_neg (by decide), k1, Option.bind_some, winning_m hW k2 hk, Option.bind_some, if_neg (by rw [eq0_nI (by omega)]; exact e)]
          exact share_m hW k3 k2 hk hm (by omega) (by omega)
    · refine STP.no (r := (-2 : Int32)) hG hQ hM ?_ (fun J hJ => ⟨J, ?_, FQ.rfl'⟩)
      · unfold f_X5_share
        rw [has_yes (hC.n hW) hn hm, if_neg (by decide)]
        rcases gt_of (n := 3) (by decide) hw with z | ⟨z1, z2⟩
        · rw [if_pos z]
        · rw [if_neg z1, if_neg z2]
      · unfold f_X6_share
        rw [noMember_yes (hJ.row.n hW) hn hm, Option.bind_some, if_pos (by decide), in_no (by decide) (by decide) (fun i h1 h2 => hw i (by omega)), if_pos (by decide)]
  · refine STP.no (r := (-1 : Int32)) hG hQ hM ?_ (fun J hJ => ⟨J, ?_, FQ.rfl'⟩)
    · unfold f_X5_share
      rw [has_no (hC.n hW) hn hv, if_pos (by decide)]
    · unfold f_X6_share
      rw [noMember_no (hJ.row.n hW) hn hv, Option.bind_some, if_neg (by decide)]
theorem s_wins (hk : 2000 ≤ k) (h : RLs c I) (v : Int32) : ∃ r K, f_X5_wins k v I = some r ∧ f_X6_wins k v I = some (r, K) ∧ RLs (c + 1) K := by
  obtain ⟨R, st, P, kp, A, len, ch, hG, hQ, hM⟩ := h
  have hW := hG.1.1
  have hn := hW.n10
  have hC := hQ.1.1.1
  have h10 := pow10 hn
  have hp : 1 ≤ 2 ^ nn R := Nat.one_le_two_pow
  have e72 : (nI 1) <<< ((I 72 (Int32.toNatClampNeg (nI 0))) &&& 31) - nI 1 = nI (2 ^ nn R - 1) := by
    rw [cl_nI (by decide), hM.row.n hW, shl1_nI (by omega), sub_nI hp]
  rcases wins_or v hn with ⟨s, hs, rfl⟩ | ⟨hv, hv2⟩
  · obtain ⟨K, k1, k2, k3⟩ := findNow_eq hW hM.row hk
    refine ⟨_, K, wins_c hW hC hk hs, ?_, R, st, P, kp, A, len, ch, hG.up, hQ.lo k3.lo, hM.fq k3⟩
    unfold f_X6_wins
    rw [e72, in_yes (by decide) (by omega) (by omega) (by omega) (by omega), if_neg (by decide), k1, Option.bind_some]
    exact wins_m hW k2 hk (by omega)
  · refine ⟨(-2 : Int32), I, ?_, ?_, R, st, P, kp, A, len, ch, hG.up, hQ, hM⟩
    · unfold f_X5_wins
      rw [everyone_eq hC hW, if_neg hv2]
    · unfold f_X6_wins
      rw [e72, in_no (by decide) (by omega) (fun m h1 h2 => hv m (by omega)), if_pos (by decide)]
theorem ask5L (hW : WF R) (hQ : QS I R st P kp A len ch) (hk : 2000 ≤ k) {o : Option (Int32 × Mem)} {r : Int32} (h : ∀ J K, f_X5_currentPower k I = some J → f_X2_leastCoalitions k J = some (nI (lc R (2 ^ nb R)), K) → LSt K R → o = some (r, K)) : ∃ J, o = some (r, J) ∧ QS J R st P kp A len ch ∧ ∀ b, 71 ≤ b → J b = I b := by
  obtain ⟨J, j1, ⟨j2, j3, j4⟩, j5⟩ := power_eq hW hQ hk
  obtain ⟨K, k1, k2, k3, k4⟩ := leastC_c hW j4 hk
  exact ⟨K, h J K j1 k1 k3, QS.of (j2.mono (fun b h1 _ => k4 b (by omega) (by omega)) (by rw [k4 _ (by decide) (by decide)])) (by rw [k4 _ (by decide) (by decide)]; exact j3) k2, fun b hb => by rw [k4 b (by omega) (by omega), j5 b hb]⟩
theorem ask6L (hW : WF R) (hk : 2000 ≤ k) {f : Mem → Option (Int32 × Mem)} {r : Int32} (h : ∀ J K, MR J R st P kp A len ch → f_X6_findLeast k J = some K → LM K R → MR K R st P kp A len ch → f J = some (r, K)) : ∀ J, MR J R st P kp A len ch → ∃ K, f J = some (r, K) ∧ FQ J K := by
  intro J hJ
  obtain ⟨K, k1, k2, k3⟩ := findLeast_eq hW hJ.row hk
  exact ⟨K, h J K hJ k1 k2 (hJ.fq k3), k3⟩
theorem s_least (hk : 2000 ≤ k) (h : RLs c I) (v w : Int32) : STP c (f_X5_leastCoalition k v w I) (fun J => f_X6_leastCoalition k v w J) := by
  obtain ⟨R, st, P, kp, A, len, ch, hG, hQ, hM⟩ := h
  have hW := hG.1.1
  have h2n := two_nb hW
  have h252 := isl_252 hW
  rcases int_cases v with hv | ⟨r, hr, rfl⟩
  · refine STP.no (r := (-2 : Int32)) hG hQ hM ?_ (fun J hJ => ⟨J, ?_, FQ.rfl'⟩)
    · unfold f_X5_leastCoalition
      rw [if_pos hv]
    · show f_X6_leastCoalition k v w J = _
      unfold f_X6_leastCoalition
      rw [if_pos hv]
  · rcases mem_or w 3 with ⟨j, hj, rfl⟩ | hw
    · by_cases e : r < lc R (2 ^ nb R)
      · refine STP.ask (r := nI (lsR R r j)) hG hM (ask5L hW hQ hk fun J K j1 j2 j3 => ?_) (ask6L hW hk fun J K hJ k1 k2 k3 => ?_)
        · unfold f_X5_leastCoalition
          rw [if_neg (nI_pos hr), if_neg (nI_pos (by omega)), if_pos (nI_le (by omega) (by decide)), j1, Option.bind_some, j2, Option.bind_some, if_neg (by rw [le_nI (by omega) hr]; omega), ofLeast_c hW j3 e (by omega), Option.bind_some]
        · have hl := lf_lt (R := R) (2 ^ nb R) r e
          have e81 := k2.2.2 r e
          show f_X6_leastCoalition k (nI r) (nI j) J = _
          unfold f_X6_leastCoalition lsR
          rw [if_neg (nI_pos hr), in_yes (by decide) (by decide) (by omega) (by omega) (by omega), if_neg (by decide), k1, Option.bind_some, k2.2.1, if_pos (by rw [lt_nI hr (by omega)]; exact e), if_pos (by rw [inBn hr]; omega), cl_nI hr, e81]
          rcases (by omega : j = 0 ∨ j = 1 ∨ j = 2) with e | e | e <;> subst e
          · rw [if_pos (by decide), membersOf_m hW k2.1.1 hk (by omega), Option.bind_some, if_pos rfl]
          · rw [if_neg (by decide), if_pos rfl, many_m (by omega) hk, Option.bind_some, if_neg (by decide), if_pos rfl]
          · rw [if_neg (by decide), if_neg (by decide), weightOf_m hW k2.1.1 hk (by omega), Option.bind_some, if_neg (by decide), if_neg (by decide)]
      · refine STP.ask (r := (-5 : Int32)) hG hM (ask5L hW hQ hk fun J K j1 j2 j3 => ?_) (ask6L hW hk fun J K hJ k1 k2 k3 => ?_)
        · unfold f_X5_leastCoalition
          rw [if_neg (nI_pos hr), if_neg (nI_pos (by omega)), if_pos (nI_le (by omega) (by decide)), j1, Option.bind_some, j2, Option.bind_some, if_pos (by rw [le_nI (by omega) hr]; omega)]
        · show f_X6_leastCoalition k (nI r) (nI j) J = _
          unfold f_X6_leastCoalition
          rw [if_neg (nI_pos hr), in_yes (by decide) (by decide) (by omega) (by omega) (by omega), if_neg (by decide), k1, Option.bind_some, k2.2.1, if_neg (by rw [lt_nI hr (by omega)]; exact e)]
    · refine STP.no (r := (-2 : Int32)) hG hQ hM ?_ (fun J hJ => ⟨J, ?_, FQ.rfl'⟩)
      · unfold f_X5_leastCoalition
        rw [if_neg (nI_pos hr)]
        rcases gt_of (n := 2) (by decide) hw with z | ⟨z1, z2⟩
        · rw [if_pos z]
        · rw [if_neg z1, if_neg z2]
      · show f_X6_leastCoalition k (nI r) w J = _
        unfold f_X6_leastCoalition
        rw [if_neg (nI_pos hr), in_no (by decide) (by decide) (fun i h1 h2 => hw i (by omega)), if_pos (by decide)]
def rkq (R : Nat → Int32) (v : Int32) : Nat := ff (fun m => !decide (nI (rkn R m) = v)) (nn R)
def rkA (R : Nat → Int32) (v : Int32) : Int32 := if rkq R v < nn R then nI (rkq R v) else (-5 : Int32)
theorem rkq_at {v : Int32} (h : rkq R v < nn R) : nI (rkn R (rkq R v)) = v := by
  have := ff_no (fun m => !decide (nI (rkn R m) = v)) (nn R) h
  change (!decide (nI (rkn R (rkq R v)) = v)) = false at this
  simpa using this
theorem rkq_lt {v : Int32} {m : Nat} (h : m < rkq R v) : ¬ nI (rkn R m) = v := by
  have := ff_yes _ _ _ h
  simpa using this
theorem s_ranked (hk : 2000 ≤ k) (h : RLs c I) (v : Int32) : STP c (f_X5_ranked k v I) (fun J => f_X6_ranked k v J) := by
  obtain ⟨R, st, P, kp, A, len, ch, hG, hQ, hM⟩ := h
  have hW := hG.1.1
  have hn := hW.n10
  have hle : rkq R v ≤ nn R := ff_le _ _
  by_cases hv : 0 ≤ v
  · refine STP.ask (r := rkA R v) hG hM (ask5 hW hQ hk fun J j1 j2 j3 => ?_) (ask6 hW hk fun J K hJ k1 k2 k3 => ?_)
    · unfold f_X5_ranked
      rw [if_pos hv, j1, Option.bind_some]
      refine loop0 (fun g m => f_X5_ranked_14 k J v g (nI m)) (rkq R v) _ (by omega) (fun g => ?_) (fun g m hm => ?_)
      · by_cases e : rkq R v < nn R
        · simp (disch := omega) only [f_X5_ranked_14, j2.1.1.n hW, le_nI, if_neg, rankOf_c hW j2.1.1 j3.2.2.1 hk e, Option.bind_some]
          unfold rkA
          rw [if_pos (rkq_at e), if_pos e]
        · simp (disch := omega) only [f_X5_ranked_14, j2.1.1.n hW, le_nI, if_pos]
          unfold rkA
          rw [if_neg e]
      · simp (disch := omega) only [f_X5_ranked_14, j2.1.1.n hW, le_nI, if_neg, rankOf_c hW j2.1.1 j3.2.2.1 hk (show m < nn R by omega), Option.bind_some, nI_add]
        rw [if_neg (rkq_lt hm)]
    · show f_X6_ranked k v J = _
      unfold f_X6_ranked
      rw [if_pos hv, k1, Option.bind_some]
      refine loop0 (fun g m => f_X6_ranked_13 k K v g (nI m)) (rkq R v) _ (by omega) (fun g => ?_) (fun g m hm => ?_)
      · by_cases e : rkq R v < nn R
        · simp (disch := omega) only [f_X6_ranked_13, cl_nI, k3.n hW, le_nI, if_neg, rank_m hW k3 k2 hk e, Option.bind_some]
          unfold rkA
          rw [if_pos (rkq_at e), if_pos e]
        · simp (disch := omega) only [f_X6_ranked_13, cl_nI, k3.n hW, le_nI, if_pos]
          unfold rkA
          rw [if_neg e]
      · simp (disch := omega) only [f_X6_ranked_13, cl_nI, k3.n hW, le_nI, if_neg, rank_m hW k3 k2 hk (show m < nn R by omega), Option.bind_some, nI_add]
        rw [if_neg (rkq_lt hm)]
  · refine STP.no (r := (-2 : Int32)) hG hQ hM ?_ (fun J hJ => ⟨J, ?_, FQ.rfl'⟩)
    · unfold f_X5_ranked
      rw [if_neg hv]
    · show f_X6_ranked k v J = _
      unfold f_X6_ranked
      rw [if_neg hv]
end SU
