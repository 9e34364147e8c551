section SV
variable {k c st : Nat} {I J K : Mem} {P : Nat → Nat → Int32} {R R' : Nat → Int32} {kp : Bool} {A : Nat → Int32} {len : Nat} {ch : Nat → Nat}
theorem ask6q (hW : WF R) (hk : 2000 ≤ k) {q : Nat} (hq : q < 1000) {f : Mem → Option (Int32 × Mem)} {r : Int32} (h : ∀ J K, MR J R st P kp A len ch → f_X6_find k (nI q) J = some K → FN K R q → RW K R → f J = some (r, K)) : ∀ J, MR J R st P kp A len ch → ∃ K, f J = some (r, K) ∧ FQ J K := by
  intro J hJ
  obtain ⟨K, k1, k2, k3⟩ := find_eq hW hJ.row hk hq
  exact ⟨K, h J K hJ k1 k2 (hJ.row.mono (k3.1 _ (by decide) (by decide))), k3⟩
theorem s_withQuota (hk : 2000 ≤ k) (h : RLs c I) (v w : Int32) : STP c (f_X5_withQuota k v w I) (fun J => f_X6_withQuota k v w J) := by
  obtain ⟨R, st, P, kp, A, len, ch, hG, hQ, hM⟩ := h
  have hW := hG.1.1
  rcases quo_or v with ⟨q, q1, q2, rfl⟩ | hv
  · rcases mem_or w 4 with ⟨j, hj, rfl⟩ | hw
    · rcases (by omega : j = 0 ∨ j = 1 ∨ j = 2 ∨ j = 3) with e | e | e | e <;> subst e
      · refine STP.ask (r := nI (cnt (nb R) (fun b => swB R q b == 0))) hG hM (ask5 hW hQ hk fun J j1 j2 j3 => ?_) (ask6q hW hk (q := q) (by omega) fun J K hJ k1 k2 k3 => ?_)
        · unfold f_X5_withQuota
          rw [isQuota_yes q1 q2, if_neg (by decide), if_pos rfl, j1, Option.bind_some, dummies_c hW j3.1 j3.2.2.1 hk q2, Option.bind_some]
        · show f_X6_withQuota k _ _ J = _
          unfold f_X6_withQuota
          rw [in_yes (by decide) (by decide) (by omega) q1 q2, if_neg (by decide), in_yes (by decide) (by decide) (by omega) (by omega) (by omega), if_neg (by decide), k1, Option.bind_some, if_pos (by decide), dummies_m hW k2 hk, Option.bind_some]
      · refine STP.ask (r := nI (cnt (nb R) (blkB R q))) hG hM (ask5 hW hQ hk fun J j1 j2 j3 => ?_) (ask6q hW hk (q := q) (by omega) fun J K hJ k1 k2 k3 => ?_)
        · unfold f_X5_withQuota
          rw [isQuota_yes q1 q2, if_neg (by decide), if_neg (by decide), if_pos rfl, j1, Option.bind_some, blockers_c hW j3.1 j3.2.2.1 hk q2, Option.bind_some]
        · show f_X6_withQuota k _ _ J = _
          unfold f_X6_withQuota
          rw [in_yes (by decide) (by decide) (by omega) q1 q2, if_neg (by decide), in_yes (by decide) (by decide) (by omega) (by omega) (by omega), if_neg (by decide), k1, Option.bind_some, if_neg (by decide), if_pos rfl, blockers_m hW k2 hk, Option.bind_some]
      · refine STP.ask (r := nI (sm (nb R) (swB R q))) hG hM (ask5 hW hQ hk fun J j1 j2 j3 => ?_) (ask6q hW hk (q := q) (by omega) fun J K hJ k1 k2 k3 => ?_)
        · unfold f_X5_withQuota
          rw [isQuota_yes q1 q2, if_neg (by decide), if_neg (by decide), if_neg (by decide), if_pos rfl, j1, Option.bind_some, swAll_c hW j3.1 j3.2.2.1 hk q2, Option.bind_some]
        · show f_X6_withQuota k _ _ J = _
          unfold f_X6_withQuota
          rw [in_yes (by decide) (by decide) (by omega) q1 q2, if_neg (by decide), in_yes (by decide) (by decide) (by omega) (by omega) (by omega), if_neg (by decide), k1, Option.bind_some, if_neg (by decide), if_neg (by decide), if_pos rfl, k2.2.2.2]
      · refine STP.ask (r := nI (cnt (2 ^ nb R) (ww R q))) hG hM (ask5 hW hQ hk fun J j1 j2 j3 => ?_) (ask6q hW hk (q := q) (by omega) fun J K hJ k1 k2 k3 => ?_)
        · unfold f_X5_withQuota
          rw [isQuota_yes q1 q2, if_neg (by decide), if_neg (by decide), if_neg (by decide), if_neg (by decide), if_pos rfl, j1, Option.bind_some, winC_c j3.2.2.1 q2, Option.bind_some]
        · show f_X6_withQuota k _ _ J = _
          unfold f_X6_withQuota
          rw [in_yes (by decide) (by decide) (by omega) q1 q2, if_neg (by decide), in_yes (by decide) (by decide) (by omega) (by omega) (by omega), if_neg (by decide), k1, Option.bind_some, if_neg (by decide), if_neg (by decide), if_neg (by decide), winning_m hW k2 hk, Option.bind_some]
    · refine STP.no (r := (-2 : Int32)) hG hQ hM ?_ (fun J hJ => ⟨J, ?_, FQ.rfl'⟩)
      · unfold f_X5_withQuota
        rw [isQuota_yes q1 q2, if_neg (by decide), if_neg (hw 0 (by decide)), if_neg (hw 1 (by decide)), if_neg (hw 2 (by decide)), if_neg (hw 3 (by decide))]
      · show f_X6_withQuota k _ w J = _
        unfold f_X6_withQuota
        rw [in_yes (by decide) (by decide) (by omega) q1 q2, if_neg (by decide), in_no (by decide) (by decide) (fun i h1 h2 => hw i (by omega)), if_pos (by decide)]
  · refine STP.no (r := (-2 : Int32)) hG hQ hM ?_ (fun J hJ => ⟨J, ?_, FQ.rfl'⟩)
    · unfold f_X5_withQuota
      rw [isQuota_no hv, if_pos (by decide)]
    · show f_X6_withQuota k v w J = _
      unfold f_X6_withQuota
      rw [in_no (by decide) (by decide) hv, if_pos (by decide)]
theorem s_leavesOut (hk : 2000 ≤ k) (h : RLs c I) (v w : Int32) : STP c (f_X5_leavesOut k v w I) (fun J => f_X6_leavesOut k v w J) := by
  obtain ⟨R, st, P, kp, A, len, ch, hG, hQ, hM⟩ := h
  have hW := hG.1.1
  have hn := hW.n10
  have h10 := pow10 hn
  have hC := hQ.1.1.1
  rcases mem_or v (nn R) with ⟨m, hm, rfl⟩ | hv
  · rcases quo_or w with ⟨q, q1, q2, rfl⟩ | hw
    · refine STP.ask (r := lvr R m q) hG hM (ask5 hW hQ hk fun J j1 j2 j3 => ?_) (fun J hJ => ?_)
      · unfold f_X5_leavesOut
        rw [has_yes (hC.n hW) hn hm, if_neg (by decide), isQuota_yes q1 q2, if_neg (by decide), j1, Option.bind_some, everyone_eq j2.1.1 hW, weightOf_eq hW j2.1.1 hk (by omega), Option.bind_some, aW_all hW]
        exact leaves_c hW j3.2.2.1 hk hm q2
      · obtain ⟨K, k1, k2⟩ := leaves_m (k := k) hW hJ.row hk hm q2
        refine ⟨K, ?_, k2⟩
        show f_X6_leavesOut k _ _ J = _
        unfold f_X6_leavesOut
        rw [noMember_yes (hJ.row.n hW) hn hm, Option.bind_some, if_pos (by decide), in_yes (by decide) (by decide) (by omega) q1 q2, if_neg (by decide), show f_X6_allWeights k J = some (nI (aW R)) from allWeights_m hW hJ.row hk, Option.bind_some]
        exact k1
    · refine STP.no (r := (-2 : Int32)) hG hQ hM ?_ (fun J hJ => ⟨J, ?_, FQ.rfl'⟩)
      · unfold f_X5_leavesOut
        rw [has_yes (hC.n hW) hn hm, if_neg (by decide), isQuota_no hw, if_pos (by decide)]
      · show f_X6_leavesOut k _ w J = _
        unfold f_X6_leavesOut
        rw [noMember_yes (hJ.row.n hW) hn hm, Option.bind_some, if_pos (by decide), in_no (by decide) (by decide) hw, if_pos (by decide)]
  · refine STP.no (r := (-1 : Int32)) hG hQ hM ?_ (fun J hJ => ⟨J, ?_, FQ.rfl'⟩)
    · unfold f_X5_leavesOut
      rw [has_no (hC.n hW) hn hv, if_pos (by decide)]
    · show f_X6_leavesOut k v w J = _
      unfold f_X6_leavesOut
      rw [noMember_no (hJ.row.n hW) hn hv, Option.bind_some, if_neg (by decide)]
theorem s_fairest (hk : 2000 ≤ k) (h : RLs c I) : STP c (f_X5_fairest k I) (fun J => f_X6_fairest k J) := by
  obtain ⟨R, st, P, kp, A, len, ch, hG, hQ, hM⟩ := h
  have hW := hG.1.1
  have hn := hW.n10
  have h10 := pow10 hn
  have hC := hQ.1.1.1
  have ha := aW_le hW
  by_cases e : aW R = 0
  · refine STP.no (r := (-5 : Int32)) hG hQ hM ?_ (fun J hJ => ?_)
    · unfold f_X5_fairest
      rw [everyone_eq hC hW, weightOf_eq hW hC hk (by omega), Option.bind_some, aW_all hW, if_pos (by rw [e]; decide)]
    · obtain ⟨K, k1, k2⟩ := fair_m hW hJ.row hk
      rw [if_pos e] at k1
      exact ⟨K, k1, k2⟩
  · refine STP.ask (r := nI (fb R (aW R))) hG hM (ask5 hW hQ hk fun J j1 j2 j3 => ?_) (fun J hJ => ?_)
    · unfold f_X5_fairest
      rw [everyone_eq hC hW, weightOf_eq hW hC hk (by omega), Option.bind_some, aW_all hW, if_neg (by rw [eq0_nI (by omega)]; exact e), j1, Option.bind_some]
      exact fair_c hW j3.1 j3.2.1 j3.2.2.1 hk (by omega)
    · obtain ⟨K, k1, k2⟩ := fair_m hW hJ.row hk
      rw [if_neg e] at k1
      exact ⟨K, k1, k2⟩
theorem s_ballot (h : RLs c I) (v w : Int32) : ∃ r, f_X5_ballot k v w I = some r ∧ f_X6_ballot k v w I = some r ∧ RLs (c + 1) I := by
  obtain ⟨R, st, P, kp, A, len, ch, hG, hQ, hM⟩ := h
  have hW := hG.1.1
  have hR : RLs (c + 1) I := ⟨R, st, P, kp, A, len, ch, hG.up, hQ, hM⟩
  have hb := hQ.1.1.2.2
  have h2 := hW.h2
  unfold f_X5_ballot f_X6_ballot
  rcases int_cases v with hv | ⟨r, hr, rfl⟩
  · refine ⟨(-2 : Int32), ?_, ?_, hR⟩
    · rw [if_pos hv]
    · rw [if_pos hv]
  · rw [if_neg (nI_pos hr)]
    rcases mem_or w 3 with ⟨j, hj, rfl⟩ | hw
    · have e4 : I 72 4 = nI (min 8 (hd R)) := (hM.1 4 (by decide)).trans hW.r4
      have e0 : I (8 * 0 + 4) 0 = nI (hd R) := hb.1.1.trans hW.r2
      have hmin : min 8 (hd R) ≤ 8 := Nat.min_le_left _ _
      by_cases c1 : r < min 8 (hd R)
      · have er : ∀ i, i < 3 → I 72 (5 + 3 * r + i) = R (5 + 3 * r + i) := fun i hi => hM.1 _ (by omega)
        obtain ⟨b0, b1', b2⟩ := hb.2 r (by omega)
        refine ⟨R (5 + 3 * r + j), ?_, ?_, hR⟩
        · rw [if_neg (nI_pos (by omega)), if_pos (nI_le (by omega) (by decide)), e0, if_neg (by rw [le_nI (by decide) hr]; omega), if_pos (by rw [lt_nI hr (by omega)]; omega)]
          rcases (by omega : j = 0 ∨ j = 1 ∨ j = 2) with e | e | e <;> subst e
          · rw [if_pos rfl, if_pos (by rw [inBn hr]; omega), cl_nI hr, b0]
            rfl
          · rw [if_neg (by decide), if_pos rfl, if_pos (by rw [inBn hr]; omega), cl_nI hr, b1']
            exact congrArg some (congrArg R (by omega))
          · rw [if_neg (by decide), if_neg (by decide), if_pos (by rw [inBn hr]; omega), cl_nI hr, b2]
            exact congrArg some (congrArg R (by omega))
        · rw [if_neg (nI_pos hr), in_yes (by decide) (by decide) (by omega) (by omega) (by omega), if_neg (by decide), cl_nI (by decide), e4, if_neg (by rw [le_nI (by omega) hr]; omega), mul_nI, nI_add, nI_add, if_pos (by rw [inBn (by omega)]; omega), cl_nI (by omega), er j hj]
      · refine ⟨(-5 : Int32), ?_, ?_, hR⟩
        · rw [if_neg (nI_pos (by omega)), if_pos (nI_le (by omega) (by decide)), e0]
          by_cases c2 : 8 ≤ r
          · rw [if_pos (by rw [le_nI (by decide) hr]; exact c2)]
          · rw [if_neg (by rw [le_nI (by decide) hr]; exact c2), if_neg (by rw [lt_nI hr (by omega)]; omega)]
        · rw [if_neg (nI_pos hr), in_yes (by decide) (by decide) (by omega) (by omega) (by omega), if_neg (by decide), cl_nI (by decide), e4, if_pos (by rw [le_nI (by omega) hr]; omega)]
    · refine ⟨(-2 : Int32), ?_, ?_, hR⟩
      · rcases gt_of (n := 2) (by decide) hw with z | ⟨z1, z2⟩
        · rw [if_pos z]
        · rw [if_neg z1, if_neg z2]
      · rw [if_neg (nI_pos hr), in_no (by decide) (by decide) (fun i h1 h2 => hw i (by omega)), if_pos (by decide)]
theorem s_count (hk : 2000 ≤ k) (h : RLs c I) (w : Int32) : STP c (f_X5_count k w I) (fun J => f_X6_count k w J) := by
  obtain ⟨R, st, P, kp, A, len, ch, hG, hQ, hM⟩ := h
  have hW := hG.1.1
  have hn := hW.n10
  have hq := hW.q500
  have h10 := pow10 hn
  have hC := hQ.1.1.1
  have hvl := vmk_lt hW
  rcases mem_or w 13 with ⟨j, hj, rfl⟩ | hw
  · rcases (by omega : j = 0 ∨ j = 1 ∨ j = 2 ∨ j = 3 ∨ j = 4 ∨ j = 5 ∨ j = 6 ∨ j = 7 ∨ j = 8 ∨ j = 9 ∨ j = 10 ∨ j = 11 ∨ j = 12) with e | e | e | e | e | e | e | e | e | e | e | e | e <;> subst e
    · refine STP.no (r := nI (nn R)) hG hQ hM ?_ (ask6L hW hk fun J K hJ k1 k2 k3 => ?_)
      · unfold f_X5_count
        rw [if_pos rfl, hC.n hW]
      · show f_X6_count k _ J = _
        unfold f_X6_count
        rw [k1, Option.bind_some, if_pos rfl, cl_nI (by decide), k3.row.n hW]
    · refine STP.no (r := nI (nb R)) hG hQ hM ?_ (ask6L hW hk fun J K hJ k1 k2 k3 => ?_)
      · unfold f_X5_count
        rw [if_neg (by decide), if_pos rfl, blocCount_eq hW hC hk, Option.bind_some]
      · show f_X6_count k _ J = _
        unfold f_X6_count
        rw [k1, Option.bind_some, if_neg (by decide), if_pos rfl, k2.1.1.nb]
    · refine STP.no (r := nI (qq R)) hG hQ hM ?_ (ask6L hW hk fun J K hJ k1 k2 k3 => ?_)
      · unfold f_X5_count
        rw [if_neg (by decide), if_neg (by decide), if_pos rfl, hC.q hW]
      · show f_X6_count k _ J = _
        unfold f_X6_count
        rw [k1, Option.bind_some, if_neg (by decide), if_neg (by decide), if_pos rfl, cl_nI (by decide), k3.row.q hW]
    · refine STP.no (r := nI (aW R)) hG hQ hM ?_ (ask6L hW hk fun J K hJ k1 k2 k3 => ?_)
      · unfold f_X5_count
        rw [if_neg (by decide), if_neg (by decide), if_neg (by decide), if_pos rfl, everyone_eq hC hW, weightOf_eq hW hC hk (by omega), Option.bind_some, aW_all hW]
      · show f_X6_count k _ J = _
        unfold f_X6_count
        rw [k1, Option.bind_some, if_neg (by decide), if_neg (by decide), if_neg (by decide), if_pos rfl, show f_X6_allWeights k K = some (nI (aW R)) from allWeights_m hW k3.row hk, Option.bind_some]
    · refine STP.ask (r := nI (cnt (2 ^ nb R) (ww R (qq R)))) hG hM (ask5 hW hQ hk fun J j1 j2 j3 => ?_) (ask6L hW hk fun J K hJ k1 k2 k3 => ?_)
      · unfold f_X5_count
        rw [if_neg (by decide), if_neg (by decide), if_neg (by decide), if_neg (by decide), if_pos rfl, j1, Option.bind_some, j2.1.1.q hW, winC_c j3.2.2.1 hq, Option.bind_some]
      · show f_X6_count k _ J = _
        unfold f_X6_count
        rw [k1, Option.bind_some, if_neg (by decide), if_neg (by decide), if_neg (by decide), if_neg (by decide), if_pos rfl, winning_m hW k2.1 hk, Option.bind_some]
    · refine STP.ask (r := nI (lc R (2 ^ nb R))) hG hM (ask5L hW hQ hk fun J K j1 j2 j3 => ?_) (ask6L hW hk fun J K hJ k1 k2 k3 => ?_)
      · unfold f_X5_count
        rw [if_neg (by decide), if_neg (by decide), if_neg (by decide), if_neg (by decide), if_neg (by decide), if_pos rfl, j1, Option.bind_some, j2, Option.bind_some]
      · show f_X6_count k _ J = _
        unfold f_X6_count
        rw [k1, Option.bind_some, if_neg (by decide), if_neg (by decide), if_neg (by decide), if_neg (by decide), if_neg (by decide), if_pos rfl, k2.2.1]
    · refine STP.ask (r := nI (sm (nb R) (swB R (qq R)))) hG hM (ask5 hW hQ hk fun J j1 j2 j3 => ?_) (ask6L hW hk fun J K hJ k1 k2 k3 => ?_)
      · unfold f_X5_count
        rw [if_neg (by decide), if_neg (by decide), if_neg (by decide), if_neg (by decide), if_neg (by decide), if_neg (by decide), if_pos rfl, j1, Option.bind_some, j2.1.1.q hW, swAll_c hW j3.1 j3.2.2.1 hk hq, Option.bind_some]
      · show f_X6_count k _ J = _
        unfold f_X6_count
        rw [k1, Option.bind_some, if_neg (by decide), if_neg (by decide), if_neg (by decide), if_neg (by decide), if_neg (by decide), if_neg (by decide), if_pos rfl, k2.1.2.2.2]
    · refine STP.ask (r := nI (cnt (nb R) (fun b => swB R (qq R) b == 0))) hG hM (ask5 hW hQ hk fun J j1 j2 j3 => ?_) (ask6L hW hk fun J K hJ k1 k2 k3 => ?_)
      · unfold f_X5_count
        rw [if_neg (by decide), if_neg (by decide), if_neg (by decide), if_neg (by decide), if_neg (by decide), if_neg (by decide), if_neg (by decide), if_pos rfl, j1, Option.bind_some, j2.1.1.q hW, dummies_c hW j3.1 j3.2.2.1 hk hq, Option.bind_some]
      · show f_X6_count k _ J = _
        unfold f_X6_count
        rw [k1, Option.bind_some, if_neg (by decide), if_neg (by decide), if_neg (by decide), if_neg (by decide), if_neg (by decide), if_neg (by decide), if_neg (by decide), if_pos rfl, dummies_m hW k2.1 hk, Option.bind_some]
    · refine STP.no (r := nI (cnt (nn R) (vt R))) hG hQ hM ?_ (ask6L hW hk fun J K hJ k1 k2 k3 => ?_)
      · unfold f_X5_count
        rw [if_neg (by decide), if_neg (by decide), if_neg (by decide), if_neg (by decide), if_neg (by decide), if_neg (by decide), if_neg (by decide), if_neg (by decide), if_pos rfl, hC.v, bitCount_eq hvl, show pop (vmk R) = cnt (nn R) (vt R) from pop_msk hn _]
      · show f_X6_count k _ J = _
        unfold f_X6_count
        rw [k1, Option.bind_some, if_neg (by decide), if_neg (by decide), if_neg (by decide), if_neg (by decide), if_neg (by decide), if_neg (by decide), if_neg (by decide), if_neg (by decide), if_pos rfl, withVeto_eq k3.row hW hk, Option.bind_some]
    · refine STP.no (r := R 2) hG hQ hM ?_ (ask6L hW hk fun J K hJ k1 k2 k3 => ?_)
      · unfold f_X5_count
        rw [if_neg (by decide), if_neg (by decide), if_neg (by decide), if_neg (by decide), if_neg (by decide), if_neg (by decide), if_neg (by decide), if_neg (by decide), if_neg (by decide), if_pos rfl, hQ.1.1.2.2.1.1]
      · show f_X6_count k _ J = _
        unfold f_X6_count
        rw [k1, Option.bind_some, if_neg (by decide), if_neg (by decide), if_neg (by decide), if_neg (by decide), if_neg (by decide), if_neg (by decide), if_neg (by decide), if_neg (by decide), if_neg (by decide), if_pos rfl, cl_nI (by decide), k3.1 2 (by decide)]
    · refine STP.no (r := R 3) hG hQ hM ?_ (ask6L hW hk fun J K hJ k1 k2 k3 => ?_)
      · unfold f_X5_count
        rw [if_neg (by decide), if_neg (by decide), if_neg (by decide), if_neg (by decide), if_neg (by decide), if_neg (by decide), if_neg (by decide), if_neg (by decide), if_neg (by decide), if_neg (by decide), if_pos rfl, hQ.1.1.2.2.1.2]
      · show f_X6_count k _ J = _
        unfold f_X6_count
        rw [k1, Option.bind_some, if_neg (by decide), if_neg (by decide), if_neg (by decide), if_neg (by decide), if_neg (by decide), if_neg (by decide), if_neg (by decide), if_neg (by decide), if_neg (by decide), if_neg (by decide), if_pos rfl, cl_nI (by decide), k3.1 3 (by decide)]
    · refine STP.no (r := nI st) hG hQ hM ?_ (ask6L hW hk fun J K hJ k1 k2 k3 => ?_)
      · unfold f_X5_count
        rw [if_neg (by decide), if_neg (by decide), if_neg (by decide), if_neg (by decide), if_neg (by decide), if_neg (by decide), if_neg (by decide), if_neg (by decide), if_neg (by decide), if_neg (by decide), if_neg (by decide), if_pos rfl, hQ.1.2.1.1]
      · show f_X6_count k _ J = _
        unfold f_X6_count
        rw [k1, Option.bind_some, if_neg (by decide), if_neg (by decide), if_neg (by decide), if_neg (by decide), if_neg (by decide), if_neg (by decide), if_neg (by decide), if_neg (by decide), if_neg (by decide), if_neg (by decide), if_neg (by decide), if_pos rfl, k3.2.1.1]
    · refine STP.no (r := nI len) hG hQ hM ?_ (ask6L hW hk fun J K hJ k1 k2 k3 => ?_)
      · unfold f_X5_count
        rw [if_neg (by decide), if_neg (by decide), if_neg (by decide), if_neg (by decide), if_neg (by decide), if_neg (by decide), if_neg (by decide), if_neg (by decide), if_neg (by decide), if_neg (by decide), if_neg (by decide), if_neg (by decide), if_pos rfl, hQ.1.2.2.2.1]
      · show f_X6_count k _ J = _
        unfold f_X6_count
        rw [k1, Option.bind_some, if_neg (by decide), if_neg (by decide), if_neg (by decide), if_neg (by decide), if_neg (by decide), if_neg (by decide), if_neg (by decide), if_neg (by decide), if_neg (by decide), if_neg (by decide), if_neg (by decide), if_neg (by decide), if_pos rfl, k3.2.2.2.1]
  · refine STP.no (r := (-2 : Int32)) hG hQ hM ?_ (ask6L hW hk fun J K hJ k1 k2 k3 => ?_)
    · unfold f_X5_count
      rw [if_neg (hw 0 (by decide)), if_neg (hw 1 (by decide)), if_neg (hw 2 (by decide)), if_neg (hw 3 (by decide)), if_neg (hw 4 (by decide)), if_neg (hw 5 (by decide)), if_neg (hw 6 (by decide)), if_neg (hw 7 (by decide)), if_neg (hw 8 (by decide)), if_neg (hw 9 (by decide)), if_neg (hw 10 (by decide)), if_neg (hw 11 (by decide)), if_neg (hw 12 (by decide))]
    · show f_X6_count k w J = _
      unfold f_X6_count
      rw [k1, Option.bind_some, if_neg (hw 0 (by decide)), if_neg (hw 1 (by decide)), if_neg (hw 2 (by decide)), if_neg (hw 3 (by decide)), if_neg (hw 4 (by decide)), if_neg (hw 5 (by decide)), if_neg (hw 6 (by decide)), if_neg (hw 7 (by decide)), if_neg (hw 8 (by decide)), if_neg (hw 9 (by decide)), if_neg (hw 10 (by decide)), if_neg (hw 11 (by decide)), if_neg (hw 12 (by decide))]
end SV
