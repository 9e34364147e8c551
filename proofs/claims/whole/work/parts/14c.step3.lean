section SR
variable {k c st : Nat} {I J K : Mem} {P : Nat → Nat → Int32} {R R' : Nat → Int32} {kp : Bool} {A : Nat → Int32} {len : Nat} {ch : Nat → Nat}
theorem QS.of (h1 : CR J R st P kp A len ch) (h2 : J 48 6 = nI 1) (h3 : PW J R) : QS J R st P kp A len ch := ⟨h1, Or.inr ⟨h2, h3⟩⟩
theorem ask5 (hW : WF R) (hQ : QS I R st P kp A len ch) (hk : 2000 ≤ k) {o : Option (Int32 × Mem)} {r : Int32} (h : ∀ J, f_X5_currentPower k I = some J → CR J R st P kp A len ch → PW J R → o = some (r, J)) : ∃ J, o = some (r, J) ∧ QS J R st P kp A len ch ∧ ∀ b, 71 ≤ b → J b = I b := by
  obtain ⟨J, j1, ⟨j2, j3, j4⟩, j5⟩ := power_eq hW hQ hk
  exact ⟨J, h J j1 j2 j4, QS.of j2 j3 j4, j5⟩
theorem ask6 (hW : WF R) (hk : 2000 ≤ k) {f : Mem → Option (Int32 × Mem)} {r : Int32} (h : ∀ J K, MR J R st P kp A len ch → f_X6_findNow k J = some K → FN K R (qq R) → RW K R → f J = some (r, K)) : ∀ J, MR J R st P kp A len ch → ∃ K, f J = some (r, K) ∧ FQ J K := by
  intro J hJ
  obtain ⟨K, k1, k2, k3⟩ := findNow_eq hW hJ.row hk
  exact ⟨K, h J K hJ k1 k2 (hJ.row.mono (k3.1 _ (by decide) (by decide))), k3⟩
theorem s_member (hk : 2000 ≤ k) (h : RLs c I) (v w : Int32) : STP c (f_X5_member k v w I) (fun J => f_X6_member k v w J) := by
  obtain ⟨R, st, P, kp, A, len, ch, hG, hQ, hM⟩ := h
  have hW := hG.1.1
  have hn := hW.n10
  have hq := hW.q500
  have hnb := nb_le hW
  have hC := hQ.1.1.1
  rcases mem_or v (nn R) with ⟨m, hm, rfl⟩ | hv
  · have hbo := bo_nb hW hm
    have hbb := bmk_lt hW m
    have hvl := vmk_lt hW
    have hin : (inB (nI m) 10 = true) = True := by rw [inBn (by omega)]; exact eq_true (by omega)
    rcases mem_or w 12 with ⟨j, hj, rfl⟩ | hw
    · rcases (by omega : j = 0 ∨ j = 1 ∨ j = 2 ∨ j = 3 ∨ j = 4 ∨ j = 5 ∨ j = 6 ∨ j = 7 ∨ j = 8 ∨ j = 9 ∨ j = 10 ∨ j = 11) with e | e | e | e | e | e | e | e | e | e | e | e <;> subst e
      · refine STP.no (r := nI (wt R m)) hG hQ hM ?_ (ask6 hW hk fun J K hJ k1 k2 k3 => ?_)
        · unfold f_X5_member
          rw [has_yes (hC.n hW) hn hm]
          rw [if_neg (by decide), if_pos rfl]
          simp (disch := omega) only [hin, cl_nI, hC.w hW hm, if_true]
        · unfold f_X6_member
          rw [noMember_yes (hJ.row.n hW) hn hm, Option.bind_some, if_pos (by decide), k1, Option.bind_some, blocOf_m hW k3 k2.1 hk hm, Option.bind_some]
          rw [if_pos rfl]
          simp (disch := omega) only [nI_add, inBn, if_pos, cl_nI, k3.w hW hm]
      · refine STP.no (r := nI (b1 (vt R m))) hG hQ hM ?_ (ask6 hW hk fun J K hJ k1 k2 k3 => ?_)
        · unfold f_X5_member
          rw [has_yes (hC.n hW) hn hm]
          rw [if_neg (by decide), if_neg (by decide), if_pos rfl]
          simp (disch := omega) only [hC.v, holds_nI, oneIf_eq, tb_vmk, hm, decide_true, Bool.true_and, if_true]
        · unfold f_X6_member
          rw [noMember_yes (hJ.row.n hW) hn hm, Option.bind_some, if_pos (by decide), k1, Option.bind_some, blocOf_m hW k3 k2.1 hk hm, Option.bind_some]
          rw [if_neg (by decide), if_pos rfl]
          simp (disch := omega) only [nI_add, inBn, if_pos, cl_nI, k3.v hW hm]
      · refine STP.no (r := nI (bl R m)) hG hQ hM ?_ (ask6 hW hk fun J K hJ k1 k2 k3 => ?_)
        · unfold f_X5_member
          rw [has_yes (hC.n hW) hn hm]
          rw [if_neg (by decide), if_neg (by decide), if_neg (by decide), if_pos rfl]
          simp (disch := omega) only [lowest_eq hW hC hk hm, Option.bind_some, if_true]
        · unfold f_X6_member
          rw [noMember_yes (hJ.row.n hW) hn hm, Option.bind_some, if_pos (by decide), k1, Option.bind_some, blocOf_m hW k3 k2.1 hk hm, Option.bind_some]
          rw [if_neg (by decide), if_neg (by decide), if_pos rfl]
          simp (disch := omega) only [nI_add, inBn, if_pos, cl_nI, k3.b hW hm]
      · refine STP.no (r := nI (wof R (bmk R m))) hG hQ hM ?_ (ask6 hW hk fun J K hJ k1 k2 k3 => ?_)
        · unfold f_X5_member
          rw [has_yes (hC.n hW) hn hm]
          rw [if_neg (by decide), if_neg (by decide), if_neg (by decide), if_neg (by decide), if_pos rfl]
          simp (disch := omega) only [hin, cl_nI, hC.b hm, weightOf_eq hW hC hk, Option.bind_some, if_true]
        · unfold f_X6_member
          rw [noMember_yes (hJ.row.n hW) hn hm, Option.bind_some, if_pos (by decide), k1, Option.bind_some, blocOf_m hW k3 k2.1 hk hm, Option.bind_some, wB_bmk hW hm]
          have e77 : K 77 (bo R m) = nI (wB R (bo R m)) := (k2.1.2.2.1 _ hbo).1
          rw [if_neg (by decide), if_neg (by decide), if_neg (by decide), if_pos rfl]
          simp (disch := omega) only [inBn, if_pos, cl_nI, e77]
      · refine STP.no (r := nI (ld R m)) hG hQ hM ?_ (ask6 hW hk fun J K hJ k1 k2 k3 => ?_)
        · unfold f_X5_member
          rw [has_yes (hC.n hW) hn hm]
          rw [if_neg (by decide), if_neg (by decide), if_neg (by decide), if_neg (by decide), if_neg (by decide), if_pos rfl]
          simp (disch := omega) only [leaderOf_eq hW hC hk hm, Option.bind_some, if_true]
        · unfold f_X6_member
          rw [noMember_yes (hJ.row.n hW) hn hm, Option.bind_some, if_pos (by decide), k1, Option.bind_some, blocOf_m hW k3 k2.1 hk hm, Option.bind_some]
          rw [if_neg (by decide), if_neg (by decide), if_neg (by decide), if_neg (by decide), if_pos rfl]
          simp (disch := omega) only [leader_m hW k3 hk hm, Option.bind_some]
      · refine STP.ask (r := nI (swB R (qq R) (bo R m))) hG hM (ask5 hW hQ hk fun J j1 j2 j3 => ?_) (ask6 hW hk fun J K hJ k1 k2 k3 => ?_)
        · unfold f_X5_member
          rw [has_yes (hC.n hW) hn hm]
          rw [if_neg (by decide), if_neg (by decide), if_neg (by decide), if_neg (by decide), if_neg (by decide), if_neg (by decide), if_pos rfl]
          simp (disch := omega) only [j1, Option.bind_some, j2.1.1.q hW, swings_c hW j3.2.2.1 hm hq, if_true]
        · unfold f_X6_member
          rw [noMember_yes (hJ.row.n hW) hn hm, Option.bind_some, if_pos (by decide), k1, Option.bind_some, blocOf_m hW k3 k2.1 hk hm, Option.bind_some]
          rw [if_neg (by decide), if_neg (by decide), if_neg (by decide), if_neg (by decide), if_neg (by decide), if_pos rfl]
          simp (disch := omega) only [inBn, if_pos, cl_nI, k2.2.2.1 _ hbo]
      · refine STP.ask (r := nI (ordB R (qq R) (bo R m))) hG hM (ask5 hW hQ hk fun J j1 j2 j3 => ?_) (ask6 hW hk fun J K hJ k1 k2 k3 => ?_)
        · unfold f_X5_member
          rw [has_yes (hC.n hW) hn hm]
          rw [if_neg (by decide), if_neg (by decide), if_neg (by decide), if_neg (by decide), if_neg (by decide), if_neg (by decide), if_neg (by decide), if_pos rfl]
          simp (disch := omega) only [j1, Option.bind_some, orders_c hW j3.1 j3.2.1 hk hm, if_true]
        · unfold f_X6_member
          rw [noMember_yes (hJ.row.n hW) hn hm, Option.bind_some, if_pos (by decide), k1, Option.bind_some, blocOf_m hW k3 k2.1 hk hm, Option.bind_some]
          rw [if_neg (by decide), if_neg (by decide), if_neg (by decide), if_neg (by decide), if_neg (by decide), if_neg (by decide), if_pos rfl]
          simp (disch := omega) only [orders_m hW k2 hk hbo, Option.bind_some]
      · refine STP.ask (r := nI (b1 (swB R (qq R) (bo R m) == 0))) hG hM (ask5 hW hQ hk fun J j1 j2 j3 => ?_) (ask6 hW hk fun J K hJ k1 k2 k3 => ?_)
        · unfold f_X5_member
          rw [has_yes (hC.n hW) hn hm]
          rw [if_neg (by decide), if_neg (by decide), if_neg (by decide), if_neg (by decide), if_neg (by decide), if_neg (by decide), if_neg (by decide), if_neg (by decide), if_pos rfl]
          simp (disch := omega) only [j1, Option.bind_some, j2.1.1.q hW, isDummy_c hW j3.2.2.1 hm hq, oneIf_eq, if_true]
        · unfold f_X6_member
          rw [noMember_yes (hJ.row.n hW) hn hm, Option.bind_some, if_pos (by decide), k1, Option.bind_some, blocOf_m hW k3 k2.1 hk hm, Option.bind_some]
          have hs := swB_le hW (qq R) (bo R m)
          rw [if_neg (by decide), if_neg (by decide), if_neg (by decide), if_neg (by decide), if_neg (by decide), if_neg (by decide), if_neg (by decide), if_pos rfl]
          simp (disch := omega) only [inBn, if_pos, cl_nI, k2.2.2.1 _ hbo, eq0_nI]
          by_cases z : swB R (qq R) (bo R m) = 0 <;> simp [z, b1]
      · refine STP.ask (r := nI (b1 (blkB R (qq R) (bo R m)))) hG hM (ask5 hW hQ hk fun J j1 j2 j3 => ?_) (ask6 hW hk fun J K hJ k1 k2 k3 => ?_)
        · unfold f_X5_member
          rw [has_yes (hC.n hW) hn hm]
          rw [if_neg (by decide), if_neg (by decide), if_neg (by decide), if_neg (by decide), if_neg (by decide), if_neg (by decide), if_neg (by decide), if_neg (by decide), if_neg (by decide), if_pos rfl]
          simp (disch := omega) only [j1, Option.bind_some, j2.1.1.q hW, isBlocker_c hW j3.2.2.1 hm hq, oneIf_eq, if_true]
        · unfold f_X6_member
          rw [noMember_yes (hJ.row.n hW) hn hm, Option.bind_some, if_pos (by decide), k1, Option.bind_some, blocOf_m hW k3 k2.1 hk hm, Option.bind_some]
          rw [if_neg (by decide), if_neg (by decide), if_neg (by decide), if_neg (by decide), if_neg (by decide), if_neg (by decide), if_neg (by decide), if_neg (by decide), if_pos rfl]
          simp (disch := omega) only [isBlocker_m hW k2 hbo, Option.bind_some, b1_0]
          cases blkB R (qq R) (bo R m) <;> simp [b1]
      · refine STP.ask (r := nI (b1 (dicB R (bo R m)))) hG hM (ask5 hW hQ hk fun J j1 j2 j3 => ?_) (ask6 hW hk fun J K hJ k1 k2 k3 => ?_)
        · unfold f_X5_member
          rw [has_yes (hC.n hW) hn hm]
          rw [if_neg (by decide), if_neg (by decide), if_neg (by decide), if_neg (by decide), if_neg (by decide), if_neg (by decide), if_neg (by decide), if_neg (by decide), if_neg (by decide), if_neg (by decide), if_pos rfl]
          simp (disch := omega) only [j1, Option.bind_some, isDictator_c hW j3.1 j3.2.2.1 hk hm, oneIf_eq, if_true]
        · unfold f_X6_member
          rw [noMember_yes (hJ.row.n hW) hn hm, Option.bind_some, if_pos (by decide), k1, Option.bind_some, blocOf_m hW k3 k2.1 hk hm, Option.bind_some]
          rw [if_neg (by decide), if_neg (by decide), if_neg (by decide), if_neg (by decide), if_neg (by decide), if_neg (by decide), if_neg (by decide), if_neg (by decide), if_neg (by decide), if_pos rfl]
          simp (disch := omega) only [isDictator_m hW k2 hk hbo, Option.bind_some, b1_0]
          cases dicB R (bo R m) <;> simp [b1]
      · refine STP.ask (r := nI (rkn R m)) hG hM (ask5 hW hQ hk fun J j1 j2 j3 => ?_) (ask6 hW hk fun J K hJ k1 k2 k3 => ?_)
        · unfold f_X5_member
          rw [has_yes (hC.n hW) hn hm]
          rw [if_neg (by decide), if_neg (by decide), if_neg (by decide), if_neg (by decide), if_neg (by decide), if_neg (by decide), if_neg (by decide), if_neg (by decide), if_neg (by decide), if_neg (by decide), if_neg (by decide), if_pos rfl]
          simp (disch := omega) only [j1, Option.bind_some, rankOf_c hW j2.1.1 j3.2.2.1 hk hm, if_true]
        · unfold f_X6_member
          rw [noMember_yes (hJ.row.n hW) hn hm, Option.bind_some, if_pos (by decide), k1, Option.bind_some, blocOf_m hW k3 k2.1 hk hm, Option.bind_some]
          rw [if_neg (by decide), if_neg (by decide), if_neg (by decide), if_neg (by decide), if_neg (by decide), if_neg (by decide), if_neg (by decide), if_neg (by decide), if_neg (by decide), if_neg (by decide), if_pos rfl]
          simp (disch := omega) only [rank_m hW k3 k2 hk hm, Option.bind_some]
      · refine STP.no (r := R (59 + m)) hG hQ hM ?_ (ask6 hW hk fun J K hJ k1 k2 k3 => ?_)
        · unfold f_X5_member
          rw [has_yes (hC.n hW) hn hm]
          rw [if_neg (by decide), if_neg (by decide), if_neg (by decide), if_neg (by decide), if_neg (by decide), if_neg (by decide), if_neg (by decide), if_neg (by decide), if_neg (by decide), if_neg (by decide), if_neg (by decide), if_neg (by decide), if_pos rfl]
          simp (disch := omega) only [hin, cl_nI, hQ.1.1.2.1 m hm, if_true]
        · unfold f_X6_member
          rw [noMember_yes (hJ.row.n hW) hn hm, Option.bind_some, if_pos (by decide), k1, Option.bind_some, blocOf_m hW k3 k2.1 hk hm, Option.bind_some]
          rw [if_neg (by decide), if_neg (by decide), if_neg (by decide), if_neg (by decide), if_neg (by decide), if_neg (by decide), if_neg (by decide), if_neg (by decide), if_neg (by decide), if_neg (by decide), if_neg (by decide), if_pos rfl]
          simp (disch := omega) only [nI_add, inBn, if_pos, cl_nI, k3 (59 + m) (by omega)]
    · have hne : ∀ j, j < 12 → (w = nI j) = False := fun j hj => eq_false (hw j hj)
      refine STP.no (r := (-2 : Int32)) hG hQ hM ?_ (ask6 hW hk fun J K hJ k1 k2 k3 => ?_)
      · unfold f_X5_member
        rw [has_yes (hC.n hW) hn hm, if_neg (by decide)]
        rw [if_neg (hw 0 (by decide)), if_neg (hw 1 (by decide)), if_neg (hw 2 (by decide)), if_neg (hw 3 (by decide)), if_neg (hw 4 (by decide)), if_neg (hw 5 (by decide)), if_neg (hw 6 (by decide)), if_neg (hw 7 (by decide)), if_neg (hw 8 (by decide)), if_neg (hw 9 (by decide)), if_neg (hw 10 (by decide)), if_neg (hw 11 (by decide))]
      · unfold f_X6_member
        rw [noMember_yes (hJ.row.n hW) hn hm, Option.bind_some, if_pos (by decide), k1, Option.bind_some, blocOf_m hW k3 k2.1 hk hm, Option.bind_some]
        rw [if_neg (hw 0 (by decide)), if_neg (hw 1 (by decide)), if_neg (hw 2 (by decide)), if_neg (hw 3 (by decide)), if_neg (hw 4 (by decide)), if_neg (hw 5 (by decide)), if_neg (hw 6 (by decide)), if_neg (hw 7 (by decide)), if_neg (hw 8 (by decide)), if_neg (hw 9 (by decide)), if_neg (hw 10 (by decide)), if_neg (hw 11 (by decide))]
  · refine STP.no (r := (-1 : Int32)) hG hQ hM ?_ (fun J hJ => ⟨J, ?_, FQ.rfl'⟩)
    · unfold f_X5_member
      rw [has_no (hC.n hW) hn hv, if_pos (by decide)]
    · unfold f_X6_member
      rw [noMember_no (hJ.row.n hW) hn hv, Option.bind_some, if_neg (by decide)]
end SR
