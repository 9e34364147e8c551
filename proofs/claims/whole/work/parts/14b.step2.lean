section SQ
variable {k c st : Nat} {I J K : Mem} {P : Nat → Nat → Int32} {R R' : Nat → Int32} {kp : Bool} {A : Nat → Int32} {len : Nat} {ch : Nat → Nat}
theorem s_join (hk : 2000 ≤ k) (h : RLs c I) (v w : Int32) : STP c (f_X5_join k v w I) (fun J => f_X6_join k v w J) := by
  obtain ⟨R, st, P, kp, A, len, ch, hG, hQ, hM⟩ := h
  have hW := hG.1.1
  have hn := hW.n10
  have hst := hQ.1.2.1.2.1
  rcases mem_or v (nn R) with ⟨m, hm, rfl⟩ | hv
  · rcases mem_or w (nn R) with ⟨x, hx, rfl⟩ | hx
    · have hbm := hW.bl_le hm
      have hbx := hW.bl_le hx
      have hbb := bmk_lt hW m
      by_cases e : bl R m = bl R x
      · refine STP.no (r := (-5 : Int32)) hG hQ hM ?_ (fun J hJ => ⟨J, ?_, FQ.rfl'⟩)
        · unfold f_X5_join
          rw [has_yes (hQ.1.1.1.n hW) hn hm, if_neg (by decide), has_yes (hQ.1.1.1.n hW) hn hx, if_neg (by decide), if_pos (by rw [inBn (by omega)]; omega), cl_nI (by omega), hQ.1.1.1.b hm, holds_nI (by omega) (by omega), if_neg (by rw [b1_0, tb_bmk]; simp [hx, e])]
        · unfold f_X6_join
          rw [noMember_yes (hJ.row.n hW) hn hm, Option.bind_some, if_pos (by decide), noMember_yes (hJ.row.n hW) hn hx, Option.bind_some, if_pos (by decide), nI_add, nI_add, if_pos (by rw [inBn (by omega)]; omega), if_pos (by rw [inBn (by omega)]; omega), cl_nI (by omega), cl_nI (by omega), hJ.row.b hW hm, hJ.row.b hW hx, if_pos (by rw [e])]
      · obtain ⟨d1, _, _, d2, _, _⟩ := blR_data hW (jb_ok hW hm hx)
        exact STP.act hG d1 (by have := hG.1.2; rw [d2]; omega) hst hM (join_c hW hQ.1 hk hm hx e) (fun J hJ => join_m hW hJ hst hk hm hx e)
    · refine STP.no (r := (-1 : Int32)) hG hQ hM ?_ (fun J hJ => ⟨J, ?_, FQ.rfl'⟩)
      · unfold f_X5_join
        rw [has_yes (hQ.1.1.1.n hW) hn hm, if_neg (by decide), has_no (hQ.1.1.1.n hW) hn hx, if_pos (by decide)]
      · unfold f_X6_join
        rw [noMember_yes (hJ.row.n hW) hn hm, Option.bind_some, if_pos (by decide), noMember_no (hJ.row.n hW) hn hx, Option.bind_some, if_neg (by decide)]
  · refine STP.no (r := (-1 : Int32)) hG hQ hM ?_ (fun J hJ => ⟨J, ?_, FQ.rfl'⟩)
    · unfold f_X5_join
      rw [has_no (hQ.1.1.1.n hW) hn hv, if_pos (by decide)]
    · unfold f_X6_join
      rw [noMember_no (hJ.row.n hW) hn hv, Option.bind_some, if_neg (by decide)]
theorem s_leave (hk : 2000 ≤ k) (h : RLs c I) (v : Int32) : STP c (f_X5_leave k v I) (fun J => f_X6_leave k v J) := by
  obtain ⟨R, st, P, kp, A, len, ch, hG, hQ, hM⟩ := h
  have hW := hG.1.1
  have hn := hW.n10
  have hst := hQ.1.2.1.2.1
  rcases mem_or v (nn R) with ⟨m, hm, rfl⟩ | hv
  · have hbm := hW.bl_le hm
    have hbb := bmk_lt hW m
    have hl := left_eq hW hm
    have hu : adn (bmk R m) (2 ^ m) < 1024 := adn_le _ _ 10 hbb
    by_cases e : cnt (nn R) (fun j => bl R j == bl R m) = 1
    · refine STP.no (r := (-5 : Int32)) hG hQ hM ?_ (fun J hJ => ⟨J, ?_, FQ.rfl'⟩)
      · unfold f_X5_leave
        rw [has_yes (hQ.1.1.1.n hW) hn hm, if_neg (by decide), if_pos (by rw [inBn (by omega)]; omega), cl_nI (by omega), hQ.1.1.1.b hm, bit_nI (by omega), adn_nI, if_pos (by rw [eq0_nI (by omega), ← pop_zero hu]; omega)]
      · unfold f_X6_leave
        rw [noMember_yes (hJ.row.n hW) hn hm, Option.bind_some, if_pos (by decide), nI_add, if_pos (by rw [inBn (by omega)]; omega), cl_nI (by omega), hJ.row.b hW hm, size_eq hJ.row hW hk (by omega), Option.bind_some, e, if_pos (by decide)]
    · obtain ⟨d1, _, _, d2, _, _⟩ := blR_data hW (pb_ok hW hm)
      exact STP.act hG d1 (by have := hG.1.2; rw [d2]; omega) hst hM (leave_c hW hQ.1 hk hm e) (fun J hJ => leave_m hW hJ hst hk hm e)
  · refine STP.no (r := (-1 : Int32)) hG hQ hM ?_ (fun J hJ => ⟨J, ?_, FQ.rfl'⟩)
    · unfold f_X5_leave
      rw [has_no (hQ.1.1.1.n hW) hn hv, if_pos (by decide)]
    · unfold f_X6_leave
      rw [noMember_no (hJ.row.n hW) hn hv, Option.bind_some, if_neg (by decide)]
theorem QS.keep (h : QS I R st P kp A len ch) (h48 : J 48 6 = I 48 6) (hF : ∀ b, 53 ≤ b → J b = I b) : J 48 6 = 0 ∨ (J 48 6 = nI 1 ∧ PW J R) := by
  rw [h48]
  rcases h.2 with z | ⟨z, y⟩
  · exact Or.inl z
  · exact Or.inr ⟨z, y.mono (fun b hb _ => hF b hb)⟩
theorem PWR.lo (h : J 48 6 = 0 ∨ (J 48 6 = nI 1 ∧ PW J R)) (hF : ∀ b, b < 71 → K b = J b) : K 48 6 = 0 ∨ (K 48 6 = nI 1 ∧ PW K R) := by
  rw [hF 48 (by decide)]
  rcases h with z | ⟨z, y⟩
  · exact Or.inl z
  · exact Or.inr ⟨z, y.mono (fun b _ hb => hF b hb)⟩
theorem s_type (h : RLs c I) (v : Int32) : STP c (f_X5_type k (i2c v) I) (fun J => f_X6_type k (i2c v) J) := by
  obtain ⟨R, st, P, kp, A, len, ch, hG, hQ, hM⟩ := h
  have e : i2c v = nI (v.toBitVec.toNat % 65536) := pk_char v
  have hc : v.toBitVec.toNat % 65536 < 65536 := Nat.mod_lt _ (by decide)
  have hl := hQ.1.2.2.2.2.1
  rw [e]
  rcases Nat.lt_or_ge len 60 with z | z
  · obtain ⟨J, j1, j2, j3, j4⟩ := type_c (k := k) hQ.1 z hc
    obtain ⟨K, k1, k2, k3⟩ := type_m (k := k) (hM.hi (fun b hb => j4 b (by omega))) z hc
    exact ⟨_, J, K, j1, k1, R, st, P, kp, A, _, _, hG.up, ⟨j2.lo k3, PWR.lo (hQ.keep (by rw [j3]) j4) k3⟩, k2⟩
  · refine STP.no (r := (-3 : Int32)) hG hQ hM ?_ (fun J hJ => ⟨J, ?_, FQ.rfl'⟩)
    · unfold f_X5_type
      rw [hQ.1.2.2.2.1, if_neg (by rw [lt_nI (by omega) (by decide)]; omega)]
    · show f_X6_type k _ J = _
      unfold f_X6_type
      rw [hJ.2.2.2.1, if_pos (by rw [show len = 60 by omega])]
theorem s_clear (h : RLs c I) : STP c (f_X5_clearText k I) (fun J => f_X6_clearText k J) := by
  obtain ⟨R, st, P, kp, A, len, ch, hG, hQ, hM⟩ := h
  obtain ⟨J, j1, j2, j3, j4⟩ := clear_c (k := k) hQ.1
  obtain ⟨K, k1, k2, k3⟩ := clear_m (k := k) (hM.hi (fun b hb => j4 b (by omega)))
  exact ⟨_, J, K, j1, k1, R, st, P, kp, A, _, _, hG.up, ⟨j2.lo k3, PWR.lo (hQ.keep (by rw [j3]) j4) k3⟩, k2⟩
theorem s_vote (hk : 2000 ≤ k) (hc : c < 600) (h : RLs c I) : STP c (f_X5_vote k I) (fun J => f_X6_vote k J) := by
  obtain ⟨R, st, P, kp, A, len, ch, hG, hQ, hM⟩ := h
  have hW := hG.1.1
  have hst := hQ.1.2.1.2.1
  have hd := hG.1.2
  have hT := hQ.1.2.2.2
  cases hf : flt (nn R) len ch
  · obtain ⟨h0, _, _, hTm⟩ := flt_none hf
    have hl := hT.2.1
    have hT30 : (len + 1) / (nn R + 1) ≤ 30 := by
      have : (len + 1) / (nn R + 1) ≤ 61 / 2 := Nat.le_trans (Nat.div_le_div_right (by omega)) (Nat.div_le_div_left (by omega) (by decide))
      omega
    obtain ⟨d1, d2⟩ := voR_WF (ch := ch) hW ((len + 1) / (nn R + 1)) (by omega)
    exact STP.act hG d1 (by rw [d2]; omega) hst hM (vote_c hW hQ.1 hk hf (by omega)) (fun J hJ => vote_m hW hJ hst hk (by omega) hf hl (fun j hj => (hT.2.2 j hj).2))
  · rename_i i
    obtain ⟨K, k1, k2, k3⟩ := vote_fm hW hM hk hf hT.2.1 (fun j hj => (hT.2.2 j hj).2)
    exact ⟨_, I, K, vote_f hW hQ.1 hk hf, k1, R, st, P, kp, A, len, ch, hG.up, hQ.lo k3, k2⟩
theorem s_undo (hk : 2000 ≤ k) (h : RLs c I) : STP c (f_X5_undo k I) (fun J => f_X6_undo k J) := by
  obtain ⟨R, st, P, kp, A, len, ch, hG, hQ, hM⟩ := h
  have hst := hQ.1.2.1.2.1
  cases st with
  | zero =>
    refine STP.no (r := (-5 : Int32)) hG hQ hM ?_ (fun J hJ => ⟨J, ?_, FQ.rfl'⟩)
    · unfold f_X5_undo
      rw [hQ.1.2.1.1, if_pos (by decide)]
    · show f_X6_undo k J = _
      unfold f_X6_undo
      rw [hJ.2.1.1, if_pos (by decide)]
  | succ st =>
    have hP := (hG.2.1 st (by omega))
    obtain ⟨J, j1, j2, j3, j4⟩ := undo_c (k := k) hQ.1 hP.1.n10
    obtain ⟨K, k1, k2, k3⟩ := undo_m (k := k) (hM.hi j4) hst hk
    exact ⟨_, J, K, j1, k1, P st, st, P, kp, A, len, ch, ⟨⟨hP.1, by have := hP.2; omega⟩, fun p hp => hG.up.2.1 p (by omega), hG.up.2.2⟩, ⟨j2.lo k3, Or.inl (by rw [k3 _ (by decide)]; exact j3)⟩, k2⟩
theorem s_keep (hk : 2000 ≤ k) (h : RLs c I) : STP c (f_X5_keep k I) (fun J => f_X6_keep k J) := by
  obtain ⟨R, st, P, kp, A, len, ch, hG, hQ, hM⟩ := h
  obtain ⟨J, j1, j2, j3, j4⟩ := keep_c (k := k) hG.1.1 hQ.1
  obtain ⟨K, k1, k2, k3⟩ := keep_m (k := k) hG.1.1 (hM.hi (fun b hb => j4 b (by omega))) hk
  exact ⟨_, J, K, j1, k1, R, st, P, true, R, len, ch, ⟨hG.up.1, hG.up.2.1, fun _ => hG.up.1⟩, ⟨j2.lo k3, PWR.lo (hQ.keep j3 j4) k3⟩, k2⟩
theorem s_restore (hk : 2000 ≤ k) (h : RLs c I) : STP c (f_X5_restore k I) (fun J => f_X6_restore k J) := by
  obtain ⟨R, st, P, kp, A, len, ch, hG, hQ, hM⟩ := h
  have hst := hQ.1.2.1.2.1
  cases kp with
  | false =>
    refine STP.no (r := (-5 : Int32)) hG hQ hM ?_ (fun J hJ => ⟨J, ?_, FQ.rfl'⟩)
    · unfold f_X5_restore
      rw [hQ.1.2.2.1.1, if_pos (by decide)]
    · show f_X6_restore k J = _
      unfold f_X6_restore
      rw [hJ.2.2.1.1, if_pos (by decide)]
  | true =>
    have hA := hG.up.2.2 rfl
    exact STP.act hG hA.1 hA.2 hst hM (restore_c hG.1.1 hA.1 hQ.1 hk) (fun J hJ => restore_m hA.1 hJ hst hk)
end SQ
