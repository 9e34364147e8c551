/-! letting a member go -/
def upm (v m : Nat) : Nat := if m < v then m else m + 1
def dnm (v b : Nat) : Nat := if v < b then b - 1 else b
def cu (set v : Nat) : Nat := (set &&& (2 ^ v - 1)) ||| adn (set / 2) (2 ^ v - 1)
theorem cu_tb (set v i : Nat) : (cu set v).testBit i = set.testBit (upm v i) := by
  unfold cu upm
  rw [Nat.testBit_or, Nat.testBit_and, tb_adn, Nat.testBit_two_pow_sub_one, ← Nat.testBit_succ]
  by_cases h : i < v <;> simp [h]
theorem cu_nI {set v : Nat} (hs : set < 2 ^ 31) (hv : v < 31) : f_X3_closeUp (nI set) (nI v) = nI (cu set v) := by
  unfold f_X3_closeUp cu
  rw [bit_nI hv, sub_nI Nat.one_le_two_pow, shr_nI hs (by decide), and_nI, adn_nI, or_nI, Nat.pow_one]
/-- the row without the member, whose bloc it has left -/
def drR (R : Nat → Int32) (v : Nat) : Nat → Int32 := fun j =>
  if j = 0 then nI (nn R - 1)
  else if 49 ≤ j ∧ j < 49 + nn R then (if j = 49 + (nn R - 1) then nI (pb R v (j - 49)) else nI (dnm v (pb R v (upm v (j - 49)))))
  else if (29 + v ≤ j ∧ j < 29 + (nn R - 1)) ∨ (39 + v ≤ j ∧ j < 39 + (nn R - 1)) ∨ (59 + v ≤ j ∧ j < 59 + (nn R - 1)) then R (j + 1) else R j
section DR
variable {k s : Nat} {I J : Mem} {R : Nat → Int32} {v : Nat}
theorem drR_s {d m : Nat} (hn : nn R ≤ 10) (hd : d = 29 ∨ d = 39 ∨ d = 59) (hm : m < nn R - 1) : drR R v (d + m) = R (d + upm v m) := by
  unfold drR upm
  rw [if_neg (by omega), if_neg (by omega)]
  by_cases h : m < v
  · rw [if_pos h, if_neg (by omega)]
  · rw [if_neg h, if_pos (by omega)]
    rfl
theorem drR_b {m : Nat} (hm : m < nn R - 1) : drR R v (49 + m) = nI (dnm v (pb R v (upm v m))) := by
  unfold drR
  rw [if_neg (by omega), if_pos (by omega), if_neg (by omega), Nat.add_sub_cancel_left]
theorem drR_k {j : Nat} (h1 : 1 ≤ j) (h2 : j < 29) : drR R v j = R j := by
  unfold drR
  rw [if_neg (by omega), if_neg (by omega), if_neg (by omega)]
theorem up_lt {m n : Nat} (hv : v < n) (hm : m < n - 1) : upm v m < n ∧ upm v m ≠ v := by
  unfold upm
  split <;> omega
theorem up_inj {i j : Nat} : upm v i = upm v j ↔ i = j := by
  unfold upm
  split <;> split <;> omega
theorem up_dn {b : Nat} (h : b ≠ v) : upm v (dnm v b) = b := by
  unfold upm dnm
  split <;> split <;> omega
theorem dn_inj {a b : Nat} (ha : a ≠ v) (hb : b ≠ v) : dnm v a = dnm v b ↔ a = b := by
  unfold dnm
  split <;> split <;> omega
theorem pb_ne (hW : WF R) (hv : v < nn R) {m : Nat} (hm : m < nn R) (h : m ≠ v) : pb R v m ≠ v := by
  have e : pb R v v = v := by unfold pb; rw [if_pos rfl]
  intro q
  have := (pb_eq hW hv hm hv).mp (q.trans e.symm)
  omega
theorem dr_ok (hW : WF R) (hv : v < nn R) : ∀ m, m < nn R - 1 → dnm v (pb R v (upm v m)) ≤ m ∧ dnm v (pb R v (upm v (dnm v (pb R v (upm v m))))) = dnm v (pb R v (upm v m)) := by
  intro m hm
  obtain ⟨h1, h2⟩ := up_lt hv hm
  have h3 := pb_ne hW hv h1 h2
  obtain ⟨h4, h5⟩ := pb_ok hW hv _ h1
  rw [up_dn h3, h5]
  refine ⟨?_, rfl⟩
  have h6 : upm v m ≤ m + 1 ∧ (m < v → upm v m = m) := by
    unfold upm
    split <;> omega
  unfold dnm
  split <;> omega
theorem dr_msk (hW : WF R) (hv : v < nn R) {m : Nat} (hm : m < nn R - 1) : msk (nn R - 1) (fun j => dnm v (pb R v (upm v j)) == dnm v (pb R v (upm v m))) = cu (bmk R (upm v m)) v := by
  apply tb_ext
  intro i
  rw [tb_msk, cu_tb, tb_bmk]
  obtain ⟨h1, h2⟩ := up_lt hv hm
  by_cases hi : i < nn R - 1
  · obtain ⟨h3, h4⟩ := up_lt hv hi
    have := pb_eq hW hv h3 h1
    have e := dn_inj (pb_ne hW hv h3 h4) (pb_ne hW hv h1 h2)
    rw [Bool.eq_iff_iff, Bool.and_eq_true, Bool.and_eq_true, beq_iff_eq, beq_iff_eq, e, this]
    simp [hi, h3, h2, h4]
  · have : ¬ upm v i < nn R := by unfold upm; split <;> omega
    simp [hi, this]
theorem dr_data (hW : WF R) (hv : v < nn R) : WF (drR R v) ∧ nn (drR R v) = nn R - 1 ∧ qq (drR R v) = qq R ∧ hd (drR R v) = hd R ∧ (∀ m, m < nn R - 1 → wt (drR R v) m = wt R (upm v m) ∧ vt (drR R v) m = vt R (upm v m) ∧ bl (drR R v) m = dnm v (pb R v (upm v m))) ∧ ∀ (I : Mem) (s : Nat), I (8 * s) 0 = nI (nn R - 1) → I (8 * s) 1 = nI (qq R) → I (8 * s) 2 = nI (msk (nn R - 1) (fun m => vt R (upm v m))) → (∀ m, m < nn R - 1 → I (8 * s + 1) m = nI (wt R (upm v m)) ∧ I (8 * s + 2) m = nI (msk (nn R - 1) (fun j => dnm v (pb R v (upm v j)) == dnm v (pb R v (upm v m))))) → CS0 I s (drR R v) := by
  have hn := hW.n10
  refine mkR (w := fun m => wt R (upm v m)) (v := fun m => vt R (upm v m)) (b := fun m => dnm v (pb R v (upm v m))) rfl (by omega) ?_ hW.q1 hW.q500 (fun m hm => ?_) (fun m hm => ?_) (fun m hm => ⟨drR_b hm, dr_ok hW hv m hm⟩) ?_ hW.h2 ?_
  · rw [drR_k (by decide) (by decide)]; exact hW.r1
  · have := (up_lt hv hm).1
    rw [drR_s hn (by omega) hm]; exact ⟨hW.rw this, hW.w50 this⟩
  · have := (up_lt hv hm).1
    rw [drR_s hn (by omega) hm]; exact hW.rv this
  · rw [drR_k (by decide) (by decide)]; exact hW.r2
  · rw [drR_k (by decide) (by decide)]; exact hW.r4
def shf (n v m : Nat) (f : Nat → Int32) : Nat → Int32 := fun j => if v ≤ j ∧ j + 1 < m then f (j + 1) else f j
theorem drop_x (hW : WF R) (h : CS I s R) (hv : v < nn R) (hk : 2000 ≤ k) : ∃ J, f_X3_drop k s (nI v) I = some J ∧ CS J s (drR R v) ∧ ∀ b, (b < 8 * s ∨ 8 * s + 8 ≤ b) → J b = I b := by
  have hn := hW.n10
  obtain ⟨_, en, _, _, _, hC⟩ := dr_data hW hv
  unfold f_X3_drop
  rw [nI_add]
  refine loopE (fun g m (J : Mem) => f_X3_drop_4 k s (nI v) g (nI m) J) (nn R) (fun m J => v < m ∧ (∀ j, J (8 * s + 1) j = shf (nn R) v m (I (8 * s + 1)) j ∧ J (8 * s + 2) j = shf (nn R) v m (I (8 * s + 2)) j ∧ J (8 * s + 3) j = shf (nn R) v m (I (8 * s + 3)) j) ∧ ∀ b, b ≠ 8 * s + 1 → b ≠ 8 * s + 2 → b ≠ 8 * s + 3 → J b = I b) (fun o => ∃ J, o = some J ∧ CS J s (drR R v) ∧ ∀ b, (b < 8 * s ∨ 8 * s + 8 ≤ b) → J b = I b) (fun g J hJ => ?_) (fun g m J hm hJ => ?_) (nn R - (v + 1)) (v + 1) k I (by omega) (by omega) ⟨by omega, fun j => ?_, fun _ _ _ _ => rfl⟩
  · have hJ := hJ.2
    have e0 : J (8 * s) 0 = nI (nn R) := by rw [hJ.2 _ (by omega) (by omega) (by omega)]; exact h.1.n hW
    simp (disch := omega) only [f_X3_drop_4, e0, le_nI, if_pos, sub_nI]
    generalize eJ1 : up2 J (8 * s) 0 (nI (nn R - 1)) = J1
    have f1 : ∀ b, b ≠ 8 * s → J1 b = J b := fun b hb => by rw [← eJ1, up2_nea _ _ _ _ hb]
    have f0 : J1 (8 * s) 0 = nI (nn R - 1) := by rw [← eJ1, up2_eq]
    have f2 : ∀ j, j ≠ 0 → J1 (8 * s) j = J (8 * s) j := fun j hj => by rw [← eJ1, up2_nei _ _ _ _ hj]
    refine loopE (fun g m (K : Mem) => f_X3_drop_72 k s (nI v) g (nI m) K) (nn R - 1) (fun m K => (∀ j, j < nn R - 1 → K (8 * s + 2) j = if j < m then nI (cu (bmk R (upm v j)) v) else nI (bmk R (upm v j))) ∧ ∀ b, b ≠ 8 * s + 2 → K b = J1 b) (fun o => ∃ J, o = some J ∧ CS J s (drR R v) ∧ ∀ b, (b < 8 * s ∨ 8 * s + 8 ≤ b) → J b = I b) (fun g K hK => ?_) (fun g m K hm hK => ?_) (nn R - 1) 0 k J1 (by omega) (by omega) ⟨fun j hj => ?_, fun _ _ => rfl⟩
    · have k0 : K (8 * s) 0 = nI (nn R - 1) := by rw [hK.2 _ (by omega)]; exact f0
      have k2 : K (8 * s) 2 = nI (vmk R) := by rw [hK.2 _ (by omega), f2 _ (by decide), hJ.2 _ (by omega) (by omega) (by omega)]; exact h.1.v
      have hvl := vmk_lt hW
      simp (disch := omega) only [f_X3_drop_72, k0, le_nI, if_pos, k2, cu_nI]
      refine ⟨_, rfl, ⟨hC _ _ ?_ ?_ ?_ (fun m hm => ⟨?_, ?_⟩), fun m hm => ?_, ?_⟩, fun b hb => ?_⟩
      · rw [up2_nei _ _ _ _ (by decide)]; exact k0
      · rw [up2_nei _ _ _ _ (by decide), hK.2 _ (by omega), f2 _ (by decide), hJ.2 _ (by omega) (by omega) (by omega)]; exact h.1.q hW
      · rw [up2_eq]
        refine congrArg nI (tb_ext fun i => ?_)
        rw [cu_tb, tb_vmk, tb_msk]
        have : upm v i < nn R ↔ i < nn R - 1 := by unfold upm; split <;> omega
        simp [this]
      · rw [up2_nea _ _ _ _ (by omega), hK.2 _ (by omega), f1 _ (by omega), (hJ.1 m).1]
        have := h.1.w hW (up_lt hv hm).1
        unfold shf
        unfold upm at this ⊢
        by_cases z : m < v
        · rw [if_pos z] at this ⊢
          rw [if_neg (by omega)]
          exact this
        · rw [if_neg z] at this ⊢
          rw [if_pos (by omega)]
          exact this
      · rw [up2_nea _ _ _ _ (by omega), hK.1 m hm, if_pos hm, dr_msk hW hv hm]
      · rw [en] at hm
        rw [up2_nea _ _ _ _ (by omega), hK.2 _ (by omega), f1 _ (by omega), (hJ.1 m).2.2, drR_s hn (by omega) hm]
        have := h.2.1 (upm v m) (up_lt hv hm).1
        unfold shf
        unfold upm at this ⊢
        by_cases z : m < v
        · rw [if_pos z] at this ⊢
          rw [if_neg (by omega)]
          exact this
        · rw [if_neg z] at this ⊢
          rw [if_pos (by omega)]
          exact this
      · refine CSb.cong (R := R) (h.2.2.mono (fun j h1 h2 => ?_)) (fun j h1 h2 => drR_k (by omega) h2)
        rw [up2_nea _ _ _ _ (by omega), hK.2 _ (by omega), f1 _ (by omega), hJ.2 _ (by omega) (by omega) (by omega)]
      · rw [up2_nea _ _ _ _ (by omega), hK.2 _ (by omega), f1 _ (by omega), hJ.2 _ (by omega) (by omega) (by omega)]
    · have k0 : K (8 * s) 0 = nI (nn R - 1) := by rw [hK.2 _ (by omega)]; exact f0
      have kb := hK.1 m hm
      rw [if_neg (by omega)] at kb
      have hbl := bmk_lt hW (upm v m)
      simp (disch := omega) only [f_X3_drop_72, k0, le_nI, if_neg, inBn, if_pos, cl_nI, kb, cu_nI, Option.bind_some, nI_add]
      refine ⟨_, rfl, fun j hj => ?_, fun b hb => ?_⟩
      · by_cases ej : j = m
        · rw [ej, up2_eq, if_pos (by omega)]
        · rw [up2_nei _ _ _ _ ej, hK.1 j hj]
          by_cases z : j < m
          · rw [if_pos z, if_pos (by omega)]
          · rw [if_neg z, if_neg (by omega)]
      · rw [up2_nea _ _ _ _ hb, hK.2 b hb]
    · rw [if_neg (by omega), f1 _ (by omega), (hJ.1 j).2.1]
      have := h.1.b (up_lt hv hj).1
      unfold shf
      unfold upm at this ⊢
      by_cases z : j < v
      · rw [if_pos z] at this ⊢
        rw [if_neg (by omega)]
        exact this
      · rw [if_neg z] at this ⊢
        rw [if_pos (by omega)]
        exact this
  · have hvm := hJ.1
    have hJ := hJ.2
    have e0 : J (8 * s) 0 = nI (nn R) := by rw [hJ.2 _ (by omega) (by omega) (by omega)]; exact h.1.n hW
    simp (disch := omega) only [f_X3_drop_4, e0, le_nI, if_neg, inBn, if_pos, sub_nI, cl_nI, Option.bind_some, up2_nea, nI_add]
    refine ⟨_, rfl, by omega, fun j => ⟨?_, ?_, ?_⟩, fun b h1 h2 h3 => ?_⟩
    · rw [up2_nea _ _ _ _ (by omega), up2_nea _ _ _ _ (by omega)]
      have e1 := (hJ.1 j).1
      have e2 := (hJ.1 m).1
      unfold shf at e1 e2 ⊢
      by_cases z : j = m - 1
      · rw [z, up2_eq, e2, if_neg (by omega), if_pos (by omega), show m - 1 + 1 = m by omega]
      · rw [up2_nei _ _ _ _ z, e1]
        by_cases y : v ≤ j ∧ j + 1 < m
        · rw [if_pos y, if_pos (by omega)]
        · rw [if_neg y, if_neg (by omega)]
    · rw [up2_nea _ _ _ _ (by omega)]
      have e1 := (hJ.1 j).2.1
      have e2 := (hJ.1 m).2.1
      unfold shf at e1 e2 ⊢
      by_cases z : j = m - 1
      · rw [z, up2_eq, e2, if_neg (by omega), if_pos (by omega), show m - 1 + 1 = m by omega]
      · rw [up2_nei _ _ _ _ z, up2_nea _ _ _ _ (by omega), e1]
        by_cases y : v ≤ j ∧ j + 1 < m
        · rw [if_pos y, if_pos (by omega)]
        · rw [if_neg y, if_neg (by omega)]
    · have e1 := (hJ.1 j).2.2
      have e2 := (hJ.1 m).2.2
      unfold shf at e1 e2 ⊢
      by_cases z : j = m - 1
      · rw [z, up2_eq, e2, if_neg (by omega), if_pos (by omega), show m - 1 + 1 = m by omega]
      · rw [up2_nei _ _ _ _ z, up2_nea _ _ _ _ (by omega), up2_nea _ _ _ _ (by omega), e1]
        by_cases y : v ≤ j ∧ j + 1 < m
        · rw [if_pos y, if_pos (by omega)]
        · rw [if_neg y, if_neg (by omega)]
    · rw [up2_nea _ _ _ _ h3, up2_nea _ _ _ _ h2, up2_nea _ _ _ _ h1, hJ.2 b h1 h2 h3]
  · unfold shf
    rw [if_neg (by omega), if_neg (by omega), if_neg (by omega)]
    exact ⟨rfl, rfl, rfl⟩
end DR
