/-! blocs anew -/
def blR (R : Nat → Int32) (f : Nat → Nat) : Nat → Int32 := fun j => if 49 ≤ j ∧ j < 49 + nn R then nI (f (j - 49)) else R j
section BLR
variable {k s : Nat} {I J : Mem} {R : Nat → Int32} {f : Nat → Nat}
theorem blR_ne {j : Nat} (h : ¬ (49 ≤ j ∧ j < 49 + nn R)) : blR R f j = R j := if_neg h
theorem blR_at {m : Nat} (h : m < nn R) : blR R f (49 + m) = nI (f m) := by
  unfold blR
  rw [if_pos (by omega), Nat.add_sub_cancel_left]
theorem blR_data (hW : WF R) (hf : ∀ m, m < nn R → f m ≤ m ∧ f (f m) = f m) : WF (blR R f) ∧ nn (blR R f) = nn R ∧ qq (blR R f) = qq R ∧ hd (blR R f) = hd R ∧ (∀ m, m < nn R → wt (blR R f) m = wt R m ∧ vt (blR R f) m = vt R m ∧ bl (blR R f) m = f m) ∧ ∀ (I : Mem) (s : Nat), I (8 * s) 0 = nI (nn R) → I (8 * s) 1 = nI (qq R) → I (8 * s) 2 = nI (msk (nn R) (vt R)) → (∀ m, m < nn R → I (8 * s + 1) m = nI (wt R m) ∧ I (8 * s + 2) m = nI (msk (nn R) (fun j => f j == f m))) → CS0 I s (blR R f) := by
  have hn := hW.n10
  refine mkR (w := wt R) (v := vt R) (b := f) ?_ (by omega) ?_ hW.q1 hW.q500 (fun m hm => ?_) (fun m hm => ?_) (fun m hm => ⟨blR_at hm, hf m hm⟩) ?_ hW.h2 ?_
  · rw [blR_ne (by omega)]; exact hW.r0
  · rw [blR_ne (by omega)]; exact hW.r1
  · rw [blR_ne (by omega)]; exact ⟨hW.rw hm, hW.w50 hm⟩
  · rw [blR_ne (by omega)]; exact hW.rv hm
  · rw [blR_ne (by omega)]; exact hW.r2
  · rw [blR_ne (by omega)]; exact hW.r4
theorem blR_CS (hW : WF R) (hf : ∀ m, m < nn R → f m ≤ m ∧ f (f m) = f m) (h : CS I s R) (hJ : ∀ m, m < nn R → J (8 * s + 2) m = nI (msk (nn R) (fun j => f j == f m))) (hF : ∀ b, b ≠ 8 * s + 2 → J b = I b) : CS J s (blR R f) := by
  have hn := hW.n10
  obtain ⟨_, e, _, _, _, hC⟩ := blR_data hW hf
  refine ⟨hC _ _ ?_ ?_ ?_ (fun m hm => ⟨?_, hJ m hm⟩), fun m hm => ?_, ?_⟩
  · rw [hF _ (by omega)]; exact h.1.n hW
  · rw [hF _ (by omega)]; exact h.1.q hW
  · rw [hF _ (by omega)]; exact h.1.v
  · rw [hF _ (by omega)]; exact h.1.w hW hm
  · rw [e] at hm
    rw [hF _ (by omega), blR_ne (by omega)]
    exact h.2.1 m hm
  · exact (h.2.2.mono (fun j h1 h2 => hF _ (by omega))).cong (fun j h1 h2 => blR_ne (by omega))
theorem makeBloc_eq {n set : Nat} (h0 : I (8 * s) 0 = nI n) (hn : n ≤ 10) (hk : 2000 ≤ k) (hs : set < 2 ^ 31) : ∃ J, f_X3_makeBloc k s (nI set) I = some J ∧ (∀ m, m < n → J (8 * s + 2) m = if set.testBit m then nI set else I (8 * s + 2) m) ∧ ∀ b, b ≠ 8 * s + 2 → J b = I b := by
  unfold f_X3_makeBloc
  refine loopE (fun g m (J : Mem) => f_X3_makeBloc_2 k s (nI set) g (nI m) J) n (fun m J => (∀ j, J (8 * s + 2) j = if j < m ∧ set.testBit j = true then nI set else I (8 * s + 2) j) ∧ ∀ b, b ≠ 8 * s + 2 → J b = I b) (fun o => ∃ J, o = some J ∧ (∀ m, m < n → J (8 * s + 2) m = if set.testBit m then nI set else I (8 * s + 2) m) ∧ ∀ b, b ≠ 8 * s + 2 → J b = I b) (fun g J hJ => ?_) (fun g m J hm hJ => ?_) n 0 k I (by omega) (by omega) ⟨fun j => by rw [if_neg (by omega)], fun _ _ => rfl⟩
  · have e0 : J (8 * s) 0 = nI n := by rw [hJ.2 _ (by omega)]; exact h0
    simp (disch := omega) only [f_X3_makeBloc_2, e0, le_nI, if_pos]
    refine ⟨J, rfl, fun m hm => ?_, hJ.2⟩
    rw [hJ.1]
    simp [hm]
  · have e0 : J (8 * s) 0 = nI n := by rw [hJ.2 _ (by omega)]; exact h0
    simp (disch := omega) only [f_X3_makeBloc_2, e0, le_nI, if_neg, holds_nI, b1_0, inBn, if_pos, cl_nI, nI_add]
    cases e : set.testBit m
    · refine ⟨J, rfl, fun j => ?_, hJ.2⟩
      rw [hJ.1]
      by_cases ej : j = m
      · rw [ej, e]; simp
      · simp [show j < m + 1 ↔ j < m by omega]
    · refine ⟨_, rfl, fun j => ?_, fun b hb => ?_⟩
      · by_cases ej : j = m
        · rw [ej, up2_eq, e]; simp
        · rw [up2_nei _ _ _ _ ej, hJ.1]
          simp [show j < m + 1 ↔ j < m by omega]
      · rw [up2_nea _ _ _ _ hb, hJ.2 b hb]
/-! joining -/
def jb (R : Nat → Int32) (v w m : Nat) : Nat := if bl R m = bl R v ∨ bl R m = bl R w then min (bl R v) (bl R w) else bl R m
def joR (R : Nat → Int32) (v w : Nat) : Nat → Int32 := blR R (jb R v w)
theorem jb_ok (hW : WF R) {v w : Nat} (hv : v < nn R) (hw : w < nn R) : ∀ m, m < nn R → jb R v w m ≤ m ∧ jb R v w (jb R v w m) = jb R v w m := by
  intro m hm
  have h1 := hW.bl_le hm
  have h2 := hW.bl_bl hm
  have h3 := hW.bl_bl hv
  have h4 := hW.bl_bl hw
  unfold jb
  by_cases e : bl R m = bl R v ∨ bl R m = bl R w
  · simp only [if_pos e]
    rcases Nat.le_total (bl R v) (bl R w) with z | z
    · rw [Nat.min_eq_left z]
      refine ⟨by omega, if_pos (Or.inl h3)⟩
    · rw [Nat.min_eq_right z]
      refine ⟨by omega, if_pos (Or.inr h4)⟩
  · simp only [if_neg e, h2]
    exact ⟨h1, trivial⟩
theorem jb_msk (hW : WF R) {v w : Nat} (hv : v < nn R) (hw : w < nn R) {m : Nat} (hm : m < nn R) : msk (nn R) (fun j => jb R v w j == jb R v w m) = if (bmk R v ||| bmk R w).testBit m then bmk R v ||| bmk R w else bmk R m := by
  have e1 : (bmk R v ||| bmk R w).testBit m = decide (bl R m = bl R v ∨ bl R m = bl R w) := by
    rw [Nat.testBit_or, tb_bmk, tb_bmk]
    simp [hm]
    by_cases a : bl R m = bl R v <;> by_cases b : bl R m = bl R w <;> simp [a, b]
  have key : ∀ x, jb R v w x = jb R v w m ↔ ((bl R x = bl R v ∨ bl R x = bl R w) ∧ (bl R m = bl R v ∨ bl R m = bl R w)) ∨ (¬ (bl R x = bl R v ∨ bl R x = bl R w) ∧ bl R x = bl R m) := by
    intro x
    unfold jb
    by_cases a : bl R x = bl R v ∨ bl R x = bl R w <;> by_cases b : bl R m = bl R v ∨ bl R m = bl R w
    · rw [if_pos a, if_pos b]
      omega
    · rw [if_pos a, if_neg b]
      omega
    · rw [if_neg a, if_pos b]
      omega
    · rw [if_neg a, if_neg b]
      omega
  apply tb_ext
  intro i
  rw [tb_msk, e1]
  by_cases b : bl R m = bl R v ∨ bl R m = bl R w
  · rw [if_pos (by simpa using b), Nat.testBit_or, tb_bmk, tb_bmk]
    by_cases hi : i < nn R
    · have := key i
      rw [Bool.eq_iff_iff]
      simp [hi, this]
      omega
    · simp [hi]
  · rw [if_neg (by simpa using b), tb_bmk]
    by_cases hi : i < nn R
    · have := key i
      rw [Bool.eq_iff_iff]
      simp [hi, this]
      omega
    · simp [hi]
/-! parting -/
def nxt (R : Nat → Int32) (v : Nat) : Nat := ff (fun m => !(!(m == v) && bl R m == bl R v)) (nn R)
def pb (R : Nat → Int32) (v m : Nat) : Nat := if m = v then v else if bl R m = bl R v then nxt R v else bl R m
theorem nxt_le {v m : Nat} (hm : m < nn R) (h1 : m ≠ v) (h2 : bl R m = bl R v) : nxt R v ≤ m ∧ nxt R v ≠ v ∧ bl R (nxt R v) = bl R v := by
  have hle : nxt R v ≤ m := by
    rcases Nat.lt_or_ge m (nxt R v) with z | z
    · have := ff_yes _ _ _ z
      simp [h1, h2] at this
    · exact z
  have := ff_no (fun m => !(!(m == v) && bl R m == bl R v)) (nn R) (by unfold nxt at hle; omega)
  change (!(!(nxt R v == v) && bl R (nxt R v) == bl R v)) = false at this
  simp at this
  exact ⟨hle, this.1, this.2⟩
theorem pb_ok (hW : WF R) {v : Nat} (hv : v < nn R) : ∀ m, m < nn R → pb R v m ≤ m ∧ pb R v (pb R v m) = pb R v m := by
  intro m hm
  have h1 := hW.bl_le hm
  have h2 := hW.bl_bl hm
  unfold pb
  by_cases e : m = v
  · simp [e]
  · by_cases e2 : bl R m = bl R v
    · obtain ⟨a, b, c⟩ := nxt_le hm e e2
      simp [e, e2, a, b, c]
    · have : bl R m ≠ v := fun z => e2 (by rw [← z]; exact h2.symm)
      simp [e, e2, this, h1, h2]
theorem pb_eq (hW : WF R) {v : Nat} (hv : v < nn R) {j m : Nat} (hj : j < nn R) (hm : m < nn R) : pb R v j = pb R v m ↔ (j = v ∧ m = v) ∨ (j ≠ v ∧ m ≠ v ∧ bl R j = bl R m) := by
  have h1 := hW.bl_bl hm
  have h2 := hW.bl_bl hj
  unfold pb
  by_cases ej : j = v <;> by_cases em : m = v
  · simp [ej, em]
  · by_cases e2 : bl R m = bl R v
    · obtain ⟨a, b, c⟩ := nxt_le hm em e2
      simp [ej, em, e2]
      exact fun z => b z.symm
    · simp [ej, em, e2]
      exact fun z => e2 (by rw [z]; exact h1.symm)
  · by_cases e2 : bl R j = bl R v
    · obtain ⟨a, b, c⟩ := nxt_le hj ej e2
      simp [ej, em, e2]
      exact b
    · simp [ej, em, e2]
      exact fun z => e2 (by rw [← z]; exact h2.symm)
  · by_cases e1 : bl R j = bl R v <;> by_cases e2 : bl R m = bl R v
    · simp [ej, em, e1, e2]
    · obtain ⟨a, b, c⟩ := nxt_le hj ej e1
      simp [ej, em, e1, e2]
      constructor
      · intro z
        exact absurd (by rw [← h1, ← z]; exact c) e2
      · intro z
        exact absurd z.symm e2
    · obtain ⟨a, b, c⟩ := nxt_le hm em e2
      simp [ej, em, e1, e2]
      intro z
      exact absurd (by rw [← h2, z]; exact c) e1
    · simp [ej, em, e1, e2]
theorem pb_msk (hW : WF R) {v : Nat} (hv : v < nn R) {m : Nat} (hm : m < nn R) : msk (nn R) (fun j => pb R v j == pb R v m) = if m = v then 2 ^ v else if (adn (bmk R v) (2 ^ v)).testBit m then adn (bmk R v) (2 ^ v) else bmk R m := by
  apply tb_ext
  intro i
  rw [tb_msk, tb_adn, tb_bmk, Nat.testBit_two_pow]
  by_cases hi : i < nn R
  · have := pb_eq hW hv hi hm
    by_cases em : m = v
    · rw [if_pos em, Nat.testBit_two_pow, Bool.eq_iff_iff, Bool.and_eq_true, beq_iff_eq, this]
      simp [hi, em]
      omega
    · rw [if_neg em]
      by_cases e2 : bl R m = bl R v
      · rw [if_pos (by simp [hm, e2]; omega), tb_adn, tb_bmk, Nat.testBit_two_pow, Bool.eq_iff_iff]
        simp [hi, this, em, e2]
        omega
      · rw [if_neg (by simp [e2]), tb_bmk, Bool.eq_iff_iff]
        simp [hi, this, em]
        intro z q
        rw [q] at z
        exact e2 z.symm
  · have e1 : (2 ^ v).testBit i = false := by rw [Nat.testBit_two_pow]; simp; omega
    split
    · simp [hi, e1]
    · split
      · rw [tb_adn, tb_bmk]; simp [hi]
      · rw [tb_bmk]; simp [hi]
end BLR
