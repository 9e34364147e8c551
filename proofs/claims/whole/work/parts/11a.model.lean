/-! the model between two calls -/
def MR (I : Mem) (R : Nat → Int32) (st : Nat) (P : Nat → Nat → Int32) (kp : Bool) (A : Nat → Int32) (len : Nat) (ch : Nat → Nat) : Prop := (∀ j, j < 69 → I 72 j = R j) ∧ (I 71 3 = nI st ∧ ∀ p, p < st → ∀ j, j < 69 → I 73 (69 * p + j) = P p j) ∧ (I 71 4 = nI (b1 kp) ∧ (kp = true → ∀ j, j < 69 → I 74 j = A j)) ∧ (I 71 6 = nI len ∧ ∀ j, j < len → I 75 j = nI (ch j))
section MA
variable {k st : Nat} {I J : Mem} {P : Nat → Nat → Int32} {R R' : Nat → Int32} {kp : Bool} {A : Nat → Int32} {len : Nat} {ch : Nat → Nat}
theorem MR.mono (h : MR I R st P kp A len ch) (h2 : ∀ b, 72 ≤ b → b ≤ 75 → J b = I b) (h3 : J 71 3 = I 71 3) (h4 : J 71 4 = I 71 4) (h6 : J 71 6 = I 71 6) : MR J R st P kp A len ch := by
  unfold MR
  rw [h2 72 (by decide) (by decide), h2 73 (by decide) (by decide), h2 74 (by decide) (by decide), h2 75 (by decide) (by decide), h3, h4, h6]
  exact h
theorem MR.put (h : MR I R st P kp A len ch) (hR : ∀ j, j < 69 → J 72 j = R' j) (h2 : ∀ b, 73 ≤ b → b ≤ 75 → J b = I b) (h3 : J 71 3 = I 71 3) (h4 : J 71 4 = I 71 4) (h6 : J 71 6 = I 71 6) : MR J R' st P kp A len ch := by
  unfold MR
  rw [h2 73 (by decide) (by decide), h2 74 (by decide) (by decide), h2 75 (by decide) (by decide), h3, h4, h6]
  exact ⟨hR, h.2⟩
theorem rec50 {s : Nat} (h : I 71 3 = nI s) (hs : s < 4) (hk : 2000 ≤ k) : ∃ J, f_X6_record_50 k k (nI 0) I = some J ∧ J 71 3 = nI (s + 1) ∧ (∀ j, j < 69 → J 73 (69 * s + j) = I 72 j) ∧ (∀ i, i < 69 * s → J 73 i = I 73 i) ∧ (∀ b, b ≠ 71 → b ≠ 73 → J b = I b) ∧ ∀ i, i ≠ 3 → J 71 i = I 71 i := by
  refine loopE (fun g m (J : Mem) => f_X6_record_50 k g (nI m) J) 69 (fun m J => (∀ j, j < m → J 73 (69 * s + j) = I 72 j) ∧ (∀ i, i < 69 * s → J 73 i = I 73 i) ∧ ∀ b, b ≠ 73 → J b = I b) (fun o => ∃ J, o = some J ∧ J 71 3 = nI (s + 1) ∧ (∀ j, j < 69 → J 73 (69 * s + j) = I 72 j) ∧ (∀ i, i < 69 * s → J 73 i = I 73 i) ∧ (∀ b, b ≠ 71 → b ≠ 73 → J b = I b) ∧ ∀ i, i ≠ 3 → J 71 i = I 71 i) (fun g J hJ => ?_) (fun g m J hm hJ => ?_) 69 0 k I (by omega) (by omega) ⟨fun j hj => by omega, fun _ _ => rfl, fun _ _ => rfl⟩
  · obtain ⟨j1, j2, j3⟩ := hJ
    have e0 : J 71 3 = nI s := by rw [j3 _ (by omega)]; exact h
    simp (disch := omega) only [f_X6_record_50, le_nI, if_pos, e0, nI_add]
    exact ⟨_, rfl, up2_eq _ _ _ _, fun j hj => by rw [up2_nea _ _ _ _ (by omega)]; exact j1 j hj, fun i hi => by rw [up2_nea _ _ _ _ (by omega)]; exact j2 i hi, fun b h1 h2 => by rw [up2_nea _ _ _ _ h1, j3 _ h2], fun i hi => by rw [up2_nei _ _ _ _ hi, j3 _ (by omega)]⟩
  · obtain ⟨j1, j2, j3⟩ := hJ
    have e0 : J 71 3 = nI s := by rw [j3 _ (by omega)]; exact h
    simp (disch := omega) only [f_X6_record_50, le_nI, if_neg, if_pos, inBn, e0, mul_nI, nI_add, cl_nI, Option.bind_some]
    refine ⟨_, rfl, fun j hj => ?_, fun i hi => ?_, fun b hb => ?_⟩
    · by_cases e : j = m
      · rw [e, up2_eq, j3 _ (by omega)]
      · rw [up2_nei _ _ _ _ (by omega)]
        exact j1 j (by omega)
    · rw [up2_nei _ _ _ _ (by omega)]
      exact j2 i hi
    · rw [up2_nea _ _ _ _ hb, j3 _ hb]
theorem record_eq (h : MR I R st P kp A len ch) (hst : st ≤ 4) (hk : 2000 ≤ k) : ∃ J, f_X6_record k I = some J ∧ MR J R (nst st) (nP st P R) kp A len ch ∧ (∀ b, b ≠ 71 → b ≠ 73 → J b = I b) ∧ ∀ i, i ≠ 3 → J 71 i = I 71 i := by
  obtain ⟨h1, ⟨h2, h3⟩, ⟨h4, h5⟩, h6, h7⟩ := h
  unfold f_X6_record
  simp (disch := omega) only [h2, eq_nI]
  by_cases e : st = 4
  · rw [if_pos e]
    subst e
    refine loopE (fun g m (J : Mem) => f_X6_record_10 k g (nI m) J) 207 (fun m J => (∀ i, J 73 i = if i < m then I 73 (69 + i) else I 73 i) ∧ ∀ b, b ≠ 73 → J b = I b) (fun o => ∃ J, o = some J ∧ MR J R (nst 4) (nP 4 P R) kp A len ch ∧ (∀ b, b ≠ 71 → b ≠ 73 → J b = I b) ∧ ∀ i, i ≠ 3 → J 71 i = I 71 i) (fun g J hJ => ?_) (fun g m J hm hJ => ?_) 207 0 k I (by omega) (by omega) ⟨fun i => by rw [if_neg (by omega)], fun _ _ => rfl⟩
    · obtain ⟨j1, j2⟩ := hJ
      have e0 : J 71 3 = nI 4 := by rw [j2 _ (by omega)]; exact h2
      simp (disch := omega) only [f_X6_record_10, le_nI, if_pos, e0, sub_nI]
      obtain ⟨K, k1, k2, k3, k4, k5, k6⟩ := rec50 (k := k) (I := up2 J 71 3 (nI (4 - 1))) (s := 3) (up2_eq _ _ _ _) (by decide) hk
      refine ⟨K, k1, ⟨fun j hj => ?_, ⟨k2, fun p hp j hj => ?_⟩, ⟨?_, fun e j hj => ?_⟩, ?_, fun j hj => ?_⟩, fun b hb1 hb2 => ?_, fun i hi => ?_⟩
      · rw [k5 _ (by omega) (by omega), up2_nea _ _ _ _ (by omega), j2 _ (by omega)]; exact h1 j hj
      · have hp4 : p < 4 := hp
        unfold nP
        show _ = (if p = 4 - 1 then R else if (4 : Nat) = 4 then P (p + 1) else P p) j
        by_cases e : p = 3
        · rw [if_pos e, e, k3 j hj, up2_nea _ _ _ _ (by omega), j2 _ (by omega)]; exact h1 j hj
        · rw [if_neg (by omega), if_pos rfl, k4 _ (by omega), up2_nea _ _ _ _ (by omega), j1, if_pos (by omega), show 69 + (69 * p + j) = 69 * (p + 1) + j by omega]
          exact h3 (p + 1) (by omega) j hj
      · rw [k6 _ (by decide), up2_nei _ _ _ _ (by decide), j2 _ (by decide)]; exact h4
      · rw [k5 _ (by omega) (by omega), up2_nea _ _ _ _ (by omega), j2 _ (by omega)]; exact h5 e j hj
      · rw [k6 _ (by decide), up2_nei _ _ _ _ (by decide), j2 _ (by decide)]; exact h6
      · rw [k5 _ (by omega) (by omega), up2_nea _ _ _ _ (by omega), j2 _ (by omega)]; exact h7 j hj
      · rw [k5 _ hb1 hb2, up2_nea _ _ _ _ hb1, j2 _ hb2]
      · rw [k6 _ hi, up2_nei _ _ _ _ hi, j2 _ (by decide)]
    · obtain ⟨j1, j2⟩ := hJ
      simp (disch := omega) only [f_X6_record_10, le_nI, if_neg, if_pos, inBn, nI_add, cl_nI]
      refine ⟨_, rfl, fun i => ?_, fun b hb => ?_⟩
      · by_cases e : i = m
        · rw [e, up2_eq, j1, if_neg (by omega), if_pos (by omega)]
        · rw [up2_nei _ _ _ _ e, j1]
          by_cases z : i < m
          · rw [if_pos z, if_pos (by omega)]
          · rw [if_neg z, if_neg (by omega)]
      · rw [up2_nea _ _ _ _ hb, j2 _ hb]
  · rw [if_neg e]
    obtain ⟨K, k1, k2, k3, k4, k5, k6⟩ := rec50 (k := k) (I := I) (s := st) h2 (by omega) hk
    have e1 : nst st = st + 1 := if_neg e
    refine ⟨K, k1, ⟨fun j hj => ?_, ⟨by rw [e1]; exact k2, fun p hp j hj => ?_⟩, ⟨?_, fun e j hj => ?_⟩, ?_, fun j hj => ?_⟩, k5, k6⟩
    · rw [k5 _ (by omega) (by omega)]; exact h1 j hj
    · unfold nP
      rw [e1, Nat.add_sub_cancel, if_neg e]
      rw [e1] at hp
      by_cases e : p = st
      · rw [if_pos e, e, k3 j hj]; exact h1 j hj
      · rw [if_neg e, k4 _ (by omega)]
        exact h3 p (by omega) j hj
    · rw [k6 _ (by decide)]; exact h4
    · rw [k5 _ (by omega) (by omega)]; exact h5 e j hj
    · rw [k6 _ (by decide)]; exact h6
    · rw [k5 _ (by omega) (by omega)]; exact h7 j hj
theorem m5_neg : (0 : Int32) ≤ (-5 : Int32) ↔ False := by decide
theorem in_yes {a b m : Nat} (ha : a < 2 ^ 31) (hb : b < 2 ^ 31) (hm : m < 2 ^ 31) (h1 : a ≤ m) (h2 : m ≤ b) : f_X6_in (nI m) (nI a) (nI b) = nI 1 := by
  unfold f_X6_in
  simp (disch := omega) only [lt_nI, if_neg]
theorem in_no {v : Int32} {a b : Nat} (ha : a < 2 ^ 31) (hb : b < 2 ^ 31) (h : ∀ m, a ≤ m → m ≤ b → v ≠ nI m) : f_X6_in v (nI a) (nI b) = nI 0 := by
  unfold f_X6_in
  rcases int_cases v with z | ⟨m, h1, rfl⟩
  · rw [if_pos (neg_lt z ha)]
  · simp (disch := omega) only [lt_nI]
    rcases Nat.lt_or_ge m a with y | y
    · rw [if_pos y]
    · rw [if_neg (by omega)]
      rcases Nat.lt_or_ge b m with x | x
      · rw [if_pos x]
      · exact absurd rfl (h m y x)
theorem noMember_yes (h : I 72 0 = nI (nn R)) (hn : nn R ≤ 10) {m : Nat} (hm : m < nn R) : f_X6_noMember k (nI m) I = some (nI 0) := by
  unfold f_X6_noMember
  rw [cl_nI (by decide), h, sub_nI (by omega), in_yes (by decide) (by omega) (by omega) (by omega) (by omega), if_neg (by decide)]
theorem noMember_no (h : I 72 0 = nI (nn R)) (hn : nn R ≤ 10) {v : Int32} (hv : ∀ m, m < nn R → v ≠ nI m) : f_X6_noMember k v I = some (nI 1) := by
  unfold f_X6_noMember
  rw [cl_nI (by decide), h]
  by_cases e : nn R = 0
  · rw [e]
    have : f_X6_in v (nI 0) (nI 0 - nI 1) = nI 0 := by
      unfold f_X6_in
      rcases int_cases v with z | ⟨m, h1, rfl⟩
      · rw [if_pos (neg_lt z (by decide))]
      · simp (disch := omega) only [lt_nI]
        rw [if_neg (by omega), if_pos (neg_lt (by decide) h1)]
    rw [this, if_pos (by decide)]
  · rw [sub_nI (by omega), in_no (by decide) (by omega) (fun m h1 h2 => hv m (by omega)), if_pos (by decide)]
end MA
