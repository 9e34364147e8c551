/-! the model lays the blocs -/
theorem cnt_nth {n b : Nat} {p : Nat → Bool} (h : b < cnt n p) : ∃ m, m < n ∧ p m = true ∧ cnt m p = b := by
  induction n with
  | zero => exact absurd h (Nat.not_lt_zero _)
  | succ n ih =>
    rw [cnt_s] at h
    rcases Nat.lt_or_ge b (cnt n p) with z | z
    · obtain ⟨m, h1, h2⟩ := ih z
      exact ⟨m, by omega, h2⟩
    · cases hp : p n
      · rw [hp] at h
        exact absurd h (by simp [b1]; omega)
      · rw [hp] at h
        exact ⟨n, by omega, hp, by simp [b1] at h; omega⟩
theorem cnt_mono {m n : Nat} {p : Nat → Bool} (h : m ≤ n) : cnt m p ≤ cnt n p := sm_pre h
theorem cnt_lt {m n : Nat} {p : Nat → Bool} (h : m < n) (hp : p m = true) : cnt m p < cnt n p := by
  have := cnt_mono (p := p) (show m + 1 ≤ n from h)
  rw [cnt_s, hp] at this
  simp [b1] at this
  omega
theorem cnt_inj {a b : Nat} {p : Nat → Bool} (ha : p a = true) (hb : p b = true) (h : cnt a p = cnt b p) : a = b := by
  rcases Nat.lt_trichotomy a b with z | z | z
  · have := cnt_lt z ha
    omega
  · exact z
  · have := cnt_lt z hb
    omega
/-- is the member the lowest of its bloc; the number of a member's bloc -/
def pl (R : Nat → Int32) (m : Nat) : Bool := bl R m == m
def bo (R : Nat → Int32) (m : Nat) : Nat := cnt (bl R m) (pl R)
theorem nb_pl (R : Nat → Int32) : nb R = cnt (nn R) (pl R) := rfl
def vb (R : Nat → Int32) (M : Nat) : Nat := msk 10 (fun b => decide (0 < cnt M (fun j => vt R j && bo R j == b)))
section LBs
variable {k : Nat} {I J : Mem} {R : Nat → Int32}
theorem pl_bl (hW : WF R) {m : Nat} (hm : m < nn R) : pl R (bl R m) = true := by
  unfold pl
  rw [hW.bl_bl hm]
  exact beq_self_eq_true _
theorem bo_lt (hW : WF R) {m M : Nat} (hm : m < M) (hM : M ≤ nn R) : bo R m < cnt M (pl R) := cnt_lt (Nat.lt_of_le_of_lt (hW.bl_le (by omega)) hm) (pl_bl hW (by omega))
theorem nb_le (hW : WF R) : nb R ≤ 10 := Nat.le_trans cnt_le hW.n10
theorem bo_nb (hW : WF R) {m : Nat} (hm : m < nn R) : bo R m < nb R := bo_lt hW hm (Nat.le_refl _)
theorem bo_eq (hW : WF R) {i j : Nat} (hi : i < nn R) (hj : j < nn R) : bo R i = bo R j ↔ bl R i = bl R j :=
  ⟨fun h => cnt_inj (pl_bl hW hi) (pl_bl hW hj) h, fun h => by unfold bo; rw [h]⟩
theorem bo_pl {m : Nat} (h : pl R m = true) : bo R m = cnt m (pl R) := by
  unfold bo
  unfold pl at h
  rw [eq_of_beq h]
def LB (J : Mem) (R : Nat → Int32) (M : Nat) : Prop := J 71 8 = nI (cnt M (pl R)) ∧ (∀ m, m < M → pl R m = true → J 76 (cnt m (pl R)) = nI m) ∧ (∀ b, b < cnt M (pl R) → J 77 b = nI (sm M (fun j => if bo R j == b then wt R j else 0)) ∧ J 78 b = nI (msk M (fun j => bo R j == b))) ∧ J 71 12 = nI (vb R M)
theorem blocOf_x (hW : WF R) (h : RW J R) (hk : 2000 ≤ k) {m : Nat} (hm : m < nn R) (hL : ∀ i, i ≤ bl R m → pl R i = true → J 76 (cnt i (pl R)) = nI i) : f_X6_blocOf k (nI m) J = some (nI (bo R m)) := by
  have hn := hW.n10
  have hb := hW.bl_le hm
  have hbo := bo_nb hW hm
  have hnb := nb_le hW
  refine loop0 (fun g b => f_X6_blocOf_2 k J (nI m) g (nI b)) (bo R m) _ (by omega) (fun g => ?_) (fun g b hlt => ?_)
  · have e := hL (bl R m) (Nat.le_refl _) (pl_bl hW hm)
    change J 76 (bo R m) = _ at e
    simp (disch := omega) only [f_X6_blocOf_2, inBn, nI_add, if_pos, cl_nI, e, h.b hW hm, if_true]
  · obtain ⟨i, i1, i2, i3⟩ := cnt_nth hlt
    have e := hL i (by omega) i2
    rw [i3] at e
    simp (disch := omega) only [f_X6_blocOf_2, inBn, nI_add, if_pos, cl_nI, e, h.b hW hm, eq_nI, if_neg]
theorem vb_lt (M : Nat) : vb R M < 1024 := msk_lt 10 _
theorem tb_vb (hW : WF R) {M b : Nat} (hM : M ≤ nn R) : (vb R M).testBit b = decide (0 < cnt M (fun j => vt R j && bo R j == b)) := by
  unfold vb
  rw [tb_msk]
  by_cases h : b < 10
  · simp [h]
  · have : cnt M (fun j => vt R j && bo R j == b) = 0 := sm_zero (fun i hi => by
      have := bo_nb hW (show i < nn R by omega)
      have := nb_le hW
      have e : (bo R i == b) = false := by simp; omega
      show b1 (vt R i && bo R i == b) = 0
      rw [e]
      simp [b1])
    simp [h, this]
theorem vb_s (hW : WF R) {M : Nat} (hM : M < nn R) : vb R (M + 1) = if vt R M then vb R M ||| 2 ^ bo R M else vb R M := by
  apply tb_ext
  intro b
  rw [tb_vb hW hM, cnt_s]
  cases hv : vt R M
  · rw [if_neg (by decide), tb_vb hW (by omega)]
    simp [b1]
  · rw [if_pos rfl, Nat.testBit_or, tb_vb hW (by omega), Nat.testBit_two_pow]
    by_cases e : bo R M = b
    · simp [e, b1]
    · have e2 : (bo R M == b) = false := by simpa using e
      simp [e, e2, b1]
theorem lay75 (hW : WF R) (h : RW J R) (hk : 2000 ≤ k) {M : Nat} (hM : M < nn R) (f : Int32 → Mem → Option Mem) (h8 : J 71 8 = nI (cnt (M + 1) (pl R))) (h76 : ∀ m, m < M + 1 → pl R m = true → J 76 (cnt m (pl R)) = nI m) (hB : ∀ b, b < cnt (M + 1) (pl R) → J 77 b = nI (sm M (fun j => if bo R j == b then wt R j else 0)) ∧ J 78 b = nI (msk M (fun j => bo R j == b))) (hV : J 71 12 = nI (vb R M)) : ∃ K, f_X6_layBlocs_75 k J (nI M) f = f (nI (M + 1)) K ∧ LB K R (M + 1) ∧ (∀ b, b ≠ 71 → b ≠ 76 → b ≠ 77 → b ≠ 78 → K b = J b) ∧ ∀ i, i ≠ 8 → i ≠ 12 → K 71 i = J 71 i := by
  have hn := hW.n10
  have hbo := bo_lt hW (show M < M + 1 by omega) hM
  have hc : cnt (M + 1) (pl R) ≤ M + 1 := cnt_le
  have hble := hW.bl_le hM
  have hvl := vb_lt (R := R) M
  have hBM := hB _ hbo
  unfold f_X6_layBlocs_75
  rw [blocOf_x hW h hk hM (fun i h1 h2 => h76 i (by omega) h2), Option.bind_some]
  have vs := vb_s hW hM
  simp (disch := omega) only [inBn, if_pos, nI_add, cl_nI, Option.bind_some, hBM.1, h.w hW hM, up2_nea, hBM.2, shl1_nI, or_nI, h.v hW hM, hV]
  have eB : ∀ b, b < cnt (M + 1) (pl R) → up2 (up2 J 77 (bo R M) (nI (sm M (fun j => if bo R j == bo R M then wt R j else 0) + wt R M))) 78 (bo R M) (nI (msk M (fun j => bo R j == bo R M) ||| 2 ^ M)) 77 b = nI (sm (M + 1) (fun j => if bo R j == b then wt R j else 0)) ∧ up2 (up2 J 77 (bo R M) (nI (sm M (fun j => if bo R j == bo R M then wt R j else 0) + wt R M))) 78 (bo R M) (nI (msk M (fun j => bo R j == bo R M) ||| 2 ^ M)) 78 b = nI (msk (M + 1) (fun j => bo R j == b)) := by
    intro b hb
    rw [up2_nea _ _ _ _ (by omega)]
    by_cases e : b = bo R M
    · subst e
      rw [up2_eq, up2_eq, msk_s, sm]
      simp only [beq_self_eq_true, if_true]
      rw [Nat.or_comm, Nat.add_comm (msk M _), ← Nat.mul_one (2 ^ M), Nat.two_pow_add_eq_or_of_lt (msk_lt _ _)]
      refine ⟨?_, ?_⟩ <;> first | trivial | rfl
    · have e2 : (bo R M == b) = false := by simp; omega
      rw [up2_nei _ _ _ _ e, up2_nei _ _ _ _ e, up2_nea _ _ _ _ (by omega), msk_s, sm, e2]
      exact hB b hb
  cases hv : vt R M
  · rw [hv, if_neg (by decide)] at vs
    rw [if_neg (by decide)]
    refine ⟨_, rfl, ⟨?_, fun m h1 h2 => ?_, fun b hb => ?_, ?_⟩, fun b h1 h2 h3 h4 => ?_, fun i h1 h2 => ?_⟩
    · rw [up2_nei _ _ _ _ (by decide), up2_nea _ _ _ _ (by omega), up2_nea _ _ _ _ (by omega)]; exact h8
    · rw [up2_nea _ _ _ _ (by omega), up2_nea _ _ _ _ (by omega), up2_nea _ _ _ _ (by omega)]; exact h76 m h1 h2
    · rw [up2_nea _ _ _ _ (by omega), up2_nea _ _ _ _ (by omega)]; exact eB b hb
    · rw [up2_eq, vs, Nat.or_zero]
    · rw [up2_nea _ _ _ _ h1, up2_nea _ _ _ _ h4, up2_nea _ _ _ _ h3]
    · rw [up2_nei _ _ _ _ h2, up2_nea _ _ _ _ (by omega), up2_nea _ _ _ _ (by omega)]
  · rw [hv, if_pos rfl] at vs
    rw [if_pos (by decide)]
    refine ⟨_, rfl, ⟨?_, fun m h1 h2 => ?_, fun b hb => ?_, ?_⟩, fun b h1 h2 h3 h4 => ?_, fun i h1 h2 => ?_⟩
    · rw [up2_nei _ _ _ _ (by decide), up2_nea _ _ _ _ (by omega), up2_nea _ _ _ _ (by omega)]; exact h8
    · rw [up2_nea _ _ _ _ (by omega), up2_nea _ _ _ _ (by omega), up2_nea _ _ _ _ (by omega)]; exact h76 m h1 h2
    · rw [up2_nea _ _ _ _ (by omega), up2_nea _ _ _ _ (by omega)]; exact eB b hb
    · rw [up2_eq, vs]
    · rw [up2_nea _ _ _ _ h1, up2_nea _ _ _ _ h4, up2_nea _ _ _ _ h3]
    · rw [up2_nei _ _ _ _ h2, up2_nea _ _ _ _ (by omega), up2_nea _ _ _ _ (by omega)]
theorem layBlocs_eq (hW : WF R) (h : RW I R) (hk : 2000 ≤ k) : ∃ J, f_X6_layBlocs k I = some J ∧ LB J R (nn R) ∧ (∀ b, b ≠ 71 → b ≠ 76 → b ≠ 77 → b ≠ 78 → J b = I b) ∧ ∀ i, i ≠ 8 → i ≠ 12 → J 71 i = I 71 i := by
  have hn := hW.n10
  unfold f_X6_layBlocs
  refine loopE (fun g m (J : Mem) => f_X6_layBlocs_12 k g (nI m) J) (nn R) (fun m J => LB J R m ∧ (∀ b, b ≠ 71 → b ≠ 76 → b ≠ 77 → b ≠ 78 → J b = I b) ∧ ∀ i, i ≠ 8 → i ≠ 12 → J 71 i = I 71 i) (fun o => ∃ J, o = some J ∧ LB J R (nn R) ∧ (∀ b, b ≠ 71 → b ≠ 76 → b ≠ 77 → b ≠ 78 → J b = I b) ∧ ∀ i, i ≠ 8 → i ≠ 12 → J 71 i = I 71 i) (fun g J hJ => ?_) (fun g m J hm hJ => ?_) (nn R) 0 k _ (by omega) (by omega) ⟨⟨?_, fun m hm => by omega, fun b hb => absurd hb (Nat.not_lt_zero _), ?_⟩, fun b h1 h2 h3 h4 => ?_, fun i h1 h2 => ?_⟩
  · have hR : RW J R := h.mono (hJ.2.1 _ (by omega) (by omega) (by omega) (by omega))
    simp (disch := omega) only [f_X6_layBlocs_12, cl_nI, hR.n hW, le_nI, if_pos]
    exact ⟨J, rfl, hJ⟩
  · obtain ⟨⟨l1, l2, l3, l4⟩, j2, j3⟩ := hJ
    have hR : RW J R := h.mono (j2 _ (by omega) (by omega) (by omega) (by omega))
    have hc : cnt m (pl R) ≤ m := cnt_le
    have hbm := hW.bl_le hm
    simp (disch := omega) only [f_X6_layBlocs_12, cl_nI, hR.n hW, le_nI, if_neg, nI_add, inBn, if_pos, hR.b hW hm, eq_nI]
    by_cases e : bl R m = m
    · have hpm : pl R m = true := by unfold pl; rw [e]; exact beq_self_eq_true _
      have ec : cnt (m + 1) (pl R) = cnt m (pl R) + 1 := by rw [cnt_s, hpm]; rfl
      rw [if_pos e]
      simp (disch := omega) only [l1, inBn, if_pos, cl_nI, up2_nea, Option.bind_some, nI_add]
      have hR2 : RW (up2 (up2 (up2 (up2 J 76 (cnt m (pl R)) (nI m)) 77 (cnt m (pl R)) (nI 0)) 78 (cnt m (pl R)) (nI 0)) 71 8 (nI (cnt m (pl R) + 1))) R := hR.mono (by rw [up2_nea _ _ _ _ (by omega), up2_nea _ _ _ _ (by omega), up2_nea _ _ _ _ (by omega), up2_nea _ _ _ _ (by omega)])
      obtain ⟨K, k1, k2, k3, k4⟩ := lay75 hW hR2 hk hm (f_X6_layBlocs_12 k g) (by rw [up2_eq, ec]) (fun i h1 h2 => by
        rw [up2_nea _ _ _ _ (by omega), up2_nea _ _ _ _ (by omega), up2_nea _ _ _ _ (by omega)]
        by_cases z : i = m
        · rw [z, up2_eq]
        · have := cnt_lt (show i < m by omega) h2
          rw [up2_nei _ _ _ _ (by omega)]
          exact l2 i (by omega) h2) (fun b hb => by
        rw [up2_nea _ _ _ _ (by omega), up2_nea _ _ _ _ (by omega)]
        by_cases z : b = cnt m (pl R)
        · have hz : ∀ j, j < m → (bo R j == b) = false := fun j hj => by
            have := bo_lt hW hj (by omega)
            simp
            omega
          constructor
          · rw [z, up2_eq, ← z, sm_zero (fun j hj => by rw [hz j hj]; rfl)]
          · rw [up2_nea _ _ _ _ (by omega), z, up2_eq, ← z]
            refine congrArg nI (Eq.symm (sm_zero (fun j hj => if_neg ?_)))
            show ¬ ((bo R j == b) = true)
            rw [hz j hj]
            decide
        · constructor
          · rw [up2_nei _ _ _ _ z, up2_nea _ _ _ _ (by omega)]
            exact (l3 b (by omega)).1
          · rw [up2_nea _ _ _ _ (by omega), up2_nei _ _ _ _ z, up2_nea _ _ _ _ (by omega), up2_nea _ _ _ _ (by omega)]
            exact (l3 b (by omega)).2) (by rw [up2_nei _ _ _ _ (by decide), up2_nea _ _ _ _ (by omega), up2_nea _ _ _ _ (by omega), up2_nea _ _ _ _ (by omega)]; exact l4)
      refine ⟨K, k1, k2, fun b h1 h2 h3 h4 => ?_, fun i h1 h2 => ?_⟩
      · rw [k3 b h1 h2 h3 h4, up2_nea _ _ _ _ h1, up2_nea _ _ _ _ h4, up2_nea _ _ _ _ h3, up2_nea _ _ _ _ h2, j2 b h1 h2 h3 h4]
      · rw [k4 i h1 h2, up2_nei _ _ _ _ h1, up2_nea _ _ _ _ (by omega), up2_nea _ _ _ _ (by omega), up2_nea _ _ _ _ (by omega), j3 i h1 h2]
    · have hpm : pl R m = false := by unfold pl; simpa using e
      have ec : cnt (m + 1) (pl R) = cnt m (pl R) := by rw [cnt_s, hpm]; rfl
      rw [if_neg e]
      obtain ⟨K, k1, k2, k3, k4⟩ := lay75 hW hR hk hm (f_X6_layBlocs_12 k g) (by rw [ec]; exact l1) (fun i h1 h2 => by
        rcases Nat.lt_or_ge i m with z | z
        · exact l2 i z h2
        · rw [show i = m by omega, hpm] at h2
          cases h2) (fun b hb => l3 b (by omega)) l4
      refine ⟨K, k1, k2, fun b h1 h2 h3 h4 => ?_, fun i h1 h2 => ?_⟩
      · rw [k3 b h1 h2 h3 h4, j2 b h1 h2 h3 h4]
      · rw [k4 i h1 h2, j3 i h1 h2]
  · rw [up2_nei _ _ _ _ (by decide), up2_eq]
    rfl
  · rw [up2_eq]
    refine congrArg nI (Eq.symm (sm_zero (fun j hj => ?_)))
    rfl
  · rw [up2_nea _ _ _ _ h1, up2_nea _ _ _ _ h1]
  · rw [up2_nei _ _ _ _ h2, up2_nei _ _ _ _ h1]
end LBs
