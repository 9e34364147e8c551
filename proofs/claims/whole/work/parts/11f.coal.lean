/-! coalitions: sets of bloc numbers and sets of members -/
def mset (R : Nat → Int32) (s : Nat) : Nat := msk (nn R) (fun j => s.testBit (bo R j))
def gb (R : Nat → Int32) (p : Nat → Bool) (M : Nat) : Nat := msk 10 (fun b => decide (0 < cnt M (fun j => p j && bo R j == b)))
theorem isIn_nI {s b : Nat} (hs : s < 2 ^ 31) (hb : b < 31) : f_X6_isIn (nI s) (nI b) = nI (b1 (s.testBit b)) := by
  unfold f_X6_isIn
  rw [shr_nI hs hb, and1_nI, Nat.testBit_eq_decide_div_mod_eq]
  have := Nat.mod_lt (s / 2 ^ b) (show 0 < 2 by decide)
  simp only [eq_nI (show s / 2 ^ b % 2 < 2 ^ 31 by omega) (show 1 < 2 ^ 31 by decide)]
  by_cases e : s / 2 ^ b % 2 = 1 <;> simp [e, b1]
theorem sub_tb {a b : Nat} : (adn a b = 0) = (∀ i, a.testBit i = true → b.testBit i = true) := by
  apply propext
  constructor
  · intro e i h
    have := congrArg (fun z => z.testBit i) e
    simp only [tb_adn, Nat.zero_testBit, h] at this
    simpa using this
  · intro h
    apply tb_ext
    intro i
    rw [tb_adn, Nat.zero_testBit]
    cases ha : a.testBit i
    · rfl
    · rw [h i ha]
      rfl
theorem cnt_pos {n : Nat} {p : Nat → Bool} : 0 < cnt n p ↔ ∃ j, j < n ∧ p j = true := by
  constructor
  · intro h
    obtain ⟨m, h1, h2, _⟩ := cnt_nth h
    exact ⟨m, h1, h2⟩
  · intro ⟨j, h1, h2⟩
    have := cnt_lt h1 h2
    omega
theorem ldp_congr {R : Nat → Int32} {a b : Nat} (h : bl R a = bl R b) : ∀ j, ldp R a j = ldp R b j
  | 0 => h
  | j + 1 => by
    rw [ldp, ldp, ldp_congr h j, h]
section CO2
variable {k : Nat} {I J : Mem} {R : Nat → Int32} {p : Nat → Bool}
theorem tb_mset (s j : Nat) : (mset R s).testBit j = (decide (j < nn R) && s.testBit (bo R j)) := tb_msk _ _ _
theorem mset_lt (hW : WF R) (s : Nat) : mset R s < 1024 := Nat.lt_of_lt_of_le (msk_lt _ _) (pow10 hW.n10)
theorem tb_gb (hW : WF R) {M b : Nat} (hM : M ≤ nn R) : (gb R p M).testBit b = decide (0 < cnt M (fun j => p j && bo R j == b)) := by
  unfold gb
  rw [tb_msk]
  by_cases h : b < 10
  · simp [h]
  · have : cnt M (fun j => p j && bo R j == b) = 0 := sm_zero (fun i hi => by
      have := bo_nb hW (show i < nn R by omega)
      have := nb_le hW
      have e : (bo R i == b) = false := by simp; omega
      show b1 (p i && bo R i == b) = 0
      rw [e]
      simp [b1])
    simp [h, this]
theorem gb_s (hW : WF R) {M : Nat} (hM : M < nn R) : gb R p (M + 1) = if p M then gb R p M ||| 2 ^ bo R M else gb R p M := by
  apply tb_ext
  intro b
  rw [tb_gb hW hM, cnt_s]
  cases hv : p M
  · rw [if_neg (by decide), tb_gb hW (by omega)]
    simp [b1]
  · rw [if_pos rfl, Nat.testBit_or, tb_gb hW (by omega), Nat.testBit_two_pow]
    by_cases e : bo R M = b
    · simp [e, b1]
    · have e2 : (bo R M == b) = false := by simpa using e
      simp [e, e2, b1]
theorem gb_lt (M : Nat) : gb R p M < 1024 := msk_lt 10 _
theorem mset_gb (hW : WF R) (hp : ∀ i j, i < nn R → j < nn R → bl R i = bl R j → p i = p j) : mset R (gb R p (nn R)) = msk (nn R) p := by
  apply tb_ext
  intro j
  rw [tb_mset, tb_msk, tb_gb hW (Nat.le_refl _)]
  by_cases hj : j < nn R
  · simp only [hj, decide_true, Bool.true_and]
    rw [Bool.eq_iff_iff, decide_eq_true_eq, cnt_pos]
    constructor
    · intro ⟨i, h1, h2⟩
      simp at h2
      rw [← hp i j h1 hj ((bo_eq hW h1 hj).mp h2.2)]
      exact h2.1
    · intro h
      exact ⟨j, hj, by simp [h]⟩
  · simp [hj]
theorem mset_or (hW : WF R) {s m : Nat} (hm : m < nn R) : mset R (s ||| 2 ^ bo R m) = mset R s ||| bmk R m := by
  apply tb_ext
  intro j
  rw [tb_mset, Nat.testBit_or, Nat.testBit_or, tb_mset, tb_bmk, Nat.testBit_two_pow]
  by_cases hj : j < nn R
  · have := bo_eq hW hm hj
    have e : decide (bo R m = bo R j) = (bl R j == bl R m) := by
      rw [Bool.eq_iff_iff, decide_eq_true_eq, this, beq_iff_eq]
      exact eq_comm
    rw [e]
    simp [hj]
  · simp [hj]
theorem mset_adn (hW : WF R) {s m : Nat} (hm : m < nn R) : mset R (adn s (2 ^ bo R m)) = adn (mset R s) (bmk R m) := by
  apply tb_ext
  intro j
  rw [tb_mset, tb_adn, tb_adn, tb_mset, tb_bmk, Nat.testBit_two_pow]
  by_cases hj : j < nn R
  · have := bo_eq hW hm hj
    have e : decide (bo R m = bo R j) = (bl R j == bl R m) := by
      rw [Bool.eq_iff_iff, decide_eq_true_eq, this, beq_iff_eq]
      exact eq_comm
    rw [e]
    simp [hj]
  · simp [hj]
theorem cw_eq (hW : WF R) (s : Nat) : sm (nb R) (fun b => if s.testBit b then sm (nn R) (fun j => if bo R j == b then wt R j else 0) else 0) = wof R (mset R s) := by
  have e1 : sm (nb R) (fun b => if s.testBit b then sm (nn R) (fun j => if bo R j == b then wt R j else 0) else 0) = sm (nb R) (fun b => sm (nn R) (fun j => if s.testBit b && bo R j == b then wt R j else 0)) := by
    refine sm_congr (fun b _ => ?_)
    cases s.testBit b
    · rw [if_neg (by decide)]
      exact (sm_zero (fun j _ => by simp)).symm
    · rw [if_pos rfl]
      exact sm_congr (fun j _ => by simp)
  rw [e1, sm_comm]
  unfold wof wset
  refine sm_congr (fun j hj => ?_)
  rw [sm_one (bo_nb hW hj) (fun b _ hb => by
    have : (bo R j == b) = false := by simp; omega
    rw [this]
    simp), tb_mset]
  simp [hj]
theorem LB.nb (h : LB J R (nn R)) : J 71 8 = nI (_root_.Jvm.Pilot.@@N@@.nb R) := h.1
theorem weightOf_m (hW : WF R) (h : LB J R (nn R)) (hk : 2000 ≤ k) {s : Nat} (hs : s < 2 ^ 31) : f_X6_weightOf k (nI s) J = some (nI (wof R (mset R s))) := by
  have hnb := nb_le hW
  rw [← cw_eq hW s]
  refine loop0 (fun g b => f_X6_weightOf_4 k J (nI s) g (nI (sm b (fun b => if s.testBit b then sm (nn R) (fun j => if bo R j == b then wt R j else 0) else 0))) (nI b)) (nb R) _ (by omega) (fun g => ?_) (fun g b hb => ?_)
  · simp (disch := omega) only [f_X6_weightOf_4, h.nb, le_nI, if_pos]
  · simp (disch := omega) only [f_X6_weightOf_4, h.nb, le_nI, if_neg, isIn_nI, inBn, if_pos, cl_nI, (h.2.2.1 b hb).1, nI_add, b1_0, sm]
    cases s.testBit b <;> simp
theorem wins_iff (hW : WF R) (s : Nat) : ((s &&& vb R (nn R)) = vb R (nn R)) = (adn (vmk R) (mset R s) = 0) := by
  rw [sub_tb]
  apply propext
  constructor
  · intro e j hj
    rw [tb_vmk] at hj
    have hj2 : j < nn R ∧ vt R j = true := by simpa using hj
    rw [tb_mset]
    have h1 : (vb R (nn R)).testBit (bo R j) = true := by
      rw [tb_vb hW (Nat.le_refl _), decide_eq_true_eq, cnt_pos]
      exact ⟨j, hj2.1, by simp [hj2.2]⟩
    rw [← e, Nat.testBit_and] at h1
    simp [hj2.1]
    simp at h1
    exact h1.1
  · intro h
    apply tb_ext
    intro b
    rw [Nat.testBit_and]
    cases hb : (vb R (nn R)).testBit b
    · simp
    · rw [tb_vb hW (Nat.le_refl _), decide_eq_true_eq, cnt_pos] at hb
      obtain ⟨j, h1, h2⟩ := hb
      simp at h2
      have := h j (by rw [tb_vmk]; simp [h1, h2.1])
      rw [tb_mset, h2.2] at this
      simp [h1] at this
      simp [this]
theorem winsWith_m (hW : WF R) (h : LB J R (nn R)) (hk : 2000 ≤ k) {s q : Nat} (hs : s < 1024) (hq : q < 2 ^ 31) : f_X6_winsWith k (nI s) (nI q) J = some (nI (b1 (winm R q (mset R s)))) := by
  have h1 := wof_le hW (mset R s)
  have hv := vb_lt (R := R) (nn R)
  have h3 : s &&& vb R (nn R) < 1024 := Nat.lt_of_le_of_lt Nat.and_le_left hs
  unfold f_X6_winsWith winm
  rw [weightOf_m hW h hk (by omega)]
  simp (disch := omega) only [Option.bind_some, lt_nI, h.2.2.2, and_nI, eq_nI, wins_iff hW]
  by_cases e : q ≤ wof R (mset R s)
  · by_cases e2 : adn (vmk R) (mset R s) = 0 <;> simp [e, e2, Nat.not_lt.mpr e, b1]
  · simp [e, Nat.lt_of_not_le e, b1]
theorem leader_m (hW : WF R) (h : RW J R) (hk : 2000 ≤ k) {m : Nat} (hm : m < nn R) : f_X6_leader k (nI m) J = some (nI (ld R m)) := by
  have hn := hW.n10
  have hble := hW.bl_le hm
  unfold f_X6_leader
  rw [nI_add, if_pos (by rw [inBn (by omega)]; omega), cl_nI (by omega), h.b hW hm]
  refine loop0 (fun g j => f_X6_leader_12 k J (nI m) g (nI (ldp R m j)) (nI j)) (nn R) _ (by omega) (fun g => ?_) (fun g j hj => ?_)
  · simp (disch := omega) only [f_X6_leader_12, cl_nI, h.n hW, le_nI, if_pos]
    rfl
  · have hl := ldp_lt hW hm j (by omega)
    have hw1 := hW.w50 hj
    have hw2 := hW.w50 hl
    have hbj := hW.bl_le hj
    simp (disch := omega) only [f_X6_leader_12, cl_nI, h.n hW, le_nI, if_neg, nI_add, inBn, if_pos, h.b hW hj, h.b hW hm, h.w hW hj, h.w hW hl, eq_nI, ldp]
    by_cases e : bl R j = bl R m
    · by_cases e2 : wt R j ≤ wt R (ldp R m j)
      · simp [e, e2, Nat.not_lt.mpr e2]
      · simp [e, e2, Nat.lt_of_not_le e2]
    · simp [e]
theorem winm_mono {q a b : Nat} (h : ∀ i, a.testBit i = true → b.testBit i = true) (hw : winm R q a = true) : winm R q b = true := by
  unfold winm at hw ⊢
  simp only [Bool.and_eq_true, decide_eq_true_eq, beq_iff_eq, sub_tb] at hw ⊢
  refine ⟨Nat.le_trans hw.1 (sm_mono (fun i hi => ?_)), fun i hi => h i (hw.2 i hi)⟩
  unfold wset
  cases ha : a.testBit i
  · simp
  · rw [h i ha]
    exact Nat.le_refl _
end CO2
