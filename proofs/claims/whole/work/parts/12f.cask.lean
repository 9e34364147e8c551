/-! the class's questions of the power -/
theorem sm_split {a c : Nat} {f : Nat → Nat} : sm (a + c) f = sm a f + sm c (fun i => f (a + i)) := by
  induction c with
  | zero => rfl
  | succ c ih =>
    show sm (a + c) f + f (a + c) = _
    rw [ih, sm]
    omega
theorem cnt_split {a c : Nat} {p : Nat → Bool} : cnt (a + c) p = cnt a p + cnt c (fun i => p (a + i)) := sm_split
theorem cnt_flip : ∀ (n b : Nat), b < n → ∀ f : Nat → Bool, cnt (2 ^ n) (fun s => s.testBit b && f s) = cnt (2 ^ n) (fun s => !s.testBit b && f (s ||| 2 ^ b)) := by
  intro n
  induction n with
  | zero => intro b hb; omega
  | succ n ih =>
    intro b hb f
    have e : 2 ^ (n + 1) = 2 ^ n + 2 ^ n := by rw [Nat.pow_succ]; omega
    have hup : ∀ i, i < 2 ^ n → 2 ^ n + i = i ||| 2 ^ n := fun i hi => by
      rw [Nat.or_comm, ← Nat.mul_one (2 ^ n), Nat.two_pow_add_eq_or_of_lt hi]
    rw [e, cnt_split, cnt_split]
    by_cases hbn : b = n
    · subst hbn
      have z1 : cnt (2 ^ b) (fun s => s.testBit b && f s) = 0 := sm_zero (fun i hi => by
        show b1 (i.testBit b && f i) = 0
        rw [Nat.testBit_lt_two_pow hi]
        rfl)
      have z2 : cnt (2 ^ b) (fun i => !(2 ^ b + i).testBit b && f ((2 ^ b + i) ||| 2 ^ b)) = 0 := sm_zero (fun i hi => by
        show b1 (!(2 ^ b + i).testBit b && f ((2 ^ b + i) ||| 2 ^ b)) = 0
        rw [hup i hi, Nat.testBit_or, Nat.testBit_two_pow_self]
        simp [b1])
      rw [z1, z2, Nat.zero_add, Nat.add_zero]
      refine cnt_congr (fun i hi => ?_)
      rw [hup i hi, Nat.testBit_or, Nat.testBit_two_pow_self, Nat.testBit_lt_two_pow hi]
      simp
    · have h1 := ih b (by omega) f
      have h2 := ih b (by omega) (fun i => f (2 ^ n + i))
      rw [h1]
      congr 1
      have tb : ∀ i, (2 ^ n + i).testBit b = i.testBit b := fun i => Nat.testBit_two_pow_add_gt (by omega) _
      have hpb : 2 ^ b < 2 ^ n := Nat.pow_lt_pow_right (by decide) (by omega)
      rw [cnt_congr (q := fun i => i.testBit b && f (2 ^ n + i)) (fun i _ => by rw [tb]), h2]
      refine cnt_congr (fun i hi => ?_)
      rw [tb, hup i hi, hup _ (Nat.or_lt_two_pow hi hpb), Nat.or_assoc, Nat.or_assoc, Nat.or_comm (2 ^ n)]
section CK
variable {k : Nat} {I J : Mem} {R : Nat → Int32} {q : Nat}
theorem ww_mono {a b : Nat} (h : ∀ i, a.testBit i = true → b.testBit i = true) (hw : ww R q a = true) : ww R q b = true :=
  winm_mono (fun i hi => by
    rw [tb_mset] at hi ⊢
    simp at hi ⊢
    exact ⟨hi.1, h _ hi.2⟩) hw
theorem ww_or {s b : Nat} (hw : ww R q s = true) : ww R q (s ||| 2 ^ b) = true := ww_mono (fun i hi => by rw [Nat.testBit_or, hi]; rfl) hw
/-- the winning coalitions without the bloc -/
def W0 (R : Nat → Int32) (q b : Nat) : Nat := cnt (2 ^ nb R) (fun s => !s.testBit b && ww R q s)
theorem rin_m (hW : WF R) {m s : Nat} (hm : m < nn R) : rin R m s = s.testBit (bo R m) := by
  have hn := hW.n10
  unfold rin
  rw [tb_mset]
  have e1 : (m == 10) = false := by simp; omega
  simp [e1, hm]
theorem WN_m (hW : WF R) {m : Nat} (hm : m < nn R) : WN R m q = W0 R q (bo R m) + swB R q (bo R m) := by
  have e1 : WN R m q = cnt (2 ^ nb R) (fun s => s.testBit (bo R m) && ww R q s) := cnt_congr (fun s _ => by rw [rin_m hW hm, Bool.and_comm])
  rw [e1, cnt_flip _ _ (bo_nb hW hm)]
  unfold W0 swB sws
  refine cnt_add (fun s _ => ?_)
  have hmono := @ww_or R q s (bo R m)
  revert hmono
  cases s.testBit (bo R m) <;> cases ww R q s <;> cases ww R q (s ||| 2 ^ bo R m) <;> simp [b1]
theorem WN_10 (hW : WF R) {m : Nat} (hm : m < nn R) : WN R 10 q = WN R m q + W0 R q (bo R m) := by
  unfold WN W0
  refine cnt_add (fun s _ => ?_)
  rw [rin_m hW hm]
  have : rin R 10 s = true := rfl
  rw [this]
  cases s.testBit (bo R m) <;> cases ww R q s <;> simp [b1]
theorem WN_all : WN R 10 q = cnt (2 ^ nb R) (ww R q) := cnt_congr (fun s _ => by
  have : rin R 10 s = true := rfl
  rw [this, Bool.and_true])
theorem WN_le (hW : WF R) (r : Nat) : WN R r q ≤ 1024 := Nat.le_trans cnt_le (two_nb hW)
theorem swings_c (hW : WF R) (h : PWN I R) {m : Nat} (hm : m < nn R) (hq : q ≤ 500) : f_X2_swings k (nI m) (nI q) I = some (nI (swB R q (bo R m))) := by
  have hn := hW.n10
  have e1 := h m (by omega) q hq
  have e2 := h 10 (by omega) q hq
  have w1 := WN_m (q := q) hW hm
  have w2 := WN_10 (q := q) hW hm
  unfold f_X2_swings
  rw [if_pos (by rw [inBn (by omega)]; omega), if_pos (by rw [inBn (by omega)]; omega), if_pos (by rw [inBn (by omega)]; omega), cl_nI (by omega), cl_nI (by omega), cl_nI (by omega), e1, e2, sub_nI (by omega), sub_nI (by omega)]
  exact congrArg some (congrArg nI (by omega))
theorem winC_c (h : PWN I R) (hq : q ≤ 500) : f_X2_winningCoalitions k (nI q) I = some (nI (cnt (2 ^ nb R) (ww R q))) := by
  unfold f_X2_winningCoalitions
  rw [if_pos (by rw [inBn (by omega)]; omega), cl_nI (by omega), cl_nI (by omega), h 10 (by omega) q hq, WN_all]
theorem isDummy_c (hW : WF R) (h : PWN I R) {m : Nat} (hm : m < nn R) (hq : q ≤ 500) : f_X2_isDummy k (nI m) (nI q) I = some (nI (b1 (swB R q (bo R m) == 0))) := by
  have hs := swB_le hW q (bo R m)
  unfold f_X2_isDummy
  rw [swings_c hW h hm hq, Option.bind_some]
  simp (disch := omega) only [eq0_nI]
  by_cases e : swB R q (bo R m) = 0 <;> simp [e, b1]
theorem swAll_c (hW : WF R) (h1 : P1 I R) (h : PWN I R) (hk : 2000 ≤ k) (hq : q ≤ 500) : f_X2_swingsOfAll k (nI q) I = some (nI (sm (nb R) (swB R q))) := by
  have hn := hW.n10
  have hml : msk (nn R) (pl R) < 1024 := Nat.lt_of_lt_of_le (msk_lt _ _) (pow10 hn)
  refine loop0 (fun g m => f_X2_swingsOfAll_4 k I (nI q) g (nI (sm (cnt m (pl R)) (swB R q))) (nI m)) (nn R) _ (by omega) (fun g => ?_) (fun g m hm => ?_)
  · simp (disch := omega) only [f_X2_swingsOfAll_4, h1.1.1, le_nI, if_pos]
    rfl
  · have htb : (msk (nn R) (pl R)).testBit m = pl R m := by rw [tb_msk]; simp [hm]
    simp (disch := omega) only [f_X2_swingsOfAll_4, h1.1.1, le_nI, if_neg, h1.1.2.2.2, holds_nI, htb, b1_0, swings_c hW h hm hq, Option.bind_some, nI_add, cnt_s]
    cases d : pl R m
    · rw [if_pos rfl]
      rfl
    · rw [if_neg (by decide), bo_pl d]
      rfl
theorem dummies_c (hW : WF R) (h1 : P1 I R) (h : PWN I R) (hk : 2000 ≤ k) (hq : q ≤ 500) : f_X2_dummies k (nI q) I = some (nI (cnt (nb R) (fun b => swB R q b == 0))) := by
  have hn := hW.n10
  have hml : msk (nn R) (pl R) < 1024 := Nat.lt_of_lt_of_le (msk_lt _ _) (pow10 hn)
  refine loop0 (fun g m => f_X2_dummies_4 k I (nI q) g (nI (cnt (cnt m (pl R)) (fun b => swB R q b == 0))) (nI m)) (nn R) _ (by omega) (fun g => ?_) (fun g m hm => ?_)
  · simp (disch := omega) only [f_X2_dummies_4, h1.1.1, le_nI, if_pos]
    rfl
  · have htb : (msk (nn R) (pl R)).testBit m = pl R m := by rw [tb_msk]; simp [hm]
    have e : cnt (m + 1) (pl R) = cnt m (pl R) + b1 (pl R m) := cnt_s _ _
    simp (disch := omega) only [f_X2_dummies_4, h1.1.1, le_nI, if_neg, h1.1.2.2.2, holds_nI, htb, b1_0, isDummy_c hW h hm hq, Option.bind_some, nI_add, e]
    cases d : pl R m
    · rw [if_pos rfl]
      rfl
    · rw [if_neg (by decide), bo_pl d]
      show _ = f_X2_dummies_4 k I (nI q) g (nI (cnt (cnt m (pl R)) (fun b => swB R q b == 0) + b1 (swB R q (cnt m (pl R)) == 0))) (nI (m + 1))
      cases swB R q (cnt m (pl R)) == 0
      · rw [if_pos rfl]
        rfl
      · rw [if_neg (by decide)]
        rfl
theorem all_tb (n i : Nat) : (2 ^ n - 1).testBit i = decide (i < n) := Nat.testBit_two_pow_sub_one n i
theorem blk_iff (hW : WF R) {m : Nat} (hm : m < nn R) : (decide (0 < WN R 10 q) && WN R m q == WN R 10 q) = blkB R q (bo R m) := by
  have hp : 1 ≤ 2 ^ nb R := Nat.one_le_two_pow
  have hbo := bo_nb hW hm
  have h10 := WN_10 (q := q) hW hm
  have hlt : adn (2 ^ nb R - 1) (2 ^ bo R m) < 2 ^ nb R := adn_le _ _ _ (by omega)
  have sub : ∀ s, s < 2 ^ nb R → ∀ i, s.testBit i = true → (2 ^ nb R - 1).testBit i = true := fun s hs i hi => by
    rw [all_tb, decide_eq_true_eq]
    rcases Nat.lt_or_ge i (nb R) with z | z
    · exact z
    · rw [Nat.testBit_lt_two_pow (Nat.lt_of_lt_of_le hs (Nat.pow_le_pow_right (by decide) z))] at hi
      cases hi
  have a1 : 0 < WN R 10 q ↔ ww R q (2 ^ nb R - 1) = true := by
    rw [WN_all, cnt_pos]
    constructor
    · intro ⟨s, h1, h2⟩
      exact ww_mono (sub s h1) h2
    · intro h
      exact ⟨2 ^ nb R - 1, by omega, h⟩
  have a2 : 0 < W0 R q (bo R m) ↔ ww R q (adn (2 ^ nb R - 1) (2 ^ bo R m)) = true := by
    unfold W0
    rw [cnt_pos]
    constructor
    · intro ⟨s, h1, h2⟩
      simp at h2
      refine ww_mono (fun i hi => ?_) h2.2
      rw [tb_adn, sub s h1 i hi, Nat.testBit_two_pow]
      simp
      intro e
      rw [e, hi] at h2
      exact absurd h2.1 (by decide)
    · intro h
      refine ⟨_, hlt, ?_⟩
      rw [h, tb_adn, Nat.testBit_two_pow_self]
      simp
  unfold blkB
  rw [Bool.eq_iff_iff]
  simp only [Bool.and_eq_true, decide_eq_true_eq, beq_iff_eq, a1, Bool.not_eq_true']
  constructor
  · intro ⟨h1, h2⟩
    refine ⟨h1, ?_⟩
    cases hh : ww R q (adn (2 ^ nb R - 1) (2 ^ bo R m))
    · rfl
    · have := a2.mpr hh
      omega
  · intro ⟨h1, h2⟩
    refine ⟨h1, ?_⟩
    rcases Nat.eq_zero_or_pos (W0 R q (bo R m)) with z | z
    · omega
    · rw [a2.mp z] at h2
      cases h2
theorem isBlocker_c (hW : WF R) (h : PWN I R) {m : Nat} (hm : m < nn R) (hq : q ≤ 500) : f_X2_isBlocker k (nI m) (nI q) I = some (nI (b1 (blkB R q (bo R m)))) := by
  have hn := hW.n10
  have e1 := h m (by omega) q hq
  have e2 := h 10 (by omega) q hq
  have l1 := WN_le (q := q) hW 10
  have l2 := WN_le (q := q) hW m
  rw [← blk_iff hW hm]
  unfold f_X2_isBlocker
  simp (disch := omega) only [inBn, if_pos, cl_nI, e1, e2, le0_nI, eq_nI]
  by_cases z : WN R 10 q = 0
  · simp [z, b1]
  · by_cases y : WN R m q = WN R 10 q
    · have this : 0 < WN R 10 q := by omega
      rw [if_neg z, if_pos y, decide_eq_true this, y, beq_self_eq_true]
      rfl
    · simp [z, y, b1]
theorem blockers_c (hW : WF R) (h1 : P1 I R) (h : PWN I R) (hk : 2000 ≤ k) (hq : q ≤ 500) : f_X2_blockers k (nI q) I = some (nI (cnt (nb R) (blkB R q))) := by
  have hn := hW.n10
  have hml : msk (nn R) (pl R) < 1024 := Nat.lt_of_lt_of_le (msk_lt _ _) (pow10 hn)
  refine loop0 (fun g m => f_X2_blockers_4 k I (nI q) g (nI (cnt (cnt m (pl R)) (blkB R q))) (nI m)) (nn R) _ (by omega) (fun g => ?_) (fun g m hm => ?_)
  · simp (disch := omega) only [f_X2_blockers_4, h1.1.1, le_nI, if_pos]
    rfl
  · have htb : (msk (nn R) (pl R)).testBit m = pl R m := by rw [tb_msk]; simp [hm]
    have e : cnt (m + 1) (pl R) = cnt m (pl R) + b1 (pl R m) := cnt_s _ _
    simp (disch := omega) only [f_X2_blockers_4, h1.1.1, le_nI, if_neg, h1.1.2.2.2, holds_nI, htb, b1_0, isBlocker_c hW h hm hq, Option.bind_some, nI_add, e]
    cases d : pl R m
    · rw [if_pos rfl]
      rfl
    · rw [if_neg (by decide), bo_pl d]
      show _ = f_X2_blockers_4 k I (nI q) g (nI (cnt (cnt m (pl R)) (blkB R q) + b1 (blkB R q (cnt m (pl R))))) (nI (m + 1))
      cases blkB R q (cnt m (pl R))
      · rw [if_pos rfl]
        rfl
      · rw [if_neg (by decide)]
        rfl
end CK
