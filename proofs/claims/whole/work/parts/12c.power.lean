/-! the class works out the power: blocs, coalitions -/
def P1 (I : Mem) (R : Nat → Int32) : Prop := (I 53 0 = nI (nn R) ∧ I 53 1 = nI (qq R) ∧ I 53 2 = nI (vmk R) ∧ I 53 4 = nI (msk (nn R) (pl R))) ∧ ∀ m, m < nn R → I 54 m = nI (bmk R m) ∧ I 55 m = nI (wof R (bmk R m))
def P2 (I : Mem) (R : Nat → Int32) : Prop := I 53 3 = nI (nb R) ∧ I 53 9 = nI (2 ^ nb R) ∧ ∀ s, s < 2 ^ nb R → I 56 s = nI (mset R s) ∧ I 57 s = nI (wof R (mset R s))
section PO
variable {k : Nat} {I J K : Mem} {R : Nat → Int32} {q : Nat}
theorem wof_or (a b : Nat) (h : ∀ i, a.testBit i = true → b.testBit i = false) : wof R (a ||| b) = wof R a + wof R b := by
  unfold wof
  rw [← sm_add]
  refine sm_congr (fun i _ => ?_)
  unfold wset
  rw [Nat.testBit_or]
  cases ha : a.testBit i
  · cases b.testBit i <;> simp
  · rw [h i ha]
    simp
theorem mset_hi (hW : WF R) {m s : Nat} (hm : m < nn R) (hs : s.testBit (bo R m) = false) : ∀ i, (mset R s).testBit i = true → (bmk R m).testBit i = false := by
  intro i hi
  rw [tb_mset] at hi
  have hi2 : i < nn R ∧ s.testBit (bo R i) = true := by simpa using hi
  rw [tb_bmk]
  have : bl R i ≠ bl R m := fun e => by
    rw [(bo_eq hW hi2.1 hm).mpr e, hs] at hi2
    exact absurd hi2.2 (by decide)
  simp [this]
theorem repeat_eq (hW : WF R) {m : Nat} (hm : m < nn R) (hpl : pl R m = true) (h9 : I 53 9 = nI (2 ^ bo R m)) (h54 : I 54 m = nI (bmk R m)) (h55 : I 55 m = nI (wof R (bmk R m))) (hs : ∀ s, s < 2 ^ bo R m → I 56 s = nI (mset R s) ∧ I 57 s = nI (wof R (mset R s))) (hk : 2000 ≤ k) : ∃ J, f_X2_repeatCoalitionsWith k (nI m) I = some J ∧ (J 53 9 = nI (2 ^ (bo R m + 1)) ∧ ∀ i, i ≠ 9 → J 53 i = I 53 i) ∧ (∀ s, s < 2 ^ (bo R m + 1) → J 56 s = nI (mset R s) ∧ J 57 s = nI (wof R (mset R s))) ∧ ∀ b, b ≠ 53 → b ≠ 56 → b ≠ 57 → J b = I b := by
  have hn := hW.n10
  have hbo := bo_nb hW hm
  have hnb := nb_le hW
  have hpw : 2 ^ (bo R m + 1) ≤ 1024 := pow10 (by omega)
  have hpe : 2 ^ (bo R m + 1) = 2 ^ bo R m + 2 ^ bo R m := by rw [Nat.pow_succ]; omega
  have hgen : ∀ s, s < 2 ^ bo R m → mset R (2 ^ bo R m + s) = mset R s ||| bmk R m ∧ wof R (mset R (2 ^ bo R m + s)) = wof R (mset R s) + wof R (bmk R m) := by
    intro s hs
    have e : 2 ^ bo R m + s = s ||| 2 ^ bo R m := by
      rw [Nat.or_comm, ← Nat.mul_one (2 ^ bo R m), Nat.two_pow_add_eq_or_of_lt hs]
    rw [e, mset_or hW hm]
    exact ⟨rfl, wof_or _ _ (mset_hi hW hm (Nat.testBit_lt_two_pow hs))⟩
  unfold f_X2_repeatCoalitionsWith
  rw [h9]
  generalize 2 ^ bo R m = c at *
  refine loopE (fun g s (J : Mem) => f_X2_repeatCoalitionsWith_7 k (nI m) (nI c) g (nI s) J) c (fun s J => (J 53 9 = nI (c + s) ∧ ∀ i, i ≠ 9 → J 53 i = I 53 i) ∧ (∀ i, i < c + s → J 56 i = nI (mset R i) ∧ J 57 i = nI (wof R (mset R i))) ∧ ∀ b, b ≠ 53 → b ≠ 56 → b ≠ 57 → J b = I b) (fun o => ∃ J, o = some J ∧ (J 53 9 = nI (2 ^ (bo R m + 1)) ∧ ∀ i, i ≠ 9 → J 53 i = I 53 i) ∧ (∀ s, s < 2 ^ (bo R m + 1) → J 56 s = nI (mset R s) ∧ J 57 s = nI (wof R (mset R s))) ∧ ∀ b, b ≠ 53 → b ≠ 56 → b ≠ 57 → J b = I b) (fun g J hJ => ?_) (fun g s J hs' hJ => ?_) c 0 k I (by omega) (by omega) ⟨⟨h9, fun _ _ => rfl⟩, hs, fun _ _ _ _ => rfl⟩
  · simp (disch := omega) only [f_X2_repeatCoalitionsWith_7, le_nI, if_pos]
    rw [hpe]
    exact ⟨J, rfl, hJ⟩
  · obtain ⟨⟨j1, j2⟩, j3, j4⟩ := hJ
    have e54 : J 54 m = nI (bmk R m) := by rw [j4 _ (by decide) (by decide) (by decide)]; exact h54
    have e55 : J 55 m = nI (wof R (bmk R m)) := by rw [j4 _ (by decide) (by decide) (by decide)]; exact h55
    have js := j3 s (by omega)
    obtain ⟨g1, g2⟩ := hgen s hs'
    simp (disch := omega) only [f_X2_repeatCoalitionsWith_7, le_nI, if_neg, nI_add, inBn, if_pos, cl_nI, js.1, e54, or_nI, Option.bind_some, up2_nea, js.2, e55, j1]
    refine ⟨_, rfl, ⟨up2_eq _ _ _ _, fun i hi => ?_⟩, fun i hi => ⟨?_, ?_⟩, fun b h1 h2 h3 => ?_⟩
    · rw [up2_nei _ _ _ _ hi, up2_nea _ _ _ _ (by decide), up2_nea _ _ _ _ (by decide), j2 i hi]
    · rw [up2_nea _ _ _ _ (by decide), up2_nea _ _ _ _ (by decide)]
      by_cases e : i = c + s
      · rw [e, up2_eq, g1]
      · rw [up2_nei _ _ _ _ e]; exact (j3 i (by omega)).1
    · rw [up2_nea _ _ _ _ (by decide)]
      by_cases e : i = c + s
      · rw [e, up2_eq, g2]
      · rw [up2_nei _ _ _ _ e, up2_nea _ _ _ _ (by decide)]; exact (j3 i (by omega)).2
    · rw [up2_nea _ _ _ _ h1, up2_nea _ _ _ _ h3, up2_nea _ _ _ _ h2, j4 b h1 h2 h3]
theorem mset0 : mset R 0 = 0 := sm_zero (fun i _ => by simp)
theorem wof0 : wof R 0 = 0 := sm_zero (fun i _ => by unfold wset; simp)
theorem listCoal_eq (hW : WF R) (h : P1 I R) (hk : 2000 ≤ k) : ∃ J, f_X2_listCoalitions k I = some J ∧ (J 53 9 = nI (2 ^ nb R) ∧ ∀ i, i ≠ 9 → J 53 i = I 53 i) ∧ (∀ s, s < 2 ^ nb R → J 56 s = nI (mset R s) ∧ J 57 s = nI (wof R (mset R s))) ∧ ∀ b, b ≠ 53 → b ≠ 56 → b ≠ 57 → J b = I b := by
  have hn := hW.n10
  have hnb := nb_le hW
  have hml : msk (nn R) (pl R) < 1024 := Nat.lt_of_lt_of_le (msk_lt _ _) (pow10 hn)
  unfold f_X2_listCoalitions
  rw [Option.bind_some]
  refine loopE (fun g m (J : Mem) => f_X2_listCoalitions_21 k g (nI m) J) (nn R) (fun m J => (J 53 9 = nI (2 ^ cnt m (pl R)) ∧ ∀ i, i ≠ 9 → J 53 i = I 53 i) ∧ (∀ s, s < 2 ^ cnt m (pl R) → J 56 s = nI (mset R s) ∧ J 57 s = nI (wof R (mset R s))) ∧ ∀ b, b ≠ 53 → b ≠ 56 → b ≠ 57 → J b = I b) (fun o => ∃ J, o = some J ∧ (J 53 9 = nI (2 ^ nb R) ∧ ∀ i, i ≠ 9 → J 53 i = I 53 i) ∧ (∀ s, s < 2 ^ nb R → J 56 s = nI (mset R s) ∧ J 57 s = nI (wof R (mset R s))) ∧ ∀ b, b ≠ 53 → b ≠ 56 → b ≠ 57 → J b = I b) (fun g J hJ => ?_) (fun g m J hm hJ => ?_) (nn R) 0 k _ (by omega) (by omega) ⟨⟨up2_eq _ _ _ _, fun i hi => by rw [up2_nei _ _ _ _ hi, up2_nea _ _ _ _ (by decide), up2_nea _ _ _ _ (by decide)]⟩, fun s hs => ?_, fun b h1 h2 h3 => by rw [up2_nea _ _ _ _ h1, up2_nea _ _ _ _ h3, up2_nea _ _ _ _ h2]⟩
  · have e0 : J 53 0 = nI (nn R) := by rw [hJ.1.2 _ (by decide)]; exact h.1.1
    simp (disch := omega) only [f_X2_listCoalitions_21, e0, le_nI, if_pos]
    exact ⟨J, rfl, hJ⟩
  · obtain ⟨⟨j1, j2⟩, j3, j4⟩ := hJ
    have e0 : J 53 0 = nI (nn R) := by rw [j2 _ (by decide)]; exact h.1.1
    have e4 : J 53 4 = nI (msk (nn R) (pl R)) := by rw [j2 _ (by decide)]; exact h.1.2.2.2
    have htb : (msk (nn R) (pl R)).testBit m = pl R m := by rw [tb_msk]; simp [hm]
    simp (disch := omega) only [f_X2_listCoalitions_21, e0, le_nI, if_neg, e4, holds_nI, htb, b1_0, nI_add, cnt_s]
    cases hp : pl R m
    · rw [if_pos rfl]
      exact ⟨J, rfl, ⟨j1, j2⟩, j3, j4⟩
    · rw [if_neg (by decide)]
      have ebo := bo_pl hp
      rw [← ebo] at j1 j3 ⊢
      obtain ⟨K, k1, ⟨k2, k3⟩, k4, k5⟩ := repeat_eq hW hm hp j1 (by rw [j4 _ (by decide) (by decide) (by decide)]; exact (h.2 m hm).1) (by rw [j4 _ (by decide) (by decide) (by decide)]; exact (h.2 m hm).2) j3 hk
      rw [k1]
      exact ⟨K, rfl, ⟨k2, fun i hi => by rw [k3 i hi, j2 i hi]⟩, k4, fun b h1 h2 h3 => by rw [k5 b h1 h2 h3, j4 b h1 h2 h3]⟩
  · have : s = 0 := by
      have : s < 1 := hs
      omega
    subst this
    rw [mset0, wof0]
    refine ⟨?_, ?_⟩
    · rw [up2_nea _ _ _ _ (by decide), up2_nea _ _ _ _ (by decide)]
      exact up2_eq _ _ _ _
    · rw [up2_nea _ _ _ _ (by decide)]
      exact up2_eq _ _ _ _
end PO
