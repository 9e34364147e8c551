/-! the model holds a ballot -/
/-- J differs from I in the row and in what the blocs are laid in -/
def FB (I J : Mem) : Prop := (∀ b, b ≠ 71 → b ≠ 72 → b ≠ 76 → b ≠ 77 → b ≠ 78 → J b = I b) ∧ ∀ i, i ≠ 8 → i ≠ 12 → J 71 i = I 71 i
section HM
variable {k : Nat} {I J : Mem} {R : Nat → Int32} {len : Nat} {ch : Nat → Nat} {sg : Nat → Nat}
theorem LB.mono (h : LB I R (nn R)) (h1 : J 71 = I 71) (h2 : J 76 = I 76) (h3 : J 77 = I 77) (h4 : J 78 = I 78) : LB J R (nn R) := by
  unfold LB
  rw [h1, h2, h3, h4]
  exact h
theorem blocOf_m (hW : WF R) (h : RW J R) (hL : LB J R (nn R)) (hk : 2000 ≤ k) {m : Nat} (hm : m < nn R) : f_X6_blocOf k (nI m) J = some (nI (bo R m)) :=
  blocOf_x hW h hk hm (fun i h1 h2 => hL.2.1 i (by have := hW.bl_le hm; omega) h2)
/-- blocOf reads the row's blocs alone -/
theorem blocOf_m' (hW : WF R) (hb : ∀ j, 49 ≤ j → j < 59 → J 72 j = R j) (hL : LB J R (nn R)) (hk : 2000 ≤ k) {m : Nat} (hm : m < nn R) : f_X6_blocOf k (nI m) J = some (nI (bo R m)) := by
  have hn := hW.n10
  have hbm := hW.bl_le hm
  have hbo := bo_nb hW hm
  have hnb := nb_le hW
  have er : J 72 (49 + m) = nI (bl R m) := by rw [hb _ (by omega) (by omega)]; exact hW.rb hm
  have hL' : ∀ i, i ≤ bl R m → pl R i = true → J 76 (cnt i (pl R)) = nI i := fun i h1 h2 => hL.2.1 i (by omega) h2
  refine loop0 (fun g b => f_X6_blocOf_2 k J (nI m) g (nI b)) (bo R m) _ (by omega) (fun g => ?_) (fun g b hlt => ?_)
  · have e := hL' (bl R m) (Nat.le_refl _) (pl_bl hW hm)
    change J 76 (bo R m) = _ at e
    simp (disch := omega) only [f_X6_blocOf_2, inBn, nI_add, if_pos, cl_nI, e, er, if_true]
  · obtain ⟨i, i1, i2, i3⟩ := cnt_nth hlt
    have e := hL' i (by omega) i2
    rw [i3] at e
    simp (disch := omega) only [f_X6_blocOf_2, inBn, nI_add, if_pos, cl_nI, e, er, eq_nI, if_neg]
theorem swg_eq {pl m : Nat} (hm : (∀ j, (bmk R m).testBit j = true → pl.testBit j = true) ∨ (∀ j, (bmk R m).testBit j = true → pl.testBit j = false)) : (winm R (qq R) (pl ||| bmk R m) && !winm R (qq R) (adn pl (bmk R m))) = swg R pl m := by
  unfold swg
  rcases hm with h | h
  · have e1 : pl ||| bmk R m = pl := tb_ext (fun i => by
      rw [Nat.testBit_or]
      cases hb : (bmk R m).testBit i
      · simp
      · simp [h i hb])
    have e2 : pl ^^^ bmk R m = adn pl (bmk R m) := tb_ext (fun i => by
      rw [Nat.testBit_xor, tb_adn]
      cases hb : (bmk R m).testBit i
      · simp
      · simp [h i hb])
    have hmono := @winm_mono R (qq R) (adn pl (bmk R m)) pl (fun i hi => by rw [tb_adn] at hi; simp at hi; exact hi.1)
    rw [e1, e2]
    revert hmono
    cases winm R (qq R) (adn pl (bmk R m)) <;> cases winm R (qq R) pl <;> simp
  · have e1 : pl ^^^ bmk R m = pl ||| bmk R m := tb_ext (fun i => by
      rw [Nat.testBit_or, Nat.testBit_xor]
      cases hb : (bmk R m).testBit i
      · simp
      · simp [h i hb])
    have e2 : adn pl (bmk R m) = pl := tb_ext (fun i => by
      rw [tb_adn]
      cases hb : (bmk R m).testBit i
      · simp
      · simp [h i hb])
    have hmono := @winm_mono R (qq R) pl (pl ||| bmk R m) (fun i hi => by rw [Nat.testBit_or, hi]; rfl)
    rw [e1, e2]
    revert hmono
    cases winm R (qq R) (pl ||| bmk R m) <;> cases winm R (qq R) pl <;> simp
theorem plus_const (hW : WF R) : ∀ i j, i < nn R → j < nn R → bl R i = bl R j → (sg (ld R i) == 43) = (sg (ld R j) == 43) := fun i j _ _ h => by
  unfold ld
  rw [ldp_congr h]
theorem plus_mset (hW : WF R) : mset R (gb R (fun m => sg (ld R m) == 43) (nn R)) = plusOf R sg := mset_gb hW (plus_const hW)
theorem plus_side (hW : WF R) {m : Nat} (hm : m < nn R) : (∀ j, (bmk R m).testBit j = true → (plusOf R sg).testBit j = true) ∨ (∀ j, (bmk R m).testBit j = true → (plusOf R sg).testBit j = false) := by
  cases h : (sg (ld R m) == 43)
  · right
    intro j hj
    rw [tb_bmk] at hj
    have hj2 : j < nn R ∧ bl R j = bl R m := by simpa using hj
    unfold plusOf
    rw [tb_msk, plus_const hW j m hj2.1 hm hj2.2, h]
    simp
  · left
    intro j hj
    rw [tb_bmk] at hj
    have hj2 : j < nn R ∧ bl R j = bl R m := by simpa using hj
    unfold plusOf
    rw [tb_msk, plus_const hW j m hj2.1 hm hj2.2, h]
    simp [hj2.1]
/-- the end of it: the latest ballots move up -/
theorem hold188 (hW : WF R) (hL : LB J R (nn R)) (hk : 2000 ≤ k) {s : Nat} (hs : mset R s = plusOf R sg) (hs2 : s < 1024) (hR : ∀ j, j < 69 → J 72 j = if 59 ≤ j ∧ j < 59 + nn R then holdR R sg j else R j) : ∃ K, f_X6_holdBallot_188 k (nI s) (nI (dissOf R sg)) (nI (b1 (winm R (qq R) (plusOf R sg)))) k (nI 23) J = some (nI (b1 (winm R (qq R) (plusOf R sg))), K) ∧ RF J K (holdR R sg) := by
  have hn := hW.n10
  rw [show nI 23 = nI (23 - 0) from rfl]
  refine loopE (fun g m (K : Mem) => f_X6_holdBallot_188 k (nI s) (nI (dissOf R sg)) (nI (b1 (winm R (qq R) (plusOf R sg)))) g (nI (23 - m)) K) 21 (fun m K => (∀ j, j < 69 → K 72 j = if 28 - m < j ∧ j < 29 then R (j - 3) else J 72 j) ∧ ∀ b, b ≠ 72 → K b = J b) (fun o => ∃ K, o = some (nI (b1 (winm R (qq R) (plusOf R sg))), K) ∧ RF J K (holdR R sg)) (fun g K hK => ?_) (fun g m K hm hK => ?_) 21 0 k J (by omega) (by omega) ⟨fun j hj => by rw [if_neg (by omega)], fun _ _ => rfl⟩
  · obtain ⟨k1, k2⟩ := hK
    have hr4 : R 4 = nI (min 8 (hd R)) := hW.r4
    have hkn : min 8 (hd R) ≤ 8 := Nat.min_le_left _ _
    have q1 : ∀ x, LB (up2 K 72 5 x) R (nn R) := fun x => hL.mono (by rw [up2_nea _ _ _ _ (by omega), k2 _ (by omega)]) (by rw [up2_nea _ _ _ _ (by omega), k2 _ (by omega)]) (by rw [up2_nea _ _ _ _ (by omega), k2 _ (by omega)]) (by rw [up2_nea _ _ _ _ (by omega), k2 _ (by omega)])
    have e4 : K 72 4 = nI (min 8 (hd R)) := by rw [k1 _ (by omega), if_neg (by omega), hR _ (by omega), if_neg (by omega)]; exact hr4
    have e3 : K 72 3 = R 3 := by rw [k1 _ (by omega), if_neg (by omega), hR _ (by omega), if_neg (by omega)]
    have e2 : K 72 2 = R 2 := by rw [k1 _ (by omega), if_neg (by omega), hR _ (by omega), if_neg (by omega)]
    have key : ∃ L, f_X6_holdBallot_235 k K (nI s) (nI (dissOf R sg)) (nI (b1 (winm R (qq R) (plusOf R sg)))) (nI (b1 (winm R (qq R) (plusOf R sg)))) (nI 5) = some (nI (b1 (winm R (qq R) (plusOf R sg))), L) ∧ RF J L (holdR R sg) := by
      have wm := weightOf_m hW (q1 (nI (b1 (winm R (qq R) (plusOf R sg))))) hk (s := s) (by omega)
      rw [hs] at wm
      have hnb : vp_nar .boolean (nI (b1 (winm R (qq R) (plusOf R sg)))) = nI (b1 (winm R (qq R) (plusOf R sg))) := by
        cases winm R (qq R) (plusOf R sg) <;> decide
      have fin : ∀ x : Nat, x = min 8 (hd R + 1) → RF J (up2 (up2 (up2 (up2 (up2 (up2 K 72 5 (nI (b1 (winm R (qq R) (plusOf R sg))))) 72 6 (nI (wof R (plusOf R sg)))) 72 7 (nI (dissOf R sg))) 72 4 (nI x)) 72 2 (R 2 + nI 1)) 72 3 (R 3 + nI (b1 (winm R (qq R) (plusOf R sg))))) (holdR R sg) := by
        intro x hx
        refine ⟨fun j hj => ?_, fun b hb => by rw [up2_nea _ _ _ _ hb, up2_nea _ _ _ _ hb, up2_nea _ _ _ _ hb, up2_nea _ _ _ _ hb, up2_nea _ _ _ _ hb, up2_nea _ _ _ _ hb, k2 _ hb]⟩
        by_cases c3 : j = 3
        · rw [c3, up2_eq, holdR_3]
        · rw [up2_nei _ _ _ _ c3]
          by_cases c2 : j = 2
          · rw [c2, up2_eq]
            unfold holdR
            rw [if_neg (by omega), if_neg (by omega), if_pos rfl]
          · rw [up2_nei _ _ _ _ c2]
            by_cases c4 : j = 4
            · rw [c4, up2_eq, hx]
              unfold holdR
              rw [if_neg (by omega), if_neg (by omega), if_neg (by omega), if_neg (by omega), if_pos rfl]
            · rw [up2_nei _ _ _ _ c4]
              by_cases c7 : j = 7
              · rw [c7, up2_eq, holdR_7]
              · rw [up2_nei _ _ _ _ c7]
                by_cases c6 : j = 6
                · rw [c6, up2_eq, holdR_6]
                · rw [up2_nei _ _ _ _ c6]
                  by_cases c5 : j = 5
                  · rw [c5, up2_eq, holdR_5]
                  · rw [up2_nei _ _ _ _ c5, k1 j hj]
                    by_cases z : 28 - 21 < j ∧ j < 29
                    · rw [if_pos z, holdR_8 (by omega) z.2]
                    · rw [if_neg z, hR j hj]
                      by_cases y : 59 ≤ j ∧ j < 59 + nn R
                      · rw [if_pos y]
                      · rw [if_neg y]
                        unfold holdR
                        rw [if_neg y, if_neg (by omega), if_neg c2, if_neg c3, if_neg c4]
      unfold f_X6_holdBallot_235
      rw [if_pos (by decide), cl_nI (by decide), wm]
      simp (disch := omega) only [Option.bind_some, cl_nI, up2_nei, e4, le_nI]
      have tail : ∀ x : Nat, x = min 8 (hd R + 1) → f_X6_holdBallot_285 k (up2 (up2 (up2 K 72 5 (nI (b1 (winm R (qq R) (plusOf R sg))))) 72 6 (nI (wof R (plusOf R sg)))) 72 7 (nI (dissOf R sg))) (nI (b1 (winm R (qq R) (plusOf R sg)))) (nI x) (nI 4) = some (nI (b1 (winm R (qq R) (plusOf R sg))), up2 (up2 (up2 (up2 (up2 (up2 K 72 5 (nI (b1 (winm R (qq R) (plusOf R sg))))) 72 6 (nI (wof R (plusOf R sg)))) 72 7 (nI (dissOf R sg))) 72 4 (nI x)) 72 2 (R 2 + nI 1)) 72 3 (R 3 + nI (b1 (winm R (qq R) (plusOf R sg))))) := by
        intro x hx
        unfold f_X6_holdBallot_285
        rw [if_pos (by decide)]
        simp (disch := omega) only [Option.bind_some, cl_nI, up2_nei, e2, e3, hnb, if_true, b1_0]
        cases winm R (qq R) (plusOf R sg) <;> rfl
      by_cases c : 8 ≤ min 8 (hd R)
      · rw [if_pos c]
        exact ⟨_, tail 8 (by omega), fin 8 (by omega)⟩
      · rw [if_neg c, nI_add]
        exact ⟨_, tail _ (by omega), fin _ (by omega)⟩
    simp (disch := omega) only [f_X6_holdBallot_188, le_nI, if_pos, b1_0]
    revert key
    cases winm R (qq R) (plusOf R sg)
    · intro key
      rw [if_pos rfl]
      exact key
    · intro key
      rw [if_neg (by decide)]
      exact key
  · obtain ⟨k1, k2⟩ := hK
    simp (disch := omega) only [f_X6_holdBallot_188, le_nI, if_neg, nI_add, sub_nI, inBn, if_pos, cl_nI, Option.bind_some, m1_nI]
    refine ⟨_, by rw [show 23 - m - 1 = 23 - (m + 1) by omega], fun j hj => ?_, fun b hb => by rw [up2_nea _ _ _ _ hb, k2 b hb]⟩
    by_cases e : j = 5 + (23 - m)
    · rw [e, up2_eq, k1 _ (by omega), if_neg (by omega), if_pos (by omega), hR _ (by omega), if_neg (by omega)]
    · rw [up2_nei _ _ _ _ e, k1 j hj]
      by_cases z : 28 - m < j ∧ j < 29
      · rw [if_pos z, if_pos (by omega)]
      · rw [if_neg z, if_neg (by omega)]
end HM
