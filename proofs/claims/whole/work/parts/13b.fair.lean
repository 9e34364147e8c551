/-! distances, the fairest quota, leaving out, wins -/
def wB (R : Nat → Int32) (b : Nat) : Nat := sm (nn R) (fun j => if bo R j == b then wt R j else 0)
def sA (R : Nat → Int32) (q : Nat) : Nat := sm (nb R) (swB R q)
def aW (R : Nat → Int32) : Nat := sm (nn R) (wt R)
def dB (R : Nat → Int32) (q b : Nat) : Nat := if wB R b * sA R q ≤ swB R q b * aW R then swB R q b * aW R - wB R b * sA R q else wB R b * sA R q - swB R q b * aW R
def dst (R : Nat → Int32) (q : Nat) : Nat := sm (nb R) (dB R q)
/-- the best quota among the first ones -/
def fb (R : Nat → Int32) : Nat → Nat
  | 0 => 1
  | q + 1 => if q = 0 then 1 else if dst R (q + 1) * sA R (fb R q) < dst R (fb R q) * sA R (q + 1) then q + 1 else fb R q
def lvp (R : Nat → Int32) (v q0 q : Nat) : Bool := decide (q < q0) || !(swB R q (bo R v) == 0)
def lvq (R : Nat → Int32) (v q0 : Nat) : Nat := ff (lvp R v q0) (aW R + 1)
def lvr (R : Nat → Int32) (v q0 : Nat) : Int32 := if lvq R v q0 ≤ aW R then nI (lvq R v q0) else (-5 : Int32)
theorem lneg {a b : Nat} (ha : a < 2 ^ 40) (hb : b < 2 ^ 40) (h : a < b) : ¬ (0 : Int64) ≤ lN a - lN b := by
  rw [Int64.le_iff_toInt_le, Int64.toInt_sub, pk_lT (by omega), pk_lT (by omega), Int.bmod_eq_of_le (by omega) (by omega)]
  have : (0 : Int64).toInt = 0 := by decide
  omega
section FR
variable {k : Nat} {I J : Mem} {R : Nat → Int32} {q : Nat}
theorem aW_le (hW : WF R) : aW R ≤ 500 := by
  have h : aW R ≤ nn R * 50 := sm_le (fun i hi => hW.w50 hi)
  have := hW.n10
  have : nn R * 50 ≤ 10 * 50 := Nat.mul_le_mul_right _ this
  omega
theorem wB_le (hW : WF R) (b : Nat) : wB R b ≤ 500 := by
  have h : wB R b ≤ aW R := sm_mono (fun i _ => by split <;> omega)
  exact Nat.le_trans h (aW_le hW)
theorem aW_all (hW : WF R) : wof R (2 ^ nn R - 1) = aW R := sm_congr (fun i hi => by unfold wset; rw [all_tb, decide_eq_true hi, if_pos rfl])
theorem aW_mset (hW : WF R) : wof R (mset R (2 ^ nb R - 1)) = aW R := sm_congr (fun i hi => by
  unfold wset
  rw [tb_mset, all_tb, decide_eq_true hi, decide_eq_true (bo_nb hW hi)]
  rfl)
theorem wB_bmk (hW : WF R) {m : Nat} (hm : m < nn R) : wof R (bmk R m) = wB R (bo R m) := sm_congr (fun i hi => by
  unfold wset
  rw [tb_bmk, decide_eq_true hi, Bool.true_and]
  have := bo_eq hW hi hm
  have e : (bo R i == bo R m) = (bl R i == bl R m) := by rw [Bool.eq_iff_iff, beq_iff_eq, beq_iff_eq, this]
  rw [e])
theorem prods (hW : WF R) (b : Nat) : swB R q b * aW R ≤ 512000 ∧ wB R b * sA R q ≤ 5120000 := by
  have h1 := swB_le hW q b
  have h2 := aW_le hW
  have h3 := wB_le hW b
  have h4 : sA R q ≤ 10240 := swAll_le hW
  exact ⟨Nat.mul_le_mul h1 h2, Nat.mul_le_mul h3 h4⟩
theorem dB_le (hW : WF R) (b : Nat) : dB R q b ≤ 5120000 := by
  obtain ⟨h1, h2⟩ := prods (q := q) hW b
  unfold dB
  split <;> omega
theorem dst_le (hW : WF R) : dst R q ≤ 51200000 := by
  have hnb := nb_le hW
  have h : dst R q ≤ nb R * 5120000 := sm_nb_le (dB_le hW)
  have : nb R * 5120000 ≤ 10 * 5120000 := Nat.mul_le_mul_right _ hnb
  omega
theorem absi {a b : Nat} (ha : a < 2 ^ 30) (hb : b < 2 ^ 30) : (if 0 ≤ nI a - nI b then nI a - nI b else 0 - (nI a - nI b)) = nI (if b ≤ a then a - b else b - a) := by
  by_cases h : b ≤ a
  · rw [if_pos h, sub_nI h, if_pos (nI_pos' (by omega))]
  · rw [if_neg h]
    have hn := pk_sneg hb (show a < b by omega)
    rw [if_neg (by
      intro e
      rw [Int32.le_iff_toInt_le] at e
      rw [Int32.lt_iff_toInt_lt] at hn
      omega), Int32.zero_sub, Int32.neg_sub, sub_nI (by omega)]
theorem distance_c (hW : WF R) (h1 : P1 I R) (h2 : P2 I R) (h : PWN I R) (hk : 2000 ≤ k) (hq : q ≤ 500) : f_X2_distance k (nI q) I = some (lN (dst R q)) := by
  have hn := hW.n10
  have h2n := two_nb hW
  have hp : 1 ≤ 2 ^ nb R := Nat.one_le_two_pow
  have hml : msk (nn R) (pl R) < 1024 := Nat.lt_of_lt_of_le (msk_lt _ _) (pow10 hn)
  have e57 := (h2.2.2 (2 ^ nb R - 1) (by omega)).2
  rw [aW_mset hW] at e57
  unfold f_X2_distance
  rw [swAll_c hW h1 h hk hq, Option.bind_some, h2.2.1]
  simp (disch := omega) only [sub_nI, inBn, if_pos, cl_nI, e57]
  refine loop0 (fun g m => f_X2_distance_24 k I (nI q) (nI (sA R q)) (nI (aW R)) g (lN (sm (cnt m (pl R)) (dB R q))) (nI m)) (nn R) _ (by omega) (fun g => ?_) (fun g m hm => ?_)
  · simp (disch := omega) only [f_X2_distance_24, h1.1.1, le_nI, if_pos]
    rfl
  · have htb : (msk (nn R) (pl R)).testBit m = pl R m := by rw [tb_msk]; simp [hm]
    have e : cnt (m + 1) (pl R) = cnt m (pl R) + b1 (pl R m) := cnt_s _ _
    have e55 := (h1.2 m hm).2
    rw [wB_bmk hW hm] at e55
    obtain ⟨p1, p2⟩ := prods (q := q) hW (bo R m)
    have pd := dB_le (q := q) hW (bo R m)
    simp (disch := omega) only [f_X2_distance_24, h1.1.1, le_nI, if_neg, h1.1.2.2.2, holds_nI, htb, b1_0, swings_c hW h hm hq, Option.bind_some, inBn, if_pos, cl_nI, e55, mul_nI, nI_add, e]
    rw [absi (by omega) (by omega), nI_l (by
      change dB R q (bo R m) < 2 ^ 31
      omega), lN_add]
    cases d : pl R m
    · rw [if_pos rfl]
      rfl
    · rw [if_neg (by decide), bo_pl d]
      rfl
theorem apart_m (hW : WF R) (hF : FN J R q) (hk : 2000 ≤ k) : f_X6_apart k (nI (aW R)) J = some (lN (dst R q)) := by
  have hnb := nb_le hW
  have ha := aW_le hW
  have hs4 : sA R q ≤ 10240 := swAll_le hW
  have e15 : J 71 15 = nI (sA R q) := hF.2.2.2
  refine loop0 (fun g b => f_X6_apart_5 k J (nI (aW R)) g (lN (sm b (dB R q))) (nI b)) (nb R) _ (by omega) (fun g => ?_) (fun g b hb => ?_)
  · simp (disch := omega) only [f_X6_apart_5, hF.1.nb, le_nI, if_pos]
    rfl
  · obtain ⟨p1, p2⟩ := prods (q := q) hW b
    have hsb := swB_le hW q b
    have hwb := wB_le hW b
    have e77 : J 77 b = nI (wB R b) := (hF.1.2.2.1 b hb).1
    simp (disch := omega) only [f_X6_apart_5, hF.1.nb, le_nI, if_neg, inBn, if_pos, cl_nI, hF.2.2.1 b hb, e77, e15, nI_l, lN_mul, lg_cmp_ge, nI_add]
    have z0 : (0 : Int64) = lN 0 := rfl
    have hd : sm (b + 1) (dB R q) = sm b (dB R q) + dB R q b := rfl
    rw [hd]
    unfold dB
    by_cases c : wB R b * sA R q ≤ swB R q b * aW R
    · rw [if_pos c, lN_sub c, if_pos (by rw [z0, pk_lLE (by decide) (by omega)]; omega), lN_add]
    · rw [if_neg c, if_neg (lneg (by omega) (by omega) (by omega)), Int64.neg_sub, lN_sub (by omega), lN_add]
theorem fb_s {R : Nat → Int32} {p : Nat} (h : p ≠ 0) : fb R (p + 1) = if dst R (p + 1) * sA R (fb R p) < dst R (fb R p) * sA R (p + 1) then p + 1 else fb R p := if_neg h
theorem fb_le (R : Nat → Int32) : ∀ q, fb R q ≤ max q 1
  | 0 => by show 1 ≤ max 0 1; decide
  | q + 1 => by
    have := fb_le R q
    rw [fb]
    split
    · omega
    · split <;> omega
theorem fb_pos (R : Nat → Int32) : ∀ q, 1 ≤ fb R q
  | 0 => Nat.le_refl 1
  | q + 1 => by
    have := fb_pos R q
    rw [fb]
    split
    · omega
    · split <;> omega
theorem fstep (hW : WF R) {a b : Nat} : (0 ≤ lg_cmp (lN (dst R a) * lN (sA R b)) (lN (dst R b) * lN (sA R a))) = ¬ (dst R a * sA R b < dst R b * sA R a) := by
  have h1 := dst_le (q := a) hW
  have h2 := dst_le (q := b) hW
  have h3 : sA R a ≤ 10240 := swAll_le hW
  have h4 : sA R b ≤ 10240 := swAll_le hW
  have h5 := Nat.mul_le_mul h1 h4
  have h6 := Nat.mul_le_mul h2 h3
  rw [lg_cmp_ge, lN_mul, lN_mul, pk_lLE (by omega) (by omega)]
  exact propext ⟨fun h => Nat.not_lt.mpr h, fun h => Nat.not_lt.mp h⟩
theorem fair_c (hW : WF R) (h1 : P1 I R) (h2 : P2 I R) (h : PWN I R) (hk : 2000 ≤ k) (hp : 1 ≤ aW R) : (Option.bind (f_X2_distance k (nI 1) I) (fun r4 => (Option.bind (f_X2_swingsOfAll k (nI 1) I) (fun r5 => f_X5_fairest_47 k I (nI (aW R)) k (nI 1) r4 (Int32.toInt64 r5) (nI 2))))) = some (nI (fb R (aW R)), I) := by
  have ha := aW_le hW
  have hs1 : ∀ q, sA R q ≤ 10240 := fun q => swAll_le hW
  have sw : ∀ q, q ≤ 500 → f_X2_swingsOfAll k (nI q) I = some (nI (sA R q)) := fun q hq => swAll_c hW h1 h hk hq
  rw [distance_c hW h1 h2 h hk (by decide), Option.bind_some, sw 1 (by decide), Option.bind_some, nI_l (by have := hs1 1; omega)]
  refine loopM (fun g q => f_X5_fairest_47 k I (nI (aW R)) g (nI (fb R (q - 1))) (lN (dst R (fb R (q - 1)))) (lN (sA R (fb R (q - 1)))) (nI q)) (aW R + 1) _ (m0 := 2) (by omega) (by omega) (fun g => ?_) (fun g q h0 hq => ?_)
  · simp (disch := omega) only [f_X5_fairest_47, lt_nI, if_pos, Nat.add_sub_cancel]
  · simp (disch := omega) only [f_X5_fairest_47, lt_nI, if_neg, distance_c hW h1 h2 h hk, sw, Option.bind_some, nI_add, Nat.add_sub_cancel]
    have hsq := hs1 q
    rw [nI_l (by omega)]
    simp only [fstep hW]
    obtain ⟨p, rfl⟩ : ∃ p, q = p + 1 := ⟨q - 1, by omega⟩
    rw [Nat.add_sub_cancel, fb_s (by omega)]
    by_cases c : dst R (p + 1) * sA R (fb R p) < dst R (fb R p) * sA R (p + 1)
    · rw [if_neg (fun x => x c), if_pos c]
    · rw [if_pos c, if_neg c]
theorem fair_m (hW : WF R) (hR : RW I R) (hk : 2000 ≤ k) : ∃ J, f_X6_fairest k I = some ((if aW R = 0 then (-5 : Int32) else nI (fb R (aW R))), J) ∧ FQ I J := by
  have ha := aW_le hW
  have hs1 : ∀ q, sA R q ≤ 10240 := fun q => swAll_le hW
  have hneg : ((-5 : Int32) < 0) = True := by decide
  unfold f_X6_fairest
  rw [show f_X6_allWeights k I = some (nI (aW R)) from allWeights_m hW hR hk, Option.bind_some]
  refine loopE (σ := Int32 × Int64 × Int64 × Mem) (fun g q (x : Int32 × Int64 × Int64 × Mem) => f_X6_fairest_16 k (nI (aW R)) g x.1 x.2.1 x.2.2.1 (nI q) x.2.2.2) (aW R + 1) (fun q x => 1 ≤ q ∧ FQ I x.2.2.2 ∧ (q = 1 → x.1 = (-5 : Int32)) ∧ (1 < q → x.1 = nI (fb R (q - 1)) ∧ x.2.1 = lN (dst R (fb R (q - 1))) ∧ x.2.2.1 = lN (sA R (fb R (q - 1))))) (fun o => ∃ J, o = some ((if aW R = 0 then (-5 : Int32) else nI (fb R (aW R))), J) ∧ FQ I J) (fun g x hx => ?_) (fun g q x hq hx => ?_) (aW R) 1 k ((-5 : Int32), (0 : Int64), (1 : Int64), I) (by omega) (by omega) ⟨Nat.le_refl _, FQ.rfl', fun _ => rfl, fun h => by omega⟩
  · obtain ⟨x1, x2, x3, M⟩ := x
    obtain ⟨g0, g1, g2, g3⟩ := hx
    change ∃ J, f_X6_fairest_16 k (nI (aW R)) (g + 1) x1 x2 x3 (nI (aW R + 1)) M = _ ∧ FQ I J
    simp (disch := omega) only [f_X6_fairest_16, lt_nI, if_pos]
    refine ⟨M, ?_, g1⟩
    by_cases c : aW R = 0
    · have : x1 = (-5 : Int32) := g2 (by omega)
      rw [if_pos c, this]
    · have : x1 = nI (fb R (aW R + 1 - 1)) := (g3 (by omega)).1
      rw [if_neg c, this, Nat.add_sub_cancel]
  · obtain ⟨x1, x2, x3, M⟩ := x
    obtain ⟨g0, g1, g2, g3⟩ := hx
    change FQ I M at g1
    have hRM : RW M R := hR.mono (g1.1 _ (by decide) (by decide))
    obtain ⟨K, k1, k2, k3⟩ := find_eq (k := k) hW hRM hk (q := q) (by omega)
    have hQK := g1.trans k3
    have e15 : K 71 15 = nI (sA R q) := k2.2.2.2
    have hsq := hs1 q
    show ∃ x' : Int32 × Int64 × Int64 × Mem, f_X6_fairest_16 k (nI (aW R)) (g + 1) x1 x2 x3 (nI q) M = f_X6_fairest_16 k (nI (aW R)) g x'.1 x'.2.1 x'.2.2.1 (nI (q + 1)) x'.2.2.2 ∧ _
    simp (disch := omega) only [f_X6_fairest_16, lt_nI, if_neg, k1, Option.bind_some, apart_m hW k2 hk, f_X6_fairest_55, nI_add, e15, nI_l]
    by_cases c : q = 1
    · subst c
      have : x1 = (-5 : Int32) := g2 rfl
      rw [this, if_pos (by decide)]
      exact ⟨(nI 1, lN (dst R 1), lN (sA R 1), K), rfl, by omega, hQK, fun h => by omega, fun _ => ⟨rfl, rfl, rfl⟩⟩
    · obtain ⟨y1, y2, y3⟩ := g3 (by omega)
      change x1 = nI (fb R (q - 1)) at y1
      change x2 = lN (dst R (fb R (q - 1))) at y2
      change x3 = lN (sA R (fb R (q - 1))) at y3
      subst y1 y2 y3
      have hfb := fb_le R (q - 1)
      rw [if_neg (nI_pos (by omega))]
      simp only [fstep hW]
      obtain ⟨p, rfl⟩ : ∃ p, q = p + 1 := ⟨q - 1, by omega⟩
      rw [Nat.add_sub_cancel]
      by_cases d : dst R (p + 1) * sA R (fb R p) < dst R (fb R p) * sA R (p + 1)
      · rw [if_neg (fun x => x d)]
        have e : fb R (p + 1) = p + 1 := by rw [fb, if_neg (by omega), if_pos d]
        exact ⟨(nI (p + 1), lN (dst R (p + 1)), lN (sA R (p + 1)), K), rfl, by omega, hQK, fun h => by omega, fun _ => by rw [Nat.add_sub_cancel, e]; exact ⟨rfl, rfl, rfl⟩⟩
      · rw [if_pos d]
        have e : fb R (p + 1) = fb R p := by rw [fb, if_neg (by omega), if_neg d]
        exact ⟨(nI (fb R p), lN (dst R (fb R p)), lN (sA R (fb R p)), K), rfl, by omega, hQK, fun h => by omega, fun _ => by rw [Nat.add_sub_cancel, e]; exact ⟨rfl, rfl, rfl⟩⟩
end FR
