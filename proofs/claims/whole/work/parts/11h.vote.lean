/-! the model holds a ballot, and votes -/
theorem loopX {σ R : Type} (F : Nat → Nat → σ → Option R) (n : Nat) (Inv : Nat → σ → Prop) (P : Option R → Prop) (hend : ∀ g J, Inv n J → P (F (g + 1) n J)) (hstep : ∀ g m J, m < n → Inv m J → P (F (g + 1) m J) ∨ ∃ J', F (g + 1) m J = F g (m + 1) J' ∧ Inv (m + 1) J') : ∀ (d m g : Nat) (J : σ), m + d = n → d < g → Inv m J → P (F g m J) := by
  intro d
  induction d with
  | zero =>
    intro m g J h1 h2 hJ
    obtain ⟨g', rfl⟩ : ∃ g', g = g' + 1 := ⟨g - 1, by omega⟩
    have e : m = n := by omega
    subst e
    exact hend g' J hJ
  | succ d ih =>
    intro m g J h1 h2 hJ
    obtain ⟨g', rfl⟩ : ∃ g', g = g' + 1 := ⟨g - 1, by omega⟩
    rcases hstep g' m J (by omega) hJ with z | ⟨J', e, hJ'⟩
    · exact z
    · rw [e]
      exact ih (m + 1) g' J' (by omega) (by omega) hJ'
section VM
variable {k : Nat} {I J : Mem} {R : Nat → Int32} {len : Nat} {ch : Nat → Nat} {sg : Nat → Nat}
theorem or_1024 {a b : Nat} (ha : a < 1024) (hb : b < 1024) : a ||| b < 1024 := Nat.or_lt_two_pow (n := 10) ha hb
theorem pow_1024 {b : Nat} (hb : b < 10) : 2 ^ b < 1024 := Nat.pow_lt_pow_right (a := 2) (m := b) (n := 10) (by decide) hb
theorem hold103 (hW : WF R) (h : RW J R) (hL : LB J R (nn R)) (hk : 2000 ≤ k) {s : Nat} (hs : mset R s = plusOf R sg) (hs2 : s < 1024) : ∃ K, f_X6_holdBallot_103 k (nI s) (nI (dissOf R sg)) (nI (b1 (winm R (qq R) (plusOf R sg)))) k (nI 0) J = some (nI (b1 (winm R (qq R) (plusOf R sg))), K) ∧ RF J K (holdR R sg) := by
  have hn := hW.n10
  have hq := hW.q500
  refine loopE (fun g m (K : Mem) => f_X6_holdBallot_103 k (nI s) (nI (dissOf R sg)) (nI (b1 (winm R (qq R) (plusOf R sg)))) g (nI m) K) (nn R) (fun m K => (∀ j, j < 69 → K 72 j = if 59 ≤ j ∧ j < 59 + m then holdR R sg j else R j) ∧ ∀ b, b ≠ 72 → K b = J b) (fun o => ∃ K, o = some (nI (b1 (winm R (qq R) (plusOf R sg))), K) ∧ RF J K (holdR R sg)) (fun g K hK => ?_) (fun g m K hm hK => ?_) (nn R) 0 k J (by omega) (by omega) ⟨fun j hj => by rw [if_neg (by omega)]; exact h j hj, fun _ _ => rfl⟩
  · obtain ⟨k1, k2⟩ := hK
    have e0 : K 72 0 = nI (nn R) := by rw [k1 _ (by omega), if_neg (by omega)]; exact hW.r0
    have hLK : LB K R (nn R) := hL.mono (k2 _ (by omega)) (k2 _ (by omega)) (k2 _ (by omega)) (k2 _ (by omega))
    simp (disch := omega) only [f_X6_holdBallot_103, cl_nI, e0, le_nI, if_pos]
    obtain ⟨L, l1, l2, l3⟩ := hold188 (k := k) hW hLK hk hs hs2 k1
    exact ⟨L, l1, l2, fun b hb => by rw [l3 b hb, k2 b hb]⟩
  · obtain ⟨k1, k2⟩ := hK
    have e0 : K 72 0 = nI (nn R) := by rw [k1 _ (by omega), if_neg (by omega)]; exact hW.r0
    have e1 : K 72 1 = nI (qq R) := by rw [k1 _ (by omega), if_neg (by omega)]; exact hW.r1
    have e9 : K 72 (59 + m) = R (59 + m) := by rw [k1 _ (by omega), if_neg (by omega)]
    have hLK : LB K R (nn R) := hL.mono (k2 _ (by omega)) (k2 _ (by omega)) (k2 _ (by omega)) (k2 _ (by omega))
    have hbo := bo_nb hW hm
    have hnb := nb_le hW
    have hpw := pow_1024 (b := bo R m) (by omega)
    have ho := or_1024 hs2 hpw
    have ha : adn s (2 ^ bo R m) < 1024 := adn_le _ _ 10 hs2
    have hw1 := winsWith_m hW hLK hk (q := qq R) ho (by omega)
    have hw2 := winsWith_m hW hLK hk (q := qq R) ha (by omega)
    rw [mset_or hW hm, hs] at hw1
    rw [mset_adn hW hm, hs] at hw2
    have hsw := swg_eq (R := R) (plus_side (sg := sg) hW hm)
    have hfin : holdR R sg (59 + m) = R (59 + m) + nI (b1 (swg R (plusOf R sg) m)) := by
      unfold holdR
      rw [if_pos (by omega), Nat.add_sub_cancel_left]
    refine ⟨up2 K 72 (59 + m) (holdR R sg (59 + m)), ?_, fun j hj => ?_, fun b hb => by rw [up2_nea _ _ _ _ hb, k2 b hb]⟩
    · simp (disch := omega) only [f_X6_holdBallot_103, cl_nI, e0, le_nI, if_neg, blocOf_m' hW (fun j h1 h2 => by rw [k1 _ (by omega), if_neg (by omega)]) hLK hk hm, Option.bind_some, nI_add, inBn, if_pos, e1, shl1_nI, or_nI, hw1, b1_0, adn_nI, hw2, f_X6_holdBallot_175, e9]
      rw [hfin, ← hsw]
      cases winm R (qq R) (plusOf R sg ||| bmk R m) <;> cases winm R (qq R) (adn (plusOf R sg) (bmk R m)) <;> simp [b1]
    · by_cases e : j = 59 + m
      · rw [e, up2_eq, if_pos (by omega)]
      · rw [up2_nei _ _ _ _ e, k1 j hj]
        by_cases z : 59 ≤ j ∧ j < 59 + m
        · rw [if_pos z, if_pos (by omega)]
        · rw [if_neg z, if_neg (by omega)]
theorem holdBallot_m (hW : WF R) (h : RW I R) (hl : len ≤ 60) (hT : ∀ j, j < len → I 75 j = nI (ch j) ∧ ch j < 65536) (hk : 2000 ≤ k) {st : Nat} (hst : ∀ m, m < nn R → st + m < len) (hst2 : st < 100) : ∃ J, f_X6_holdBallot k (nI st) I = some (nI (b1 (winm R (qq R) (plusOf R (fun m => ch (st + m))))), J) ∧ RW J (holdR R (fun m => ch (st + m))) ∧ FB I J := by
  have hn := hW.n10
  have hq := hW.q500
  obtain ⟨J, q1, q2, q3, q4⟩ := layBlocs_eq hW h hk
  have hR : RW J R := h.mono (q3 _ (by decide) (by decide) (by decide) (by decide))
  unfold f_X6_holdBallot
  rw [q1, Option.bind_some]
  refine loop0e (fun g m => f_X6_holdBallot_11 k J (nI st) g (nI (gb R (fun m => ch (st + ld R m) == 43) m)) (nI (cnt m (fun m => !(ch (st + m) == ch (st + ld R m))))) (nI m)) (nn R) (fun o => ∃ J, o = some (nI (b1 (winm R (qq R) (plusOf R (fun m => ch (st + m))))), J) ∧ RW J (holdR R (fun m => ch (st + m))) ∧ FB I J) (by omega) (fun g => ?_) (fun g m hm => ?_)
  · have hg := gb_lt (R := R) (p := fun m => ch (st + ld R m) == 43) (nn R)
    have hm := plus_mset (sg := fun m => ch (st + m)) hW
    have hw := winsWith_m hW q2 hk (q := qq R) hg (by omega)
    rw [hm] at hw
    obtain ⟨K, k1, k2, k3⟩ := hold103 (k := k) (sg := fun m => ch (st + m)) hW hR q2 hk hm hg
    simp (disch := omega) only [f_X6_holdBallot_11, cl_nI, hR.n hW, hR.q hW, le_nI, if_pos, hw, Option.bind_some]
    refine ⟨K, k1, k2, fun b h1 h2 h3 h4 h5 => by rw [k3 b h2, q3 b h1 h3 h4 h5], fun i h1 h2 => by rw [k3 _ (by decide), q4 i h1 h2]⟩
  · have hld := ld_lt hW hm
    have h1 := hst m hm
    have h2 := hst _ hld
    have t1 := hT _ h1
    have t2 := hT _ h2
    have e75 : J 75 = I 75 := q3 _ (by decide) (by decide) (by decide) (by decide)
    have t1a : J 75 (st + m) = nI (ch (st + m)) := by rw [e75]; exact t1.1
    have t2a : J 75 (st + ld R m) = nI (ch (st + ld R m)) := by rw [e75]; exact t2.1
    have c1 := t1.2
    have c2 := t2.2
    have hbo := bo_nb hW hm
    have hnb := nb_le hW
    have gs := gb_s (p := fun m => ch (st + ld R m) == 43) hW hm
    simp (disch := omega) only [f_X6_holdBallot_11, cl_nI, hR.n hW, le_nI, if_neg, leader_m hW hR hk hm, Option.bind_some, nI_add, inBn, if_pos, t2a, eq_nI, blocOf_m hW hR q2 hk hm, shl1_nI, f_X6_holdBallot_57, t1a, or_nI, cnt_s]
    rw [gs]
    by_cases e1 : ch (st + ld R m) = 43
    · by_cases e2 : ch (st + m) = 43
      · simp [e1, e2, b1]
      · simp [e1, e2, b1]
    · by_cases e2 : ch (st + m) = ch (st + ld R m)
      · simp [e1, e2, b1]
      · simp [e1, e2, b1]
end VM
