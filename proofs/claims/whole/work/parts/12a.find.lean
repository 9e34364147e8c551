/-! the model goes through the coalitions -/
def ww (R : Nat → Int32) (q s : Nat) : Bool := winm R q (mset R s)
/-- does the bloc b swing the coalition s -/
def sws (R : Nat → Int32) (q b s : Nat) : Bool := !s.testBit b && (!ww R q s && ww R q (s ||| 2 ^ b))
def swB (R : Nat → Int32) (q b : Nat) : Nat := cnt (2 ^ nb R) (sws R q b)
def FN (J : Mem) (R : Nat → Int32) (q : Nat) : Prop := LB J R (nn R) ∧ (∀ s, s < 2 ^ nb R → J 79 s = nI (b1 (ww R q s))) ∧ (∀ b, b < nb R → J 80 b = nI (swB R q b)) ∧ J 71 15 = nI (sm (nb R) (swB R q))
/-- what a question of the model may change -/
def FQ (I J : Mem) : Prop := (∀ b, b ≠ 71 → (b < 76 ∨ 81 < b) → J b = I b) ∧ ∀ i, i ≠ 8 → i ≠ 12 → i ≠ 15 → i ≠ 17 → J 71 i = I 71 i
theorem FQ.rfl' {I : Mem} : FQ I I := ⟨fun _ _ _ => rfl, fun _ _ _ _ _ => rfl⟩
theorem FQ.trans {I J K : Mem} (h : FQ I J) (h2 : FQ J K) : FQ I K := ⟨fun b h3 h4 => (h2.1 b h3 h4).trans (h.1 b h3 h4), fun i h3 h4 h5 h6 => (h2.2 i h3 h4 h5 h6).trans (h.2 i h3 h4 h5 h6)⟩
theorem FQ.set {I J : Mem} (h : FQ I J) {a : Nat} (h1 : 76 ≤ a) (h2 : a ≤ 81) (i : Nat) (x : Int32) : FQ I (up2 J a i x) := ⟨fun b h3 h4 => by rw [up2_nea _ _ _ _ (by omega), h.1 b h3 h4], fun j h3 h4 h5 h6 => by rw [up2_nea _ _ _ _ (by omega), h.2 j h3 h4 h5 h6]⟩
theorem FQ.set71 {I J : Mem} (h : FQ I J) {i : Nat} (hi : i = 8 ∨ i = 12 ∨ i = 15 ∨ i = 17) (x : Int32) : FQ I (up2 J 71 i x) := ⟨fun b h3 h4 => by rw [up2_nea _ _ _ _ h3, h.1 b h3 h4], fun j h3 h4 h5 h6 => by rw [up2_nei _ _ _ _ (by omega), h.2 j h3 h4 h5 h6]⟩
section FI
variable {k : Nat} {I J : Mem} {R : Nat → Int32}
theorem two_nb (hW : WF R) : 2 ^ nb R ≤ 1024 := pow10 (nb_le hW)
theorem or_nb {s b n : Nat} (hs : s < 2 ^ n) (hb : b < n) : s ||| 2 ^ b < 2 ^ n := Nat.or_lt_two_pow hs (Nat.pow_lt_pow_right (by decide) hb)
theorem sm_nb_le {n B : Nat} {f : Nat → Nat} (h : ∀ i, f i ≤ B) : sm n f ≤ n * B := sm_le (fun i _ => h i)
theorem find58 (hW : WF R) {q b : Nat} (hb : b < nb R) (h8 : J 71 8 = nI (nb R)) (h79 : ∀ s, s < 2 ^ nb R → J 79 s = nI (b1 (ww R q s))) (h80 : J 80 b = nI 0) (hk : 2000 ≤ k) (f : Int32 → Mem → Option Mem) : ∃ K, f_X6_find_58 k (nI b) f k (nI 0) J = f (nI (b + 1)) K ∧ (K 80 b = nI (swB R q b) ∧ ∀ i, i ≠ b → K 80 i = J 80 i) ∧ (K 71 15 = J 71 15 + nI (swB R q b) ∧ ∀ i, i ≠ 15 → K 71 i = J 71 i) ∧ ∀ a, a ≠ 71 → a ≠ 80 → K a = J a := by
  have hnb := nb_le hW
  have h2 := two_nb hW
  refine loopE (fun g s (K : Mem) => f_X6_find_58 k (nI b) f g (nI s) K) (2 ^ nb R) (fun s K => (K 80 b = nI (cnt s (sws R q b)) ∧ ∀ i, i ≠ b → K 80 i = J 80 i) ∧ ∀ a, a ≠ 80 → K a = J a) (fun o => ∃ K, o = f (nI (b + 1)) K ∧ (K 80 b = nI (swB R q b) ∧ ∀ i, i ≠ b → K 80 i = J 80 i) ∧ (K 71 15 = J 71 15 + nI (swB R q b) ∧ ∀ i, i ≠ 15 → K 71 i = J 71 i) ∧ ∀ a, a ≠ 71 → a ≠ 80 → K a = J a) (fun g K hK => ?_) (fun g s K hs hK => ?_) (2 ^ nb R) 0 k J (by omega) (by omega) ⟨⟨h80, fun _ _ => rfl⟩, fun _ _ => rfl⟩
  · obtain ⟨⟨k1, k2⟩, k3⟩ := hK
    have e8 : K 71 8 = nI (nb R) := by rw [k3 _ (by decide)]; exact h8
    simp (disch := omega) only [f_X6_find_58, e8, shl1_nI, le_nI, if_pos, inBn, cl_nI, nI_add, k1]
    refine ⟨_, rfl, ⟨?_, fun i hi => ?_⟩, ⟨?_, fun i hi => ?_⟩, fun a h1 h2 => ?_⟩
    · rw [up2_nea _ _ _ _ (by decide)]; exact k1
    · rw [up2_nea _ _ _ _ (by decide)]; exact k2 i hi
    · rw [up2_eq, k3 _ (by decide)]
      rfl
    · rw [up2_nei _ _ _ _ hi, k3 _ (by decide)]
    · rw [up2_nea _ _ _ _ h1, k3 _ h2]
  · obtain ⟨⟨k1, k2⟩, k3⟩ := hK
    have e8 : K 71 8 = nI (nb R) := by rw [k3 _ (by decide)]; exact h8
    have hor := or_nb hs hb
    have e1 : K 79 s = nI (b1 (ww R q s)) := by rw [k3 _ (by decide)]; exact h79 s hs
    have e2 : K 79 (s ||| 2 ^ b) = nI (b1 (ww R q (s ||| 2 ^ b))) := by rw [k3 _ (by decide)]; exact h79 _ hor
    have hc : cnt (s + 1) (sws R q b) = cnt s (sws R q b) + b1 (sws R q b s) := cnt_s _ _
    simp (disch := omega) only [f_X6_find_58, e8, shl1_nI, le_nI, if_neg, inBn, if_pos, cl_nI, nI_add, k1, isIn_nI, b1_0, or_nI, e1, e2, f_X6_find_109]
    have key : ∀ x : Nat, x = cnt (s + 1) (sws R q b) → (up2 K 80 b (nI x) 80 b = nI (cnt (s + 1) (sws R q b)) ∧ ∀ i, i ≠ b → up2 K 80 b (nI x) 80 i = J 80 i) ∧ ∀ a, a ≠ 80 → up2 K 80 b (nI x) a = J a := fun x hx => ⟨⟨by rw [up2_eq, hx], fun i hi => by rw [up2_nei _ _ _ _ hi, k2 i hi]⟩, fun a ha => by rw [up2_nea _ _ _ _ ha, k3 a ha]⟩
    cases d1 : s.testBit b
    · rw [if_pos rfl]
      cases d2 : ww R q s
      · rw [if_pos rfl]
        cases d3 : ww R q (s ||| 2 ^ b)
        · rw [if_pos rfl]
          exact ⟨_, rfl, key _ (by rw [hc]; simp [sws, d3, b1])⟩
        · rw [if_neg (by decide)]
          exact ⟨_, rfl, key _ (by rw [hc]; simp [sws, d1, d2, d3, b1])⟩
      · rw [if_neg (by decide)]
        exact ⟨_, rfl, key _ (by rw [hc]; simp [sws, d2, b1])⟩
    · rw [if_neg (by decide)]
      exact ⟨_, rfl, key _ (by rw [hc]; simp [sws, d1, b1])⟩
theorem find_eq (hW : WF R) (h : RW I R) (hk : 2000 ≤ k) {q : Nat} (hq : q < 1000) : ∃ J, f_X6_find k (nI q) I = some J ∧ FN J R q ∧ FQ I J := by
  have hnb := nb_le hW
  have h2 := two_nb hW
  obtain ⟨J0, q1, q2, q3, q4⟩ := layBlocs_eq hW h hk
  have hJ0 : FQ I J0 := ⟨fun b h1 h2 => q3 b h1 (by omega) (by omega) (by omega), fun i h1 h2 h3 h4 => q4 i h1 h2⟩
  unfold f_X6_find
  rw [q1, Option.bind_some]
  refine loopE (fun g s (J : Mem) => f_X6_find_6 k (nI q) g (nI s) J) (2 ^ nb R) (fun s J => (∀ i, i < s → J 79 i = nI (b1 (ww R q i))) ∧ ∀ a, a ≠ 79 → J a = J0 a) (fun o => ∃ J, o = some J ∧ FN J R q ∧ FQ I J) (fun g J hJ => ?_) (fun g s J hs hJ => ?_) (2 ^ nb R) 0 k J0 (by omega) (by omega) ⟨fun i hi => by omega, fun _ _ => rfl⟩
  · obtain ⟨j1, j2⟩ := hJ
    have hLJ : LB J R (nn R) := q2.mono (j2 _ (by decide)) (j2 _ (by decide)) (j2 _ (by decide)) (j2 _ (by decide))
    have hQJ : FQ I J := ⟨fun b h1 h2 => by rw [j2 b (by omega)]; exact hJ0.1 b h1 h2, fun i h1 h2 h3 h4 => by rw [j2 71 (by decide)]; exact hJ0.2 i h1 h2 h3 h4⟩
    simp (disch := omega) only [f_X6_find_6, hLJ.nb, shl1_nI, le_nI, if_pos]
    refine loopE (fun g b (K : Mem) => f_X6_find_41 k g (nI b) K) (nb R) (fun b K => LB K R (nn R) ∧ K 79 = J 79 ∧ (∀ i, i < b → K 80 i = nI (swB R q i)) ∧ K 71 15 = nI (sm b (swB R q)) ∧ FQ I K) (fun o => ∃ J, o = some J ∧ FN J R q ∧ FQ I J) (fun g K hK => ?_) (fun g b K hb hK => ?_) (nb R) 0 k _ (by omega) (by omega) ⟨?_, up2_nea _ _ _ _ (by decide), fun i hi => by omega, up2_eq _ _ _ _, hQJ.set71 (by omega) _⟩
    · obtain ⟨k1, k2, k3, k4, k5⟩ := hK
      simp (disch := omega) only [f_X6_find_41, k1.nb, le_nI, if_pos]
      exact ⟨K, rfl, ⟨k1, fun s hs => by rw [k2]; exact j1 s hs, k3, k4⟩, k5⟩
    · obtain ⟨k1, k2, k3, k4, k5⟩ := hK
      simp (disch := omega) only [f_X6_find_41, k1.nb, le_nI, if_neg, inBn, if_pos, cl_nI]
      obtain ⟨L, l1, ⟨l2, l3⟩, ⟨l4, l5⟩, l6⟩ := find58 (k := k) (J := up2 K 80 b (nI 0)) hW (q := q) hb (by rw [up2_nea _ _ _ _ (by decide)]; exact k1.nb) (fun s hs => by rw [up2_nea _ _ _ _ (by decide), k2]; exact j1 s hs) (up2_eq _ _ _ _) hk (f_X6_find_41 k g)
      refine ⟨L, l1, ⟨?_, fun m h1 h2 => ?_, fun i hi => ?_, ?_⟩, ?_, fun i hi => ?_, ?_, ⟨fun a h1 h2 => ?_, fun i h1 h2 h3 h4 => ?_⟩⟩
      · rw [l5 _ (by decide), up2_nea _ _ _ _ (by decide)]; exact k1.1
      · rw [l6 _ (by decide) (by decide), up2_nea _ _ _ _ (by decide)]; exact k1.2.1 m h1 h2
      · rw [l6 _ (by decide) (by decide), l6 _ (by decide) (by decide), up2_nea _ _ _ _ (by decide), up2_nea _ _ _ _ (by decide)]; exact k1.2.2.1 i hi
      · rw [l5 _ (by decide), up2_nea _ _ _ _ (by decide)]; exact k1.2.2.2
      · rw [l6 _ (by decide) (by decide), up2_nea _ _ _ _ (by decide)]; exact k2
      · by_cases e : i = b
        · rw [e]; exact l2
        · rw [l3 i e, up2_nei _ _ _ _ e]; exact k3 i (by omega)
      · rw [l4, up2_nea _ _ _ _ (by decide), k4, nI_add]
        rfl
      · rw [l6 a h1 (by omega), up2_nea _ _ _ _ (by omega)]; exact k5.1 a h1 h2
      · rw [l5 i h3, up2_nea _ _ _ _ (by decide)]; exact k5.2 i h1 h2 h3 h4
    · refine ⟨?_, fun m h1 h2 => ?_, fun i hi => ?_, ?_⟩
      · rw [up2_nei _ _ _ _ (by decide)]; exact hLJ.1
      · rw [up2_nea _ _ _ _ (by decide)]; exact hLJ.2.1 m h1 h2
      · rw [up2_nea _ _ _ _ (by decide), up2_nea _ _ _ _ (by decide)]; exact hLJ.2.2.1 i hi
      · rw [up2_nei _ _ _ _ (by decide)]; exact hLJ.2.2.2
  · obtain ⟨j1, j2⟩ := hJ
    have hLJ : LB J R (nn R) := q2.mono (j2 _ (by decide)) (j2 _ (by decide)) (j2 _ (by decide)) (j2 _ (by decide))
    have hnar : vp_nar .boolean (nI (b1 (winm R q (mset R s)))) = nI (b1 (ww R q s)) := by
      unfold ww
      cases winm R q (mset R s) <;> decide
    simp (disch := omega) only [f_X6_find_6, hLJ.nb, shl1_nI, le_nI, if_neg, winsWith_m hW hLJ hk, Option.bind_some, inBn, if_pos, cl_nI, hnar, nI_add]
    refine ⟨_, rfl, fun i hi => ?_, fun a ha => by rw [up2_nea _ _ _ _ ha, j2 a ha]⟩
    by_cases e : i = s
    · rw [e, up2_eq]
    · rw [up2_nei _ _ _ _ e]; exact j1 i (by omega)
theorem findNow_eq (hW : WF R) (h : RW I R) (hk : 2000 ≤ k) : ∃ J, f_X6_findNow k I = some J ∧ FN J R (qq R) ∧ FQ I J := by
  have hq := hW.q500
  obtain ⟨J, q1, q2⟩ := find_eq hW h hk (q := qq R) (by omega)
  unfold f_X6_findNow
  rw [cl_nI (by decide), h.q hW, q1]
  exact ⟨J, rfl, q2⟩
end FI
