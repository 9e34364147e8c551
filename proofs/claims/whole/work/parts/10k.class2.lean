/-! texts, ballots, undo and the snapshot in the class -/
theorem b1_pos : ¬ (nI (b1 true) = 0) := by decide
theorem holdR_k {R : Nat → Int32} {sg : Nat → Nat} {j : Nat} (h : j = 0 ∨ j = 1 ∨ (29 ≤ j ∧ j < 59)) : holdR R sg j = R j := by
  unfold holdR
  rw [if_neg (by omega), if_neg (by omega), if_neg (by omega), if_neg (by omega), if_neg (by omega)]
theorem holdR_WF {R : Nat → Int32} {sg : Nat → Nat} (hW : WF R) (h : hd R < 20000) : WF (holdR R sg) ∧ hd (holdR R sg) = hd R + 1 := by
  have hn := hW.n10
  obtain ⟨a1, a2, a3, a4, a5, a6⟩ := mkR (R := holdR R sg) (w := wt R) (v := vt R) (b := bl R) (n := nn R) (q := qq R) (h := hd R + 1) (by rw [holdR_k (by omega)]; exact hW.r0) hn (by rw [holdR_k (by omega)]; exact hW.r1) hW.q1 hW.q500 (fun m hm => by rw [holdR_k (by omega)]; exact ⟨hW.rw hm, hW.w50 hm⟩) (fun m hm => by rw [holdR_k (by omega)]; exact hW.rv hm) (fun m hm => by rw [holdR_k (by omega)]; exact ⟨hW.rb hm, hW.bl_le hm, hW.bl_bl hm⟩) (by
      unfold holdR
      rw [if_neg (by omega), if_neg (by omega), if_pos rfl, hW.r2, nI_add]) h (by
      unfold holdR
      rw [if_neg (by omega), if_neg (by omega), if_neg (by omega), if_neg (by omega), if_pos rfl])
  exact ⟨a1, a4⟩
theorem holdR_3 {R : Nat → Int32} {sg : Nat → Nat} : holdR R sg 3 = R 3 + nI (b1 (winm R (qq R) (plusOf R sg))) := by
  unfold holdR
  rw [if_neg (by omega), if_neg (by omega), if_neg (by omega), if_pos rfl]
/-- the row after t of the text's ballots; how many of them pass -/
def sgn (n : Nat) (ch : Nat → Nat) (t : Nat) : Nat → Nat := fun m => ch (t * (n + 1) + m)
def voR (R : Nat → Int32) (ch : Nat → Nat) : Nat → Nat → Int32
  | 0 => R
  | t + 1 => holdR (voR R ch t) (sgn (nn R) ch t)
def vps (R : Nat → Int32) (ch : Nat → Nat) : Nat → Nat
  | 0 => 0
  | t + 1 => vps R ch t + b1 (winm (voR R ch t) (qq R) (plusOf (voR R ch t) (sgn (nn R) ch t)))
theorem voR_CE {R : Nat → Int32} {ch : Nat → Nat} : ∀ t, CE R (voR R ch t)
  | 0 => ⟨rfl, rfl, fun _ _ _ => rfl⟩
  | t + 1 => by
    have h1 := voR_CE (R := R) (ch := ch) t
    have h2 := holdR_CE (R := voR R ch t) (sg := sgn (nn R) ch t)
    exact ⟨h2.1.trans h1.1, h2.2.1.trans h1.2.1, fun j a b => (h2.2.2 j a b).trans (h1.2.2 j a b)⟩
theorem voR_WF {R : Nat → Int32} {ch : Nat → Nat} (hW : WF R) : ∀ t, hd R + t ≤ 20000 → WF (voR R ch t) ∧ hd (voR R ch t) = hd R + t
  | 0, _ => ⟨hW, rfl⟩
  | t + 1, h => by
    obtain ⟨h1, h2⟩ := voR_WF (ch := ch) hW t (by omega)
    obtain ⟨h3, h4⟩ := holdR_WF (sg := sgn (nn R) ch t) h1 (by omega)
    exact ⟨h3, h4.trans (by omega)⟩
theorem voR_3 {R : Nat → Int32} {ch : Nat → Nat} : ∀ t, voR R ch t 3 = R 3 + nI (vps R ch t)
  | 0 => (Int32.add_zero _).symm
  | t + 1 => by
    have h := voR_3 (R := R) (ch := ch) t
    show holdR (voR R ch t) (sgn (nn R) ch t) 3 = R 3 + nI (vps R ch t + _)
    rw [holdR_3, h, ← nI_add, Int32.add_assoc, (voR_CE t).qq]
section CB
variable {k st : Nat} {I J : Mem} {P : Nat → Nat → Int32} {R R' : Nat → Int32} {kp : Bool} {A : Nat → Int32} {len : Nat} {ch : Nat → Nat}
theorem vote_c (hW : WF R) (h : CR I R st P kp A len ch) (hk : 2000 ≤ k) (hf : flt (nn R) len ch = none) (hh : hd R + 30 ≤ 20000) : AF (f_X5_vote k I) (nI (vps R ch ((len + 1) / (nn R + 1)))) I R (voR R ch ((len + 1) / (nn R + 1))) st P kp A len ch := by
  have hn := hW.n10
  obtain ⟨J0, q1, q2, q3, q4⟩ := h.begin hW hk
  have hl60 := h.2.2.2.2.1
  have hfe := fault_eq (n := nn R) h.2.2.2 hk hn
  unfold fltI at hfe
  rw [hf] at hfe
  unfold flt at hf
  by_cases h0 : nn R = 0
  · rw [if_pos h0] at hf
    cases hf
  rw [if_neg h0] at hf
  split at hf
  · cases hf
  · split at hf
    · rename_i hmod
      have hT : (len + 1) / (nn R + 1) * (nn R + 1) = len + 1 := by
        have := mod_next hmod
        exact Nat.div_mul_cancel (Nat.dvd_of_mod_eq_zero this)
      have hT30 : (len + 1) / (nn R + 1) ≤ 30 := by
        have : (len + 1) / (nn R + 1) ≤ 61 / 2 := Nat.le_trans (Nat.div_le_div_right (by omega)) (Nat.div_le_div_left (by omega) (by decide))
        omega
      generalize (len + 1) / (nn R + 1) = T at *
      unfold f_X5_vote
      rw [h.1.1.n hW, hfe, Option.bind_some, if_pos rfl, q1, Option.bind_some, q2.1.2.2.1.2, show nI 0 = nI (0 * (nn R + 1)) by rw [Nat.zero_mul]]
      have hsm : ∀ t, t ≤ T → t * (nn R + 1) ≤ T * (nn R + 1) := fun t ht => Nat.mul_le_mul_right _ ht
      refine loopE (fun g t (J : Mem) => f_X5_vote_42 k (R 3) g (nI (t * (nn R + 1))) J) T (fun t J => t ≤ T ∧ CR J (voR R ch t) (nst st) (nP st P R) kp A len ch ∧ J 48 6 = 0 ∧ ∀ b, 71 ≤ b → J b = I b) (fun o => AF o (nI (vps R ch T)) I R (voR R ch T) st P kp A len ch) (fun g J hJ => ?_) (fun g t J ht hJ => ?_) T 0 k J0 (by omega) (by omega) ⟨Nat.zero_le _, q2, q3, fun b hb => q4 _ (by omega)⟩
      · obtain ⟨_, j1, j2, j3⟩ := hJ
        have e1 := j1.2.2.2.1
        rw [hT]
        simp (disch := omega) only [f_X5_vote_42, e1, le_nI, if_pos]
        refine ⟨J, ?_, j1, j2, j3⟩
        rw [j1.1.2.2.1.2, voR_3, Int32.add_comm, Int32.add_sub_cancel]
      · obtain ⟨_, j1, j2, j3⟩ := hJ
        have e1 := j1.2.2.2.1
        have hm1 := hsm (t + 1) ht
        rw [Nat.succ_mul] at hm1
        obtain ⟨w1, w2⟩ := voR_WF (ch := ch) hW t (by omega)
        have ce := voR_CE (R := R) (ch := ch) t
        obtain ⟨K, p1, p2, p3⟩ := hold_eq (k := k) w1 j1.1 j1.2.2.2 hk (st := t * (nn R + 1)) (fun m hm => by rw [ce.nn] at hm; omega) (by decide)
        have p4 : CS K 0 (voR R ch (t + 1)) := p2
        have w3 := (voR_WF (ch := ch) hW (t + 1) (by omega)).1
        have e2 : K (8 * 0) 0 = nI (nn R) := by rw [p4.1.n w3, (voR_CE (t + 1)).nn]
        refine ⟨K, ?_, ht, j1.put p4 (fun b hb => p3 _ (by omega)), by rw [p3 _ (by omega)]; exact j2, fun b hb => by rw [p3 _ (by omega), j3 _ hb]⟩
        simp (disch := omega) only [f_X5_vote_42, e1, le_nI, if_neg, p1, Option.bind_some, e2, nI_add, Nat.succ_mul]
    · cases hf
theorem vote_f (hW : WF R) (h : CR I R st P kp A len ch) (hk : 2000 ≤ k) {i : Nat} (hf : flt (nn R) len ch = some i) : f_X5_vote k I = some ((-100 : Int32) - nI i, I) := by
  have hfe := fault_eq (n := nn R) h.2.2.2 hk hW.n10
  unfold fltI at hfe
  rw [hf] at hfe
  have hi : i ≤ 60 := by
    have hl60 := h.2.2.2.2.1
    unfold flt at hf
    have := ff_le (okc (nn R) ch) len
    split at hf
    · cases hf; omega
    · split at hf
      · cases hf; omega
      · split at hf
        · cases hf
        · cases hf; omega
  unfold f_X5_vote
  rw [h.1.1.n hW, hfe, Option.bind_some]
  simp (disch := omega) only [m1_eq, if_false]
theorem type_c (h : CR I R st P kp A len ch) (hl : len < 60) {c : Nat} (hc : c < 65536) : ∃ J, f_X5_type k (nI c) I = some (nI (len + 1), J) ∧ CR J R st P kp A (len + 1) (fun j => if j = len then c else ch j) ∧ J 48 = I 48 ∧ ∀ b, 53 ≤ b → J b = I b := by
  have e1 := h.2.2.2.1
  unfold f_X5_type f_X4_append
  simp (disch := omega) only [e1, lt_nI, if_pos, le_nI, if_neg, inBn, cl_nI, nar_cN, Option.bind_some, up2_nea, nI_add, up2_eq]
  refine ⟨_, rfl, ⟨h.1.mono (fun j hj => by rw [up2_nea _ _ _ _ (by omega), up2_nea _ _ _ _ (by omega)]), h.2.1.mono (fun b h1 h2 => by rw [up2_nea _ _ _ _ (by omega), up2_nea _ _ _ _ (by omega)]) (by rw [up2_nea _ _ _ _ (by omega), up2_nea _ _ _ _ (by omega)]) (by rw [up2_nea _ _ _ _ (by omega), up2_nea _ _ _ _ (by omega)]), ⟨by rw [up2_nea _ _ _ _ (by omega), up2_nea _ _ _ _ (by omega)]; exact h.2.2.1.1, fun e => (h.2.2.1.2 e).mono (fun j hj => by rw [up2_nea _ _ _ _ (by omega), up2_nea _ _ _ _ (by omega)])⟩, up2_eq _ _ _ _, by omega, fun j hj => ?_⟩, by rw [up2_nea _ _ _ _ (by omega), up2_nea _ _ _ _ (by omega)], fun b hb => by rw [up2_nea _ _ _ _ (by omega), up2_nea _ _ _ _ (by omega)]⟩
  rw [up2_nea _ _ _ _ (by omega)]
  by_cases e : j = len
  · simp only [if_pos e]
    rw [e, up2_eq]
    exact ⟨rfl, hc⟩
  · simp only [if_neg e]
    rw [up2_nei _ _ _ _ e]
    exact h.2.2.2.2.2 j (by omega)
theorem clear_c (h : CR I R st P kp A len ch) : ∃ J, f_X5_clearText k I = some (nI len, J) ∧ CR J R st P kp A 0 ch ∧ J 48 = I 48 ∧ ∀ b, 53 ≤ b → J b = I b := by
  unfold f_X5_clearText
  rw [h.2.2.2.1]
  refine ⟨_, rfl, ⟨h.1.mono (fun j hj => up2_nea _ _ _ _ (by omega)), h.2.1.mono (fun b h1 h2 => up2_nea _ _ _ _ (by omega)) (by rw [up2_nea _ _ _ _ (by omega)]) (up2_nea _ _ _ _ (by omega)), ⟨by rw [up2_nea _ _ _ _ (by omega)]; exact h.2.2.1.1, fun e => (h.2.2.1.2 e).mono (fun j hj => up2_nea _ _ _ _ (by omega))⟩, up2_eq _ _ _ _, by omega, fun j hj => by omega⟩, up2_nea _ _ _ _ (by omega), fun b hb => up2_nea _ _ _ _ (by omega)⟩
theorem undo_c (h : CR I R (st + 1) P kp A len ch) (hn : nn (P st) ≤ 10) : ∃ J, f_X5_undo k I = some (nI st, J) ∧ CR J (P st) st P kp A len ch ∧ J 48 6 = 0 ∧ ∀ b, 71 ≤ b → J b = I b := by
  have h4 := h.2.1.2.1
  obtain ⟨J, q1, q2, q3, q4⟩ := take_eq (k := k) h.2.1 hn
  unfold f_X5_undo
  rw [h.2.1.1, if_neg (by rw [eq0_nI (by omega)]; omega), q1, Option.bind_some]
  have e := q2.1
  refine ⟨up2 J 48 6 (nI 0), ?_, ⟨q3.mono (fun j hj => up2_nea _ _ _ _ (by omega)), q2.mono (fun b h1 h2 => up2_nea _ _ _ _ (by omega)) (by rw [up2_nea _ _ _ _ (by omega)]) (up2_nea _ _ _ _ (by omega)), ⟨by rw [up2_nei _ _ _ _ (by omega), q4 _ (by omega)]; exact h.2.2.1.1, fun e => (h.2.2.1.2 e).mono (fun j hj => by rw [up2_nea _ _ _ _ (by omega), q4 _ (by omega)])⟩, h.2.2.2.mono (by rw [up2_nea _ _ _ _ (by omega), q4 _ (by omega)]) (by rw [up2_nea _ _ _ _ (by omega), q4 _ (by omega)])⟩, up2_eq _ _ _ _, fun b hb => by rw [up2_nea _ _ _ _ (by omega), q4 _ (by omega)]⟩
  rw [up2_nea _ _ _ _ (by omega), e]
theorem keep_c (hW : WF R) (h : CR I R st P kp A len ch) : ∃ J, f_X5_keep k I = some (nI (nn R), J) ∧ CR J R st P true R len ch ∧ J 48 6 = I 48 6 ∧ ∀ b, 53 ≤ b → J b = I b := by
  obtain ⟨J, q1, q2, q3⟩ := copy_eq (k := k) (s := 1) (s2 := 0) (I := I) (by decide)
  unfold f_X5_keep
  rw [q1, Option.bind_some]
  have e : J (8 * 0) 0 = nI (nn R) := by rw [q3 _ (by omega)]; exact h.1.1.n hW
  refine ⟨up2 J 48 2 (nI 1), by rw [up2_nea _ _ _ _ (by omega), e], ⟨h.1.mono (fun j hj => by rw [up2_nea _ _ _ _ (by omega), q3 _ (by omega)]), h.2.1.mono (fun b h1 h2 => by rw [up2_nea _ _ _ _ (by omega), q3 _ (by omega)]) (by rw [up2_nea _ _ _ _ (by omega), q3 _ (by omega)]) (by rw [up2_nea _ _ _ _ (by omega), q3 _ (by omega)]), ⟨up2_eq _ _ _ _, fun e => (q2 R hW.n10 h.1).mono (fun j hj => up2_nea _ _ _ _ (by omega))⟩, h.2.2.2.mono (by rw [up2_nea _ _ _ _ (by omega), q3 _ (by omega)]) (by rw [up2_nea _ _ _ _ (by omega), q3 _ (by omega)])⟩, by rw [up2_nei _ _ _ _ (by omega), q3 _ (by omega)], fun b hb => by rw [up2_nea _ _ _ _ (by omega), q3 _ (by omega)]⟩
theorem restore_c (hW : WF R) (hA : WF A) (h : CR I R st P true A len ch) (hk : 2000 ≤ k) : AF (f_X5_restore k I) (nI (nn A)) I R A st P true A len ch := by
  obtain ⟨J, q1, q2, q3, q4⟩ := h.begin hW hk
  obtain ⟨K, p1, p2, p3⟩ := copy_eq (k := k) (s := 0) (s2 := 1) (I := J) (by decide)
  unfold f_X5_restore
  rw [h.2.2.1.1, if_neg b1_pos, q1, Option.bind_some, p1, Option.bind_some]
  have hK := p2 A hA.n10 (q2.2.2.1.2 rfl)
  refine ⟨K, by rw [hK.1.n hA], q2.put hK (fun b hb => p3 _ (by omega)), by rw [p3 _ (by omega)]; exact q3, fun b hb => by rw [p3 _ (by omega), q4 _ (by omega)]⟩
end CB
