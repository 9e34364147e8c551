/-! texts, ballots -/
def TX (I : Mem) (len : Nat) (ch : Nat → Nat) : Prop := I 51 1 = nI len ∧ len ≤ 60 ∧ ∀ j, j < len → I 52 j = nI (ch j) ∧ ch j < 65536
def sig (c : Nat) : Bool := c == 43 || (c == 45 || c == 48)
/-- is the character right at its place, with n signs a ballot -/
def okc (n : Nat) (ch : Nat → Nat) (i : Nat) : Bool := if i % (n + 1) = n then ch i == 44 else sig (ch i)
def flt (n len : Nat) (ch : Nat → Nat) : Option Nat := if n = 0 then some 0 else if ff (okc n ch) len < len then some (ff (okc n ch) len) else if len % (n + 1) = n then none else some len
theorem nar_cN {c : Nat} (h : c < 65536) : vp_nar .char (nI c) = nI c := Value.int.inj (pk_charN h).1
section TB
variable {k s : Nat} {I J : Mem} {R : Nat → Int32} {len : Nat} {ch : Nat → Nat}
theorem TX.mono (h : TX I len ch) (h1 : J 51 1 = I 51 1) (h2 : J 52 = I 52) : TX J len ch := ⟨h1.trans h.1, h.2.1, fun j hj => by rw [h2]; exact h.2.2 j hj⟩
theorem at_eq (h : TX I len ch) {i : Nat} (hi : i < len) : f_X4_at k (nI i) I = some (nI (ch i)) := by
  obtain ⟨h1, h2, h3⟩ := h
  obtain ⟨h4, h5⟩ := h3 i hi
  unfold f_X4_at
  simp (disch := omega) only [lt0_nI, if_false, h1, le_nI, if_neg, if_pos, inBn, cl_nI, h4, nar_cN, if_true]
theorem isSign_eq {c : Nat} (h : c < 65536) : f_X4_isSign (nI c) = nI (b1 (sig c)) := by
  unfold f_X4_isSign sig
  simp (disch := omega) only [eq_nI]
  by_cases e1 : c = 43
  · simp [e1, b1]
  · by_cases e2 : c = 45
    · simp [e2, b1]
    · by_cases e3 : c = 48 <;> simp [e1, e2, e3, b1]
theorem mod_next {n i : Nat} (h : i % (n + 1) = n) : (i + 1) % (n + 1) = 0 := by
  have := Nat.div_add_mod i (n + 1)
  rw [h] at this
  rw [← this, Nat.add_assoc, Nat.mul_add_mod]
  exact Nat.mod_self _
theorem mod_next' {n i : Nat} (h : ¬ i % (n + 1) = n) : (i + 1) % (n + 1) = i % (n + 1) + 1 := by
  have h0 := Nat.mod_lt i (show 0 < n + 1 by omega)
  have := Nat.div_add_mod i (n + 1)
  have e : i + 1 = (n + 1) * (i / (n + 1)) + (i % (n + 1) + 1) := by omega
  rw [e, Nat.mul_add_mod]
  exact Nat.mod_eq_of_lt (by omega)
def fltI (n len : Nat) (ch : Nat → Nat) : Int32 := match flt n len ch with
  | none => -1
  | some i => nI i
theorem fault_eq (h : TX I len ch) (hk : 2000 ≤ k) {n : Nat} (hn : n ≤ 10) : f_X4_fault k (nI n) I = some (fltI n len ch) := by
  obtain ⟨h1, h2, h3⟩ := h
  unfold f_X4_fault fltI flt
  by_cases hn0 : n = 0
  · subst hn0
    simp [nI_0]
  · simp (disch := omega) only [eq0_nI, if_neg]
    have hfl := ff_le (okc n ch) len
    have key : ∀ i, i ≤ len → i % (n + 1) ≤ n := fun i _ => by have := Nat.mod_lt i (show 0 < n + 1 by omega); omega
    refine loop0 (fun g i => f_X4_fault_10 k I (nI n) g (nI (i % (n + 1))) (nI i)) (ff (okc n ch) len) _ (by omega) (fun g => ?_) (fun g i hi => ?_)
    · have hm := key _ hfl
      by_cases e : ff (okc n ch) len < len
      · have hno := ff_no _ _ e
        obtain ⟨h4, h5⟩ := h3 _ e
        generalize ff (okc n ch) len = i at *
        unfold okc at hno
        by_cases e2 : i % (n + 1) = n
        · rw [if_pos e2] at hno
          simp (disch := omega) only [f_X4_fault_10, h1, le_nI, if_neg, eq_nI, if_pos, f_X4_fault_28, nI10, if_false, inBn, cl_nI, h4]
          rw [if_neg (by intro q; rw [q] at hno; simp at hno)]
        · rw [if_neg e2] at hno
          simp (disch := omega) only [f_X4_fault_10, h1, le_nI, if_neg, eq_nI, if_pos, f_X4_fault_28, nI00, if_true, inBn, cl_nI, h4, isSign_eq, hno, b1_0]
      · have e3 : ff (okc n ch) len = len := by omega
        rw [e3] at hm ⊢
        simp (disch := omega) only [f_X4_fault_10, h1, le_nI, if_pos, eq_nI, Nat.lt_irrefl, if_false]
        by_cases e2 : len % (n + 1) = n <;> simp [e2]
    · have hy := ff_yes _ _ i hi
      have hm := key i (by omega)
      obtain ⟨h4, h5⟩ := h3 i (by omega)
      unfold okc at hy
      by_cases e2 : i % (n + 1) = n
      · rw [if_pos e2] at hy
        have hc : ch i = 44 := by simpa using hy
        have := mod_next e2
        simp (disch := omega) only [f_X4_fault_10, h1, le_nI, if_neg, eq_nI, if_pos, f_X4_fault_28, nI10, if_false, inBn, cl_nI, h4, f_X4_fault_63, nI_add, this]
      · rw [if_neg e2] at hy
        have := mod_next' e2
        simp (disch := omega) only [f_X4_fault_10, h1, le_nI, if_neg, eq_nI, if_pos, f_X4_fault_28, nI00, if_true, inBn, cl_nI, h4, isSign_eq, hy, b1_0, f_X4_fault_63, nI_add, this, Bool.true_eq_false, if_false]
theorem putFirst_eq {a : Nat} {v : Int32} (hk : 2000 ≤ k) : ∃ J, f_X0_putFirst k a v I = some J ∧ (J a 0 = v ∧ ∀ j, 0 < j → j < 8 → J a j = I a (j - 1)) ∧ ∀ b, b ≠ a → J b = I b := by
  unfold f_X0_putFirst
  rw [show nI 8 - nI 1 = nI (7 - 0) from sub_nI (by decide)]
  refine loopE (fun g m (J : Mem) => f_X0_putFirst_5 k a v g (nI (7 - m)) J) 7 (fun m J => (∀ j, j < 8 → J a j = if 7 - m < j then I a (j - 1) else I a j) ∧ ∀ b, b ≠ a → J b = I b) (fun o => ∃ J, o = some J ∧ (J a 0 = v ∧ ∀ j, 0 < j → j < 8 → J a j = I a (j - 1)) ∧ ∀ b, b ≠ a → J b = I b) (fun g J hJ => ?_) (fun g m J hm hJ => ?_) 7 0 k I (by omega) (by omega) ⟨fun j hj => by rw [if_neg (by omega)], fun _ _ => rfl⟩
  · simp (disch := omega) only [f_X0_putFirst_5, le0_nI, if_pos, if_neg, cl_nI]
    refine ⟨_, rfl, ⟨up2_eq _ _ _ _, fun j h1 h2 => ?_⟩, fun b hb => ?_⟩
    · rw [up2_nei _ _ _ _ (by omega), hJ.1 j h2, if_pos (by omega)]
    · rw [up2_nea _ _ _ _ hb, hJ.2 b hb]
  · refine ⟨_, by simp (disch := omega) only [f_X0_putFirst_5, le0_nI, if_pos, if_neg, cl_nI, sub_nI, inBn, m1_nI]; rw [show 7 - m - 1 = 7 - (m + 1) by omega], fun j hj => ?_, fun b hb => ?_⟩
    · by_cases e : j = 7 - m
      · subst e
        rw [up2_eq, hJ.1 _ (by omega), if_neg (by omega), if_pos (by omega)]
        congr 1
      · rw [up2_nei _ _ _ _ e, hJ.1 j hj]
        by_cases e2 : 7 - m < j
        · rw [if_pos e2, if_pos (by omega)]
        · rw [if_neg e2, if_neg (by omega)]
    · rw [up2_nea _ _ _ _ hb, hJ.2 b hb]
theorem oneIf_eq (p : Bool) : f_X5_oneIf (nI (b1 p)) = nI (b1 p) := by cases p <;> decide
theorem badd_eq {p : Bool} {v w : Int32} (hk : 2000 ≤ k) : ∃ J, f_X0_add k s (nI (b1 p)) v w I = some J ∧ (J (8 * s + 4) 0 = I (8 * s + 4) 0 + nI 1 ∧ J (8 * s + 4) 1 = I (8 * s + 4) 1 + nI (b1 p)) ∧ (∀ j, j < 8 → J (8 * s + 5) j = (if j = 0 then nI (b1 p) else I (8 * s + 5) (j - 1)) ∧ J (8 * s + 6) j = (if j = 0 then v else I (8 * s + 6) (j - 1)) ∧ J (8 * s + 7) j = (if j = 0 then w else I (8 * s + 7) (j - 1))) ∧ ∀ b, b ≠ 8 * s + 4 → b ≠ 8 * s + 5 → b ≠ 8 * s + 6 → b ≠ 8 * s + 7 → J b = I b := by
  unfold f_X0_add
  simp only [Option.bind_some, oneIf_eq]
  generalize hI1 : up2 (up2 I (8 * s + 4) 0 (I (8 * s + 4) 0 + nI 1)) (8 * s + 4) 1 (up2 I (8 * s + 4) 0 (I (8 * s + 4) 0 + nI 1) (8 * s + 4) 1 + nI (b1 p)) = I1
  have f1 : ∀ b, b ≠ 8 * s + 4 → I1 b = I b := fun b hb => by rw [← hI1, up2_nea _ _ _ _ hb, up2_nea _ _ _ _ hb]
  have f2 : I1 (8 * s + 4) 0 = I (8 * s + 4) 0 + nI 1 := by rw [← hI1, up2_nei _ _ _ _ (by decide), up2_eq]
  have f3 : I1 (8 * s + 4) 1 = I (8 * s + 4) 1 + nI (b1 p) := by rw [← hI1, up2_eq, up2_nei _ _ _ _ (by decide)]
  obtain ⟨J1, e1, ⟨a1, a2⟩, a3⟩ := putFirst_eq (k := k) (I := I1) (a := 8 * s + 5) (v := nI (b1 p)) hk
  obtain ⟨J2, e2, ⟨c1, c2⟩, c3⟩ := putFirst_eq (k := k) (I := J1) (a := 8 * s + 6) (v := v) hk
  obtain ⟨J3, e3, ⟨d1, d2⟩, d3⟩ := putFirst_eq (k := k) (I := J2) (a := 8 * s + 7) (v := w) hk
  rw [e1]
  simp only [Option.bind_some]
  rw [e2]
  simp only [Option.bind_some]
  rw [e3]
  refine ⟨J3, rfl, ⟨?_, ?_⟩, fun j hj => ⟨?_, ?_, ?_⟩, fun b h4 h5 h6 h7 => ?_⟩
  · rw [d3 _ (by omega), c3 _ (by omega), a3 _ (by omega), f2]
  · rw [d3 _ (by omega), c3 _ (by omega), a3 _ (by omega), f3]
  · rw [d3 _ (by omega), c3 _ (by omega)]
    by_cases e : j = 0
    · rw [if_pos e, e, a1]
    · rw [if_neg e, a2 j (by omega) hj, f1 _ (by omega)]
  · rw [d3 _ (by omega)]
    by_cases e : j = 0
    · rw [if_pos e, e, c1]
    · rw [if_neg e, c2 j (by omega) hj, a3 _ (by omega), f1 _ (by omega)]
  · by_cases e : j = 0
    · rw [if_pos e, e, d1]
    · rw [if_neg e, d2 j (by omega) hj, c3 _ (by omega), a3 _ (by omega), f1 _ (by omega)]
  · rw [d3 _ h7, c3 _ h6, a3 _ h5, f1 _ h4]
end TB
