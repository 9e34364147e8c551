/-! the class counts the coalitions that win, by quota -/
def vok (R : Nat → Int32) (s : Nat) : Bool := adn (vmk R) (mset R s) == 0
def rin (R : Nat → Int32) (r s : Nat) : Bool := r == 10 || (mset R s).testBit r
/-- of the first c coalitions those with all vetoes, the weight w and the member r (10: any) -/
def cw3 (R : Nat → Int32) (r c w : Nat) : Nat := cnt c (fun s => vok R s && (wof R (mset R s) == w && rin R r s))
def WN (R : Nat → Int32) (r q : Nat) : Nat := cnt (2 ^ nb R) (fun s => ww R q s && rin R r s)
section CW
variable {k : Nat} {I J K : Mem} {R : Nat → Int32} {q : Nat}
theorem fill_eq {a : Nat} (hk : 2000 ≤ k) : ∃ J, f_J7_fill_53178 k a (nI 0) I = some J ∧ (∀ j, j < 501 → J a j = nI 0) ∧ ∀ b, b ≠ a → J b = I b := by
  unfold f_J7_fill_53178
  refine loopE (fun g m (J : Mem) => f_J7_fill_53178_5 k a (nI 0) (nI 501) g (nI m) J) 501 (fun m J => (∀ j, j < m → J a j = nI 0) ∧ ∀ b, b ≠ a → J b = I b) (fun o => ∃ J, o = some J ∧ (∀ j, j < 501 → J a j = nI 0) ∧ ∀ b, b ≠ a → J b = I b) (fun g J hJ => ?_) (fun g m J hm hJ => ?_) 501 0 k I (by omega) (by omega) ⟨fun j hj => by omega, fun _ _ => rfl⟩
  · simp (disch := omega) only [f_J7_fill_53178_5, le_nI, if_pos]
    exact ⟨J, rfl, hJ⟩
  · simp (disch := omega) only [f_J7_fill_53178_5, le_nI, if_neg, inBn, if_pos, cl_nI, nI_add]
    refine ⟨_, rfl, fun j hj => ?_, fun b hb => by rw [up2_nea _ _ _ _ hb, hJ.2 b hb]⟩
    by_cases e : j = m
    · rw [e, up2_eq]
    · rw [up2_nei _ _ _ _ e]; exact hJ.1 j (by omega)
theorem hav_eq (h2 : I 53 2 = nI (vmk R)) (hW : WF R) {s : Nat} : f_X2_hasAllVetoes (nI (mset R s)) I = nI (b1 (vok R s)) := by
  have h3 : adn (vmk R) (mset R s) < 2 ^ 10 := adn_le _ _ 10 (vmk_lt hW)
  unfold f_X2_hasAllVetoes vok
  rw [h2, adn_nI]
  simp (disch := omega) only [eq0_nI]
  by_cases e : adn (vmk R) (mset R s) = 0 <;> simp [e, b1]
theorem caw_eq (hW : WF R) {s w : Nat} (h0 : I 53 0 = nI (nn R)) (hw : w ≤ 500) (hk : 2000 ≤ k) : ∃ J, f_X2_countAtWeight k (nI (mset R s)) (nI w) I = some J ∧ (∀ r, r ≤ 10 → ∀ j, J (60 + r) j = I (60 + r) j + nI (b1 (j == w && rin R r s))) ∧ ∀ b, (b < 60 ∨ 70 < b) → J b = I b := by
  have hn := hW.n10
  have hml := mset_lt hW s
  unfold f_X2_countAtWeight
  simp (disch := omega) only [lt0_nI, if_false, le_nI, if_pos, inBn, cl_nI, Option.bind_some]
  have add0 : ∀ x : Int32, x + nI 0 = x := fun x => Int32.add_zero x
  refine loopE (fun g m (J : Mem) => f_X2_countAtWeight_27 k (nI (mset R s)) (nI w) g (nI m) J) (nn R) (fun m J => (∀ r, r ≤ 10 → ∀ j, J (60 + r) j = if r < m ∨ r = 10 then I (60 + r) j + nI (b1 (j == w && rin R r s)) else I (60 + r) j) ∧ ∀ b, (b < 60 ∨ 70 < b) → J b = I b) (fun o => ∃ J, o = some J ∧ (∀ r, r ≤ 10 → ∀ j, J (60 + r) j = I (60 + r) j + nI (b1 (j == w && rin R r s))) ∧ ∀ b, (b < 60 ∨ 70 < b) → J b = I b) (fun g J hJ => ?_) (fun g m J hm hJ => ?_) (nn R) 0 k _ (by omega) (by omega) ⟨fun r hr j => ?_, fun b hb => up2_nea _ _ _ _ (by omega)⟩
  · have e0 : J 53 0 = nI (nn R) := by rw [hJ.2 _ (by omega)]; exact h0
    simp (disch := omega) only [f_X2_countAtWeight_27, e0, le_nI, if_pos]
    refine ⟨J, rfl, fun r hr j => ?_, hJ.2⟩
    rw [hJ.1 r hr j]
    by_cases z : r < nn R ∨ r = 10
    · rw [if_pos z]
    · rw [if_neg z]
      have e : rin R r s = false := by
        unfold rin
        rw [tb_mset]
        have e1 : (r == 10) = false := by simp; omega
        have e2 : decide (r < nn R) = false := by simp; omega
        rw [e1, e2]
        rfl
      rw [e, Bool.and_false]
      exact (add0 _).symm
  · have e0 : J 53 0 = nI (nn R) := by rw [hJ.2 _ (by omega)]; exact h0
    have hjm := hJ.1 m (by omega) w
    rw [if_neg (by omega)] at hjm
    have htb : rin R m s = (mset R s).testBit m := by
      unfold rin
      have e1 : (m == 10) = false := by simp; omega
      rw [e1, Bool.false_or]
    simp (disch := omega) only [f_X2_countAtWeight_27, e0, le_nI, if_neg, holds_nI, b1_0, inBn, if_pos, cl_nI, Option.bind_some, nI_add]
    cases d : (mset R s).testBit m
    · rw [if_pos rfl]
      refine ⟨J, rfl, fun r hr j => ?_, hJ.2⟩
      rw [hJ.1 r hr j]
      by_cases z : r = m
      · rw [if_neg (by omega), if_pos (by omega), z, htb, d, Bool.and_false]
        exact (add0 _).symm
      · by_cases y : r < m ∨ r = 10
        · rw [if_pos y, if_pos (by omega)]
        · rw [if_neg y, if_neg (by omega)]
    · rw [if_neg (by decide)]
      refine ⟨_, rfl, fun r hr j => ?_, fun b hb => by rw [up2_nea _ _ _ _ (by omega), hJ.2 b hb]⟩
      by_cases z : r = m
      · rw [z, if_pos (by omega), htb, d, Bool.and_true]
        by_cases e : j = w
        · rw [e, up2_eq, hjm, beq_self_eq_true]
          rfl
        · rw [up2_nei _ _ _ _ e, hJ.1 m (by omega) j, if_neg (by omega)]
          have : (j == w) = false := by simpa using e
          rw [this]
          exact (add0 _).symm
      · rw [up2_nea _ _ _ _ (by omega), hJ.1 r hr j]
        by_cases y : r < m ∨ r = 10
        · rw [if_pos y, if_pos (by omega)]
        · rw [if_neg y, if_neg (by omega)]
  · by_cases z : r = 10
    · rw [z, if_pos (by omega)]
      have : rin R 10 s = true := rfl
      rw [this, Bool.and_true]
      by_cases e : j = w
      · rw [e, up2_eq, beq_self_eq_true]
        rfl
      · rw [up2_nei _ _ _ _ e]
        have : (j == w) = false := by simpa using e
        rw [this]
        exact (add0 _).symm
    · rw [if_neg (by omega), up2_nea _ _ _ _ (by omega)]
end CW
