/-! any int; the questions has, isWeight, isQuota; how many bits -/
theorem int_cases (v : Int32) : v < 0 ∨ ∃ m, m < 2 ^ 31 ∧ v = nI m := by
  rcases Int.lt_or_le v.toInt 0 with h | h
  · exact Or.inl (Int32.lt_iff_toInt_lt.mpr h)
  · refine Or.inr ⟨v.toInt.toNat, ?_, ?_⟩
    · have := v.toInt_lt
      omega
    · apply Int32.toInt_inj.mp
      rw [nI_toInt (by have := v.toInt_lt; omega)]
      omega
theorem not_neg {v : Int32} {m : Nat} (h : v < 0) (hm : m < 2 ^ 31) : v ≠ nI m := fun e => by
  rw [e, lt0_nI hm] at h
  exact h
theorem neg_lt {v : Int32} (h : v < 0) {m : Nat} (hm : m < 2 ^ 31) : v < nI m := by
  rw [Int32.lt_iff_toInt_lt] at h ⊢
  rw [nI_toInt hm]
  have : (0 : Int32).toInt = 0 := by decide
  omega
theorem neg_nlt {v : Int32} (h : v < 0) {m : Nat} (hm : m < 2 ^ 31) : ¬ nI m < v := by
  rw [Int32.lt_iff_toInt_lt] at h ⊢
  rw [nI_toInt hm]
  have : (0 : Int32).toInt = 0 := by decide
  omega
theorem neg_nle {v : Int32} (h : v < 0) {m : Nat} (hm : m < 2 ^ 31) : ¬ nI m ≤ v := by
  rw [Int32.lt_iff_toInt_lt] at h
  rw [Int32.le_iff_toInt_le, nI_toInt hm]
  have : (0 : Int32).toInt = 0 := by decide
  omega
theorem has_yes {I : Mem} {s n m : Nat} (h : I (8 * s) 0 = nI n) (hn : n ≤ 10) (hm : m < n) : f_X3_has s (nI m) I = nI 1 := by
  unfold f_X3_has
  simp (disch := omega) only [lt0_nI, if_false, h, le_nI, if_neg]
theorem has_no {I : Mem} {s n : Nat} {v : Int32} (h : I (8 * s) 0 = nI n) (hn : n ≤ 10) (hv : ∀ m, m < n → v ≠ nI m) : f_X3_has s v I = nI 0 := by
  unfold f_X3_has
  rcases int_cases v with z | ⟨m, h1, rfl⟩
  · rw [if_pos z]
  · have : n ≤ m := by
      rcases Nat.lt_or_ge m n with y | y
      · exact absurd rfl (hv m y)
      · exact y
    simp (disch := omega) only [lt0_nI, if_false, h, le_nI, if_pos]
theorem mem_or (v : Int32) (n : Nat) : (∃ m, m < n ∧ v = nI m) ∨ ∀ m, m < n → v ≠ nI m := by
  by_cases h : ∃ m, m < n ∧ v = nI m
  · exact Or.inl h
  · exact Or.inr (fun m hm e => h ⟨m, hm, e⟩)
theorem isWeight_yes {w : Nat} (h : w ≤ 50) : f_X5_isWeight (nI w) = nI 1 := by
  unfold f_X5_isWeight
  simp (disch := omega) only [lt0_nI, if_false, lt_nI, if_neg]
theorem isWeight_no {v : Int32} (h : ∀ m, m < 51 → v ≠ nI m) : f_X5_isWeight v = nI 0 := by
  unfold f_X5_isWeight
  rcases int_cases v with z | ⟨m, h1, rfl⟩
  · rw [if_pos z]
  · have : 51 ≤ m := by
      rcases Nat.lt_or_ge m 51 with y | y
      · exact absurd rfl (h m y)
      · exact y
    simp (disch := omega) only [lt0_nI, if_false, lt_nI, if_pos]
theorem isQuota_yes {q : Nat} (h1 : 1 ≤ q) (h : q ≤ 500) : f_X5_isQuota (nI q) = nI 1 := by
  unfold f_X5_isQuota
  simp (disch := omega) only [lt_nI, if_neg]
theorem isQuota_no {v : Int32} (h : ∀ m, 1 ≤ m → m ≤ 500 → v ≠ nI m) : f_X5_isQuota v = nI 0 := by
  unfold f_X5_isQuota
  rcases int_cases v with z | ⟨m, h1, rfl⟩
  · rw [if_pos (neg_lt z (by decide))]
  · have : m < 1 ∨ 500 < m := by
      rcases Nat.lt_or_ge m 1 with y | y
      · exact Or.inl y
      · rcases Nat.lt_or_ge 500 m with x | x
        · exact Or.inr x
        · exact absurd rfl (h m y x)
    rcases this with y | y
    · simp (disch := omega) only [lt_nI, if_pos]
    · simp (disch := omega) only [lt_nI, if_pos]
      split <;> rfl
theorem quo_or (v : Int32) : (∃ q, 1 ≤ q ∧ q ≤ 500 ∧ v = nI q) ∨ ∀ m, 1 ≤ m → m ≤ 500 → v ≠ nI m := by
  by_cases h : ∃ q, 1 ≤ q ∧ q ≤ 500 ∧ v = nI q
  · exact Or.inl h
  · exact Or.inr (fun m h1 h2 e => h ⟨m, h1, h2, e⟩)
def pop (s : Nat) : Nat := cnt 10 (fun i => s.testBit i)
set_option maxRecDepth 100000 in
theorem bitCount_eq {s : Nat} (h : s < 1024) : f_J6_bitCount_0f7a4 (nI s) = nI (pop s) := by
  have : ∀ s, s < 1024 → f_J6_bitCount_0f7a4 (nI s) = nI (pop s) := by decide +kernel
  exact this s h
theorem cnt_ext {m n : Nat} {p : Nat → Bool} (h : n ≤ m) : cnt m (fun i => decide (i < n) && p i) = cnt n p := by
  induction m with
  | zero =>
    rw [show n = 0 by omega]
    rfl
  | succ m ih =>
    rw [cnt_s]
    rcases Nat.lt_or_ge m n with z | z
    · have e : n = m + 1 := by omega
      subst e
      rw [cnt_s]
      congr 1
      · exact cnt_congr (fun i hi => by simp [show i < m + 1 by omega])
      · simp
    · rw [ih z]
      simp [show ¬ m < n by omega, b1]
theorem pop_msk {n : Nat} (h : n ≤ 10) (p : Nat → Bool) : pop (msk n p) = cnt n p := by
  unfold pop
  rw [cnt_congr (fun i _ => tb_msk n p i)]
  exact cnt_ext h
theorem cnt_but {n v : Nat} {p : Nat → Bool} (hv : v < n) (hp : p v = true) : cnt n p = cnt n (fun j => p j && !(j == v)) + 1 := by
  induction n with
  | zero => omega
  | succ n ih =>
    rw [cnt_s, cnt_s]
    rcases Nat.lt_or_ge v n with z | z
    · rw [ih z]
      have : (n == v) = false := by simp; omega
      rw [this]
      simp
      omega
    · have e : v = n := by omega
      subst e
      rw [hp]
      have : cnt v p = cnt v (fun j => p j && !(j == v)) := cnt_congr (fun i hi => by
        have : (i == v) = false := by simp; omega
        rw [this]; simp)
      rw [this]
      simp [b1]
