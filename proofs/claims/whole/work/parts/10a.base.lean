/-! ===== the pure core: numbers, bits, sums, loops ===== -/
theorem inBn {m n : Nat} (h : m < 2 ^ 31) : (inB (nI m) n = true) = (m < n) := by
  apply propext
  unfold inB
  rw [decide_eq_true_eq, nI_toInt h]
  omega
theorem le_nI {a b : Nat} (ha : a < 2 ^ 31) (hb : b < 2 ^ 31) : (nI a ≤ nI b) = (a ≤ b) := propext (nI_leI ha hb)
theorem lt_nI {a b : Nat} (ha : a < 2 ^ 31) (hb : b < 2 ^ 31) : (nI a < nI b) = (a < b) := propext (nI_ltI ha hb)
theorem eq_nI {a b : Nat} (ha : a < 2 ^ 31) (hb : b < 2 ^ 31) : (nI a = nI b) = (a = b) := propext (nI_eq ha hb)
theorem eq0_nI {a : Nat} (ha : a < 2 ^ 31) : (nI a = 0) = (a = 0) := by rw [← nI_0]; exact eq_nI ha (by decide)
theorem lt0_nI {a : Nat} (ha : a < 2 ^ 31) : (nI a < 0) = False := eq_false (nI_pos ha)
theorem le0_nI {a : Nat} (ha : a < 2 ^ 31) : (nI a ≤ 0) = (a = 0) := by rw [← nI_0, le_nI ha (by decide)]; apply propext; omega
theorem ge0_nI {a : Nat} (ha : a < 2 ^ 31) : (0 ≤ nI a) = True := eq_true (nI_pos' ha)
theorem gt0_nI {a : Nat} (ha : a < 2 ^ 31) : (0 < nI a) = (0 < a) := by rw [← nI_0, lt_nI (by decide) ha]
theorem cl_nI {a : Nat} (h : a < 2 ^ 31) : (nI a).toNatClampNeg = a := nI_clamp h
theorem sub_nI {a b : Nat} (h : b ≤ a) : nI a - nI b = nI (a - b) := pk_sub h
theorem m1_nI {a : Nat} (h : 0 < a) : nI a + (-1 : Int32) = nI (a - 1) := by
  obtain ⟨b, rfl⟩ : ∃ b, a = b + 1 := ⟨a - 1, by omega⟩
  exact pk_m1 b
theorem m1_eq {a : Nat} (h : a < 2 ^ 31) : (nI a = (-1 : Int32)) = False := eq_false (fun e => by
  have := nI_toInt h
  rw [e] at this
  have h2 : (-1 : Int32).toInt = -1 := by decide
  omega)
theorem mul_nI (a b : Nat) : nI a * nI b = nI (a * b) := pk_mul a b
theorem tbv (a : Nat) : (nI a).toBitVec = BitVec.ofNat 32 a := rfl
theorem and_nI (a b : Nat) : nI a &&& nI b = nI (a &&& b) := by
  apply Int32.toBitVec_inj.mp
  rw [Int32.toBitVec_and, tbv, tbv, tbv, BitVec.ofNat_and]
theorem or_nI (a b : Nat) : nI a ||| nI b = nI (a ||| b) := by
  apply Int32.toBitVec_inj.mp
  rw [Int32.toBitVec_or, tbv, tbv, tbv, BitVec.ofNat_or]
theorem xor_nI (a b : Nat) : nI a ^^^ nI b = nI (a ^^^ b) := by
  apply Int32.toBitVec_inj.mp
  rw [Int32.toBitVec_xor, tbv, tbv, tbv, BitVec.ofNat_xor]
/-- a without the bits of b -/
def adn (a b : Nat) : Nat := a ^^^ (a &&& b)
theorem tb_adn (a b i : Nat) : (adn a b).testBit i = (a.testBit i && !b.testBit i) := by
  unfold adn
  rw [Nat.testBit_xor, Nat.testBit_and]
  cases a.testBit i <;> cases b.testBit i <;> rfl
theorem adn_nI (a b : Nat) : nI a &&& (nI b ^^^ (-1 : Int32)) = nI (adn a b) := by
  unfold adn
  rw [← xor_nI, ← and_nI]
  apply Int32.toBitVec_inj.mp
  rw [Int32.toBitVec_and, Int32.toBitVec_xor, Int32.toBitVec_xor, Int32.toBitVec_and]
  apply BitVec.eq_of_getLsbD_eq
  intro i hi
  have h1 : (-1 : Int32).toBitVec.getLsbD i = true := by
    have : ∀ i, i < 32 → (-1 : Int32).toBitVec.getLsbD i = true := by decide +kernel
    exact this i hi
  rw [BitVec.getLsbD_and, BitVec.getLsbD_xor, BitVec.getLsbD_xor, BitVec.getLsbD_and, h1]
  cases (nI a).toBitVec.getLsbD i <;> cases (nI b).toBitVec.getLsbD i <;> rfl
theorem bit_nI {m : Nat} (h : m < 31) : f_X5_bit (nI m) = nI (2 ^ m) := by
  have : ∀ m, m < 31 → f_X5_bit (nI m) = nI (2 ^ m) := by decide +kernel
  exact this m h
theorem shl1_nI {m : Nat} (h : m < 31) : (nI 1) <<< (nI m &&& 31) = nI (2 ^ m) := bit_nI h
theorem shr_nI {a b : Nat} (ha : a < 2 ^ 31) (hb : b < 31) : (nI a) >>> (nI b &&& 31) = nI (a / 2 ^ b) := by
  refine pk_shrN ha _ b ?_
  have : ∀ m, m < 31 → ((nI m &&& 31).toBitVec.smod 32).toNat = m := by decide +kernel
  exact this b hb
theorem shl_nI {a b : Nat} (hb : b < 31) (h : a * 2 ^ b < 2 ^ 32) : (nI a) <<< (nI b &&& 31) = nI (a * 2 ^ b) := by
  refine pk_shlN _ b ?_ h
  have : ∀ m, m < 31 → ((nI m &&& 31).toBitVec.smod 32).toNat = m := by decide +kernel
  exact this b hb
theorem and1_nI (a : Nat) : nI a &&& nI 1 = nI (a % 2) := by rw [and_nI, Nat.and_one_is_mod]
/-! memory -/
theorem up2_at (I : Mem) (a i : Nat) (x : Int32) (b j : Nat) : up2 I a i x b j = if b = a then (if j = i then x else I b j) else I b j := by
  unfold up2 upr
  by_cases h : b = a
  · subst h
    rw [if_pos rfl, if_pos rfl]
    rfl
  · rw [if_neg h, if_neg h]
theorem up2_eq (I : Mem) (a i : Nat) (x : Int32) : up2 I a i x a i = x := by rw [up2_at, if_pos rfl, if_pos rfl]
theorem up2_nei (I : Mem) (a i : Nat) (x : Int32) {j : Nat} (h : j ≠ i) : up2 I a i x a j = I a j := by rw [up2_at, if_pos rfl, if_neg h]
theorem up2_nea (I : Mem) (a i : Nat) (x : Int32) {b : Nat} (h : b ≠ a) : up2 I a i x b = I b := by
  funext j
  rw [up2_at, if_neg h]
theorem mem_ext {I J : Mem} (h : ∀ a j, I a j = J a j) : I = J := funext fun a => funext fun j => h a j
/-! sums and sets -/
def sm : Nat → (Nat → Nat) → Nat
  | 0, _ => 0
  | n + 1, f => sm n f + f n
theorem sm_congr {n : Nat} {f g : Nat → Nat} (h : ∀ i, i < n → f i = g i) : sm n f = sm n g := by
  induction n with
  | zero => rfl
  | succ n ih => rw [sm, sm, ih (fun i hi => h i (by omega)), h n (by omega)]
theorem sm_le {n B : Nat} {f : Nat → Nat} (h : ∀ i, i < n → f i ≤ B) : sm n f ≤ n * B := by
  induction n with
  | zero => exact Nat.zero_le _
  | succ n ih =>
    have h1 := ih (fun i hi => h i (by omega))
    have h2 := h n (by omega)
    rw [sm, Nat.succ_mul]
    omega
theorem sm_mono {n : Nat} {f g : Nat → Nat} (h : ∀ i, i < n → f i ≤ g i) : sm n f ≤ sm n g := by
  induction n with
  | zero => exact Nat.le_refl _
  | succ n ih =>
    have h1 := ih (fun i hi => h i (by omega))
    have h2 := h n (by omega)
    rw [sm, sm]
    omega
theorem sm_pre {m n : Nat} {f : Nat → Nat} (h : m ≤ n) : sm m f ≤ sm n f := by
  induction n with
  | zero => rw [Nat.le_zero.mp h]; exact Nat.le_refl _
  | succ n ih =>
    rcases Nat.lt_or_ge n m with z | z
    · rw [show m = n + 1 by omega]; exact Nat.le_refl _
    · have := ih z
      rw [sm]
      omega
theorem sm_add {n : Nat} {f g : Nat → Nat} : sm n (fun i => f i + g i) = sm n f + sm n g := by
  induction n with
  | zero => rfl
  | succ n ih => rw [sm, sm, sm, ih]; omega
theorem sm_zero {n : Nat} {f : Nat → Nat} (h : ∀ i, i < n → f i = 0) : sm n f = 0 := by
  induction n with
  | zero => rfl
  | succ n ih => rw [sm, ih (fun i hi => h i (by omega)), h n (by omega)]
theorem sm_pos {n : Nat} {f : Nat → Nat} {i : Nat} (hi : i < n) (h : 0 < f i) : 0 < sm n f := by
  induction n with
  | zero => omega
  | succ n ih =>
    rw [sm]
    rcases Nat.lt_or_ge i n with z | z
    · have := ih z
      omega
    · rw [show i = n by omega] at h
      omega
theorem sm_ge {n : Nat} {f : Nat → Nat} {i : Nat} (hi : i < n) : f i ≤ sm n f := by
  induction n with
  | zero => omega
  | succ n ih =>
    rw [sm]
    rcases Nat.lt_or_ge i n with z | z
    · have := ih z
      omega
    · rw [show i = n by omega]
      omega
theorem sm_comm {m n : Nat} {f : Nat → Nat → Nat} : sm m (fun i => sm n (fun j => f i j)) = sm n (fun j => sm m (fun i => f i j)) := by
  induction m with
  | zero => exact (sm_zero (fun _ _ => rfl)).symm
  | succ m ih =>
    rw [sm, ih, ← sm_add]
    exact sm_congr (fun j _ => rfl)
theorem sm_one {n : Nat} {f : Nat → Nat} {i : Nat} (hi : i < n) (h : ∀ j, j < n → j ≠ i → f j = 0) : sm n f = f i := by
  induction n with
  | zero => omega
  | succ n ih =>
    rw [sm]
    rcases Nat.lt_or_ge i n with z | z
    · rw [ih z (fun j hj => h j (by omega)), h n (by omega) (by omega)]
      omega
    · have e : i = n := by omega
      subst e
      rw [sm_zero (fun j hj => h j (by omega) (by omega))]
      omega
def b1 (p : Bool) : Nat := if p then 1 else 0
theorem b1_0 (p : Bool) : (nI (b1 p) = 0) = (p = false) := by cases p <;> decide
theorem nI00 : (nI 0 = 0) = True := by decide
theorem nI10 : (nI 1 = 0) = False := by decide
theorem b1_le (p : Bool) : b1 p ≤ 1 := by cases p <;> decide
def cnt (n : Nat) (p : Nat → Bool) : Nat := sm n (fun i => b1 (p i))
theorem cnt_le {n : Nat} {p : Nat → Bool} : cnt n p ≤ n := by
  have := sm_le (n := n) (B := 1) (f := fun i => b1 (p i)) (fun i _ => b1_le _)
  unfold cnt
  omega
theorem cnt_s (n : Nat) (p : Nat → Bool) : cnt (n + 1) p = cnt n p + b1 (p n) := rfl
theorem cnt_congr {n : Nat} {p q : Nat → Bool} (h : ∀ i, i < n → p i = q i) : cnt n p = cnt n q := sm_congr (fun i hi => by rw [h i hi])
def msk (n : Nat) (p : Nat → Bool) : Nat := sm n (fun i => if p i then 2 ^ i else 0)
theorem msk_s (n : Nat) (p : Nat → Bool) : msk (n + 1) p = msk n p + (if p n then 2 ^ n else 0) := rfl
theorem msk_lt (n : Nat) (p : Nat → Bool) : msk n p < 2 ^ n := by
  induction n with
  | zero => show 0 < 1; decide
  | succ n ih =>
    rw [msk_s, Nat.pow_succ]
    split <;> omega
theorem tb_msk (n : Nat) (p : Nat → Bool) (i : Nat) : (msk n p).testBit i = (decide (i < n) && p i) := by
  induction n with
  | zero =>
    show (0 : Nat).testBit i = _
    simp
  | succ n ih =>
    rw [msk_s]
    have hl := msk_lt n p
    by_cases hp : p n = true
    · rw [if_pos hp, Nat.add_comm]
      rcases Nat.lt_trichotomy i n with h | h | h
      · rw [Nat.testBit_two_pow_add_gt h, ih]
        simp [h, Nat.lt_succ_of_lt h]
      · subst h
        rw [Nat.testBit_two_pow_add_eq, Nat.testBit_lt_two_pow hl]
        simp [hp]
      · rw [Nat.testBit_lt_two_pow (Nat.lt_of_lt_of_le (by rw [Nat.pow_succ]; omega : 2 ^ n + msk n p < 2 ^ (n + 1)) (Nat.pow_le_pow_right (by decide) h))]
        simp [show ¬ i < n + 1 by omega]
    · rw [if_neg hp, Nat.add_zero, ih]
      by_cases h : i = n
      · subst h
        simp [hp]
      · by_cases h2 : i < n
        · simp [h2, Nat.lt_succ_of_lt h2]
        · simp [h2, show ¬ i < n + 1 by omega]
theorem msk_congr {n : Nat} {p q : Nat → Bool} (h : ∀ i, i < n → p i = q i) : msk n p = msk n q := sm_congr (fun i hi => by rw [h i hi])
theorem tb_ext {a b : Nat} (h : ∀ i, a.testBit i = b.testBit i) : a = b := Nat.eq_of_testBit_eq h
theorem lt_of_tb {a n : Nat} (h : ∀ i, n ≤ i → a.testBit i = false) : a < 2 ^ n := Nat.lt_pow_two_of_testBit a h
theorem pow10 {m : Nat} (h : m ≤ 10) : 2 ^ m ≤ 1024 := Nat.pow_le_pow_right (by decide) h
theorem pow31 {m : Nat} (h : m < 31) : 2 ^ m < 2 ^ 31 := Nat.pow_lt_pow_right (by decide) h
theorem holds_nI {a m : Nat} (ha : a < 2 ^ 31) (hm : m < 31) : f_X5_holds (nI a) (nI m) = nI (b1 (a.testBit m)) := by
  unfold f_X5_holds
  rw [bit_nI hm, and_nI]
  simp only [eq0_nI (Nat.lt_of_le_of_lt Nat.and_le_left ha)]
  cases h : a.testBit m with
  | false =>
    rw [if_pos]
    · rfl
    · apply tb_ext
      intro i
      rw [Nat.testBit_and, Nat.testBit_two_pow, Nat.zero_testBit]
      by_cases e : m = i
      · subst e
        rw [h]
        rfl
      · simp [e]
  | true =>
    rw [if_neg]
    · rfl
    · intro e
      have := congrArg (fun z => z.testBit m) e
      rw [Nat.testBit_and, Nat.testBit_two_pow, h, Nat.zero_testBit] at this
      simp at this
/-! a counting loop -/
theorem loopN {R : Type} (F : Nat → Nat → Option R) (n : Nat) (out : Option R) (hend : ∀ g, F (g + 1) n = out) (hstep : ∀ g m, m < n → F (g + 1) m = F g (m + 1)) : ∀ (d m g : Nat), m + d = n → d < g → F g m = out := by
  intro d
  induction d with
  | zero =>
    intro m g h1 h2
    obtain ⟨g', rfl⟩ : ∃ g', g = g' + 1 := ⟨g - 1, by omega⟩
    rw [show m = n by omega]
    exact hend g'
  | succ d ih =>
    intro m g h1 h2
    obtain ⟨g', rfl⟩ : ∃ g', g = g' + 1 := ⟨g - 1, by omega⟩
    rw [hstep g' m (by omega)]
    exact ih (m + 1) g' (by omega) (by omega)
theorem loop0 {R : Type} (F : Nat → Nat → Option R) (n : Nat) (out : Option R) {g : Nat} (hg : n < g) (hend : ∀ g, F (g + 1) n = out) (hstep : ∀ g m, m < n → F (g + 1) m = F g (m + 1)) : F g 0 = out := loopN F n out hend hstep n 0 g (by omega) hg
theorem loopM {R : Type} (F : Nat → Nat → Option R) (n : Nat) (out : Option R) {g m0 : Nat} (h0 : m0 ≤ n) (hg : n - m0 < g) (hend : ∀ g, F (g + 1) n = out) (hstep : ∀ g m, m0 ≤ m → m < n → F (g + 1) m = F g (m + 1)) : F g m0 = out := by
  refine loopN (fun g m => F g (m0 + m)) (n - m0) out (fun g => ?_) (fun g m hm => ?_) (n - m0) 0 g (by omega) hg
  · show F (g + 1) (m0 + (n - m0)) = out
    rw [show m0 + (n - m0) = n by omega]
    exact hend g
  · exact hstep g (m0 + m) (by omega) (by omega)
theorem loopE {σ R : Type} (F : Nat → Nat → σ → Option R) (n : Nat) (Inv : Nat → σ → Prop) (P : Option R → Prop) (hend : ∀ g J, Inv n J → P (F (g + 1) n J)) (hstep : ∀ g m J, m < n → Inv m J → ∃ J', F (g + 1) m J = F g (m + 1) J' ∧ Inv (m + 1) J') : ∀ (d m g : Nat) (J : σ), m + d = n → d < g → Inv m J → P (F g m J) := by
  intro d
  induction d with
  | zero =>
    intro m g J h1 h2 hJ
    obtain ⟨g', rfl⟩ : ∃ g', g = g' + 1 := ⟨g - 1, by omega⟩
    have e : m = n := by omega
    subst e
    exact hend g' J hJ
  | succ d ih =>
    intro m g J h1 h2 hJ
    obtain ⟨g', rfl⟩ : ∃ g', g = g' + 1 := ⟨g - 1, by omega⟩
    obtain ⟨J', e, hJ'⟩ := hstep g' m J (by omega) hJ
    rw [e]
    exact ih (m + 1) g' J' (by omega) (by omega) hJ'
/-- the first place below n where p fails, or n -/
def ff (p : Nat → Bool) : Nat → Nat
  | 0 => 0
  | n + 1 => if ff p n < n then ff p n else if p n then n + 1 else n
theorem ff_le (p : Nat → Bool) : ∀ n, ff p n ≤ n
  | 0 => Nat.le_refl _
  | n + 1 => by
    have := ff_le p n
    rw [ff]
    split
    · omega
    · split <;> omega
theorem ff_yes (p : Nat → Bool) : ∀ n i, i < ff p n → p i = true
  | 0, i, h => by exact absurd h (Nat.not_lt_zero i)
  | n + 1, i, h => by
    rw [ff] at h
    have hl := ff_le p n
    split at h
    · exact ff_yes p n i h
    · rename_i h0
      split at h
      · rename_i h1
        by_cases e : i = n
        · rw [e]; exact h1
        · exact ff_yes p n i (by omega)
      · exact ff_yes p n i (by omega)
theorem ff_no (p : Nat → Bool) : ∀ n, ff p n < n → p (ff p n) = false
  | 0, h => absurd h (Nat.not_lt_zero _)
  | n + 1, h => by
    rw [ff] at h ⊢
    have hl := ff_le p n
    split
    · rename_i h0
      exact ff_no p n h0
    · rename_i h0
      rw [if_neg h0] at h
      split
      · rename_i h1
        rw [if_pos h1] at h
        omega
      · rename_i h1
        simpa using h1
/-- a counting loop, any end -/
theorem loop0e {R : Type} (F : Nat → Nat → Option R) (n : Nat) (P : Option R → Prop) {g : Nat} (hg : n < g) (hend : ∀ g, P (F (g + 1) n)) (hstep : ∀ g m, m < n → F (g + 1) m = F g (m + 1)) : P (F g 0) :=
  loopE (fun g m (_ : Unit) => F g m) n (fun _ _ => True) P (fun g _ _ => hend g) (fun g m J hm _ => ⟨J, hstep g m hm, trivial⟩) n 0 g () (by omega) hg trivial
