/-! shares in lowest terms; wins -/
theorem gcd_step (a b : Nat) : Nat.gcd b (a % b) = Nat.gcd a b := by
  rw [Nat.gcd_comm b (a % b), ← Nat.gcd_rec, Nat.gcd_comm]
theorem gcd_c {k : Nat} : ∀ (n a b t g : Nat), b < 2 ^ n → t + 2 * n < 64 → 2 * n < g → a < 2 ^ 31 → b < 2 ^ 31 → f_X5_greatestDivisor_7 k g (nI a) (nI b) (nI t) = f_X5_greatestDivisor_34 k (nI (Nat.gcd a b)) := by
  intro n
  induction n with
  | zero =>
    intro a b t g hb ht hg ha hb2
    have e : b = 0 := by
      have : b < 1 := hb
      omega
    subst e
    obtain ⟨g', rfl⟩ : ∃ g', g = g' + 1 := ⟨g - 1, by omega⟩
    simp (disch := omega) only [f_X5_greatestDivisor_7, le_nI, if_neg, eq0_nI, if_true, Nat.gcd_zero_right]
  | succ n ih =>
    intro a b t g hb ht hg ha hb2
    obtain ⟨g', rfl⟩ : ∃ g', g = g' + 1 + 1 := ⟨g - 2, by omega⟩
    have h64 : (nI 64 ≤ nI t) = False := by rw [le_nI (by decide) (by omega)]; exact eq_false (by omega)
    have h64b : (nI 64 ≤ nI (t + 1)) = False := by rw [le_nI (by decide) (by omega)]; exact eq_false (by omega)
    rw [f_X5_greatestDivisor_7]
    simp (disch := omega) only [h64, if_false, eq0_nI, nI_add]
    by_cases e : b = 0
    · rw [if_pos e, e, Nat.gcd_zero_right]
    · rw [if_neg e, if_pos e, pk_rem ha (by omega) hb2, f_X5_greatestDivisor_7]
      have hr : a % b < b := Nat.mod_lt _ (by omega)
      simp (disch := omega) only [h64b, if_false, eq0_nI, nI_add]
      by_cases e2 : a % b = 0
      · rw [if_pos e2, ← gcd_step, e2, Nat.gcd_zero_right]
      · rw [if_neg e2, if_pos e2, pk_rem hb2 (by omega) (by omega)]
        have hr2 : b % (a % b) < a % b := Nat.mod_lt _ (by omega)
        have hd := Nat.div_add_mod b (a % b)
        have hq : 1 ≤ b / (a % b) := (Nat.one_le_div_iff (by omega)).mpr (by omega)
        have hmul : (a % b) * 1 ≤ (a % b) * (b / (a % b)) := Nat.mul_le_mul_left _ hq
        rw [Nat.pow_succ] at hb
        rw [ih (a % b) (b % (a % b)) (t + 1 + 1) g' (by omega) (by omega) (by omega) (by omega) (by omega), gcd_step, gcd_step]
theorem gcd_m {k : Nat} : ∀ (n a b g : Nat), b < 2 ^ n → 2 * n < g → a < 2 ^ 31 → b < 2 ^ 31 → f_X6_common_4 k g (nI a) (nI b) = some (nI (Nat.gcd a b)) := by
  intro n
  induction n with
  | zero =>
    intro a b g hb hg ha hb2
    have e : b = 0 := by
      have : b < 1 := hb
      omega
    subst e
    obtain ⟨g', rfl⟩ : ∃ g', g = g' + 1 := ⟨g - 1, by omega⟩
    simp (disch := omega) only [f_X6_common_4, eq0_nI, if_true, Nat.gcd_zero_right]
  | succ n ih =>
    intro a b g hb hg ha hb2
    obtain ⟨g', rfl⟩ : ∃ g', g = g' + 1 + 1 := ⟨g - 2, by omega⟩
    rw [f_X6_common_4]
    simp (disch := omega) only [eq0_nI]
    by_cases e : b = 0
    · rw [if_pos e, e, Nat.gcd_zero_right]
    · rw [if_neg e, if_pos e, pk_rem ha (by omega) hb2, f_X6_common_4]
      have hr : a % b < b := Nat.mod_lt _ (by omega)
      simp (disch := omega) only [eq0_nI]
      by_cases e2 : a % b = 0
      · rw [if_pos e2, ← gcd_step, e2, Nat.gcd_zero_right]
      · rw [if_neg e2, if_pos e2, pk_rem hb2 (by omega) (by omega)]
        have hr2 : b % (a % b) < a % b := Nat.mod_lt _ (by omega)
        have hd := Nat.div_add_mod b (a % b)
        have hq : 1 ≤ b / (a % b) := (Nat.one_le_div_iff (by omega)).mpr (by omega)
        have hmul : (a % b) * 1 ≤ (a % b) * (b / (a % b)) := Nat.mul_le_mul_left _ hq
        rw [Nat.pow_succ] at hb
        rw [ih (a % b) (b % (a % b)) g' (by omega) (by omega) (by omega) (by omega), gcd_step, gcd_step]
theorem fac_pos : ∀ n, 0 < fac n
  | 0 => by decide
  | n + 1 => Nat.mul_pos (fac_pos n) (Nat.succ_pos n)
theorem fac_small {n : Nat} (h : n ≤ 10) : fac n ≤ 3628800 := by
  have : ∀ n, n < 11 → fac n ≤ 3628800 := by decide +kernel
  exact this n (by omega)
theorem fac_two {a c : Nat} (h : a + c ≤ 9) : fac a * fac c ≤ 362880 := by
  have : ∀ a, a < 10 → ∀ c, c < 10 → a + c ≤ 9 → fac a * fac c ≤ 362880 := by decide +kernel
  exact this a (by omega) c (by omega) h
section SH
variable {k : Nat} {I J : Mem} {R : Nat → Int32} {q : Nat}
theorem ordB_le (hW : WF R) {b : Nat} (hb : b < nb R) : ordB R q b < 2 ^ 31 := by
  have h2n := two_nb hW
  have hnb := nb_le hW
  have h : ordB R q b ≤ 2 ^ nb R * 362880 := sm_le (fun s hs => by
    show (if sws R q b s then fac (pop s) * fac (nb R - 1 - pop s) else 0) ≤ 362880
    split
    · rename_i d
      have d1 : s.testBit b = false := by
        unfold sws at d
        cases hb : s.testBit b
        · rfl
        · rw [hb] at d
          cases d
      have := pop_lt hs hnb hb d1
      exact fac_two (by omega)
    · exact Nat.zero_le _)
  have : 2 ^ nb R * 362880 ≤ 1024 * 362880 := Nat.mul_le_mul_right _ h2n
  omega
theorem swAll_le (hW : WF R) : sm (nb R) (swB R q) ≤ 10240 := by
  have hnb := nb_le hW
  have h : sm (nb R) (swB R q) ≤ nb R * 1024 := sm_nb_le (swB_le hW q)
  have : nb R * 1024 ≤ 10 * 1024 := Nat.mul_le_mul_right _ hnb
  omega
theorem ww0 (hq : 1 ≤ q) : ww R q 0 = false := by
  unfold ww winm
  rw [mset0, wof0, decide_eq_false (by omega)]
  rfl
/-- where a coalition wins, a bloc swings -/
theorem sw_pos (hW : WF R) (hq : 1 ≤ q) (h : 0 < cnt (2 ^ nb R) (ww R q)) : 0 < sm (nb R) (swB R q) := by
  obtain ⟨s, s1, s2⟩ := cnt_pos.mp h
  have key : ∀ j, j ≤ nb R → ww R q (adn s (2 ^ j - 1)) = true ∨ 0 < sm (nb R) (swB R q) := by
    intro j
    induction j with
    | zero =>
      intro _
      left
      have : adn s (2 ^ 0 - 1) = s := tb_ext (fun i => by rw [tb_adn, all_tb]; simp)
      rw [this]
      exact s2
    | succ j ih =>
      intro hj
      rcases ih (by omega) with z | z
      · cases d : ww R q (adn s (2 ^ (j + 1) - 1))
        · right
          have hs' : adn s (2 ^ (j + 1) - 1) < 2 ^ nb R := adn_le _ _ _ s1
          have hb : (adn s (2 ^ (j + 1) - 1)).testBit j = false := by rw [tb_adn, all_tb]; simp
          cases e : s.testBit j
          · have : adn s (2 ^ (j + 1) - 1) = adn s (2 ^ j - 1) := tb_ext (fun i => by
              rw [tb_adn, tb_adn, all_tb, all_tb]
              by_cases h1 : i = j
              · rw [h1, e]; rfl
              · have : (i < j + 1) = (i < j) := propext (by omega)
                simp [this])
            rw [this, z] at d
            cases d
          · have hor : adn s (2 ^ (j + 1) - 1) ||| 2 ^ j = adn s (2 ^ j - 1) := tb_ext (fun i => by
              rw [Nat.testBit_or, tb_adn, tb_adn, all_tb, all_tb, Nat.testBit_two_pow]
              by_cases h1 : j = i
              · subst h1
                simp [e]
              · have : (i < j + 1) = (i < j) := propext (by omega)
                simp [this, h1])
            have hsw : sws R q j (adn s (2 ^ (j + 1) - 1)) = true := by
              unfold sws
              rw [hb, d, hor, z]
              rfl
            have : 0 < swB R q j := cnt_pos.mpr ⟨_, hs', hsw⟩
            exact sm_pos hj this
        · exact Or.inl rfl
      · exact Or.inr z
  rcases key (nb R) (Nat.le_refl _) with z | z
  · have : adn s (2 ^ nb R - 1) = 0 := tb_ext (fun i => by
      rw [tb_adn, all_tb, Nat.zero_testBit]
      by_cases h1 : i < nb R
      · simp [h1]
      · rw [Nat.testBit_lt_two_pow (Nat.lt_of_lt_of_le s1 (Nat.pow_le_pow_right (by decide) (by omega)))]
        rfl)
    rw [this, ww0 hq] at z
    cases z
  · exact z
/-- of the share: its upper part, its lower part, what is told -/
def shU (R : Nat → Int32) (v w : Nat) : Nat := if w < 2 then swB R (qq R) (bo R v) else ordB R (qq R) (bo R v)
def shL (R : Nat → Int32) (w : Nat) : Nat := if w < 2 then sm (nb R) (swB R (qq R)) else fac (nb R)
def shR (R : Nat → Int32) (v w : Nat) : Nat := (if w % 2 = 0 then shU R v w else shL R w) / Nat.gcd (shU R v w) (shL R w)
theorem shU_lt (hW : WF R) {v : Nat} (hv : v < nn R) (w : Nat) : shU R v w < 2 ^ 31 := by
  have := swB_le hW (qq R) (bo R v)
  have := ordB_le (q := qq R) hW (bo_nb hW hv)
  unfold shU
  split <;> omega
theorem shL_lt (hW : WF R) (w : Nat) : shL R w < 2 ^ 31 := by
  have := swAll_le (q := qq R) hW
  have := fac_small (nb_le hW)
  unfold shL
  split <;> omega
theorem shL_pos (hW : WF R) (w : Nat) (h : 0 < cnt (2 ^ nb R) (ww R (qq R))) : 0 < shL R w := by
  unfold shL
  split
  · exact sw_pos hW hW.q1 h
  · exact fac_pos _
theorem sh133 {a b c : Nat} (ha : a < 2 ^ 31) (hb : b < 2 ^ 31) (hc : c < 2 ^ 31) (hp : 0 < b) (hk : 2000 ≤ k) : f_X5_share_133 k I (nI a) (nI b) (nI c) = some (nI (c / Nat.gcd a b), I) := by
  have hg : 0 < Nat.gcd a b := Nat.gcd_pos_of_pos_right _ hp
  have hg2 : Nat.gcd a b ≤ b := Nat.gcd_le_right _ hp
  unfold f_X5_share_133 f_X5_greatestDivisor
  rw [gcd_c 31 a b 0 k hb (by decide) (by omega) ha hb]
  unfold f_X5_greatestDivisor_34
  rw [if_neg (by rw [lt_nI (by omega) (by decide)]; omega), Option.bind_some, if_pos (by rw [eq0_nI (by omega)]; omega), pk_div hc hg (by omega)]
theorem share_c (hW : WF R) (hC : CS0 I 0 R) (h1 : P1 I R) (h2 : P2 I R) (h : PWN I R) (hk : 2000 ≤ k) {v w : Nat} (hv : v < nn R) (hw : w ≤ 3) (hp : 0 < cnt (2 ^ nb R) (ww R (qq R))) : (if nI 2 ≤ nI w then f_X5_share_57 k I (nI v) (nI w) (nI 0) else f_X5_share_57 k I (nI v) (nI w) (nI 1)) = some (nI (shR R v w), I) := by
  have hq := hW.q500
  have hnb := nb_le hW
  have u := shU_lt hW hv w
  have l := shL_lt hW w
  have lp := shL_pos hW w hp
  have g1 := sh133 (k := k) (I := I) u l u lp hk
  have g2 := sh133 (k := k) (I := I) u l l lp hk
  have last : f_X5_share_115 k I (nI w) (nI (shU R v w)) (nI (shL R w)) = some (nI (shR R v w), I) := by
    unfold f_X5_share_115 shR
    simp (disch := omega) only [eq0_nI, eq_nI]
    rcases (by omega : w = 0 ∨ w = 1 ∨ w = 2 ∨ w = 3) with e | e | e | e <;> subst e
    · rw [if_pos rfl, g1, if_pos (by decide)]
    · rw [if_neg (by decide), if_neg (by decide), g2, if_neg (by decide)]
    · rw [if_neg (by decide), if_pos rfl, g1, if_pos (by decide)]
    · rw [if_neg (by decide), if_neg (by decide), g2, if_neg (by decide)]
  simp (disch := omega) only [le_nI]
  by_cases z : 2 ≤ w
  · rw [if_pos z]
    unfold f_X5_share_57 f_X5_share_84
    have e1 : shU R v w = ordB R (qq R) (bo R v) := if_neg (by omega)
    have e2 : shL R w = fac (nb R) := if_neg (by omega)
    rw [if_pos nI_0, orders_c hW h1 h2 hk hv, Option.bind_some, if_pos nI_0, blocCount_eq hW hC hk, Option.bind_some, factorial_c (by omega), Option.bind_some, ← e1, ← e2]
    exact last
  · rw [if_neg z]
    unfold f_X5_share_57 f_X5_share_84
    have e1 : shU R v w = swB R (qq R) (bo R v) := if_pos (by omega)
    have e2 : shL R w = sm (nb R) (swB R (qq R)) := if_pos (by omega)
    rw [if_neg (by decide), hC.q hW, swings_c hW h hv hq, Option.bind_some, if_neg (by decide), swAll_c hW h1 h hk hq, Option.bind_some, ← e1, ← e2]
    exact last
theorem share_m (hW : WF R) (hR : RW J R) (hF : FN J R (qq R)) (hk : 2000 ≤ k) {v w : Nat} (hv : v < nn R) (hw : w ≤ 3) (hp : 0 < cnt (2 ^ nb R) (ww R (qq R))) : (Option.bind (f_X6_blocOf k (nI v) J) (fun r7 => (if (nI 2) ≤ (nI w) then (Option.bind (f_X6_orders k r7 J) (fun r9 => f_X6_share_61 k J (nI w) r9)) else (if inB r7 10 = true then f_X6_share_61 k J (nI w) (J (80) (Int32.toNatClampNeg r7)) else none)))) = some (nI (shR R v w), J) := by
  have hnb := nb_le hW
  have hbo := bo_nb hW hv
  have u := shU_lt hW hv w
  have l := shL_lt hW w
  have lp := shL_pos hW w hp
  have hg : 0 < Nat.gcd (shU R v w) (shL R w) := Nat.gcd_pos_of_pos_right _ lp
  have hg2 : Nat.gcd (shU R v w) (shL R w) ≤ shL R w := Nat.gcd_le_right _ lp
  have last : f_X6_share_82 k J (nI w) (nI (shU R v w)) (nI (shL R w)) = some (nI (shR R v w), J) := by
    unfold f_X6_share_82 f_X6_common shR
    rw [gcd_m 31 _ _ k u (by omega) l u, Option.bind_some, Nat.gcd_comm (shL R w), pk_rem (by omega) (by decide) (by decide)]
    simp (disch := omega) only [eq0_nI]
    by_cases z : w % 2 = 0
    · rw [if_pos z, if_pos (by omega), pk_div u hg (by omega), if_pos z]
    · rw [if_neg z, if_pos (by omega), pk_div l hg (by omega), if_neg z]
  rw [blocOf_m hW hR hF.1 hk hv, Option.bind_some]
  simp (disch := omega) only [le_nI, inBn, if_pos, cl_nI]
  by_cases z : 2 ≤ w
  · rw [if_pos z, orders_m hW hF hk hbo, Option.bind_some]
    unfold f_X6_share_61
    have e1 : shU R v w = ordB R (qq R) (bo R v) := if_neg (by omega)
    have e2 : shL R w = fac (nb R) := if_neg (by omega)
    rw [if_pos (by rw [le_nI (by decide) (by omega)]; exact z), hF.1.nb, factorial_m hnb hk, Option.bind_some, ← e1, ← e2]
    exact last
  · rw [if_neg z, hF.2.2.1 _ hbo]
    unfold f_X6_share_61
    have e1 : shU R v w = swB R (qq R) (bo R v) := if_pos (by omega)
    have e2 : shL R w = sm (nb R) (swB R (qq R)) := if_pos (by omega)
    rw [if_neg (by rw [le_nI (by decide) (by omega)]; exact z), hF.2.2.2, ← e1, ← e2]
    exact last
end SH
