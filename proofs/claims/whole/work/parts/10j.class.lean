/-! the class between two calls; its acts -/
def CR (I : Mem) (R : Nat → Int32) (st : Nat) (P : Nat → Nat → Int32) (kp : Bool) (A : Nat → Int32) (len : Nat) (ch : Nat → Nat) : Prop := CS I 0 R ∧ CH I st P ∧ (I 48 2 = nI (b1 kp) ∧ (kp = true → CS I 1 A)) ∧ TX I len ch
section CA
variable {k st : Nat} {I J : Mem} {P : Nat → Nat → Int32} {R R' : Nat → Int32} {kp : Bool} {A : Nat → Int32} {len : Nat} {ch : Nat → Nat}
theorem CR.mono (h : CR I R st P kp A len ch) (hF : ∀ b, b < 53 → b ≠ 48 → J b = I b) (h2 : J 48 2 = I 48 2) : CR J R st P kp A len ch :=
  ⟨h.1.mono (fun j hj => hF _ (by omega) (by omega)), h.2.1.mono (fun b h1 h2 => hF _ (by omega) (by omega)) (by rw [hF _ (by decide) (by decide)]) (hF _ (by decide) (by decide)), ⟨by rw [h2]; exact h.2.2.1.1, fun e => (h.2.2.1.2 e).mono (fun j hj => hF _ (by omega) (by omega))⟩, h.2.2.2.mono (by rw [hF _ (by decide) (by decide)]) (hF _ (by decide) (by decide))⟩
theorem CR.put (h : CR I R st P kp A len ch) (hS : CS J 0 R') (hF : ∀ b, 8 ≤ b → J b = I b) : CR J R' st P kp A len ch :=
  ⟨hS, h.2.1.mono (fun b h1 h2 => hF _ (by omega)) (by rw [hF _ (by decide)]) (hF _ (by decide)), ⟨by rw [hF _ (by decide)]; exact h.2.2.1.1, fun e => (h.2.2.1.2 e).mono (fun j hj => hF _ (by omega))⟩, h.2.2.2.mono (by rw [hF _ (by decide)]) (hF _ (by decide))⟩
theorem CR.begin (hW : WF R) (h : CR I R st P kp A len ch) (hk : 2000 ≤ k) : ∃ J, f_X5_beginAct k I = some J ∧ CR J R (nst st) (nP st P R) kp A len ch ∧ J 48 6 = 0 ∧ ∀ b, (b < 16 ∨ 50 < b) → J b = I b := by
  obtain ⟨J, q1, q2, q3, q4, q5⟩ := begin_eq h.2.1 hW.n10 h.1 hk
  exact ⟨J, q1, ⟨h.1.mono (fun j hj => q5 _ (by omega)), q2, ⟨by rw [q4 _ (by decide)]; exact h.2.2.1.1, fun e => (h.2.2.1.2 e).mono (fun j hj => q5 _ (by omega))⟩, h.2.2.2.mono (by rw [q5 _ (by decide)]) (q5 _ (by decide))⟩, q3, q5⟩
/-- after an act: its row, the history with the row before it -/
def AF (o : Option (Int32 × Mem)) (r : Int32) (I : Mem) (R R' : Nat → Int32) (st : Nat) (P : Nat → Nat → Int32) (kp : Bool) (A : Nat → Int32) (len : Nat) (ch : Nat → Nat) : Prop := ∃ J, o = some (r, J) ∧ CR J R' (nst st) (nP st P R) kp A len ch ∧ J 48 6 = 0 ∧ ∀ b, 71 ≤ b → J b = I b
theorem addMember_c (hW : WF R) (h : CR I R st P kp A len ch) (hk : 2000 ≤ k) (hn : nn R < 10) {w : Nat} (hw : w ≤ 50) : AF (f_X5_addMember k (nI w) I) (nI (nn R)) I R (addR R w) st P kp A len ch := by
  obtain ⟨J, q1, q2, q3, q4⟩ := h.begin hW hk
  obtain ⟨K, p1, p2, p3⟩ := append_eq (k := k) hW q2.1 hn hw
  have h0 := h.1.1.n hW
  unfold f_X5_addMember
  rw [isWeight_yes hw, if_neg (by decide), h0, if_pos (by rw [lt_nI (by omega) (by decide)]; exact hn), q1, Option.bind_some, p1, Option.bind_some]
  exact ⟨K, rfl, q2.put p2 (fun b hb => p3 _ (by omega)), by rw [p3 _ (by omega)]; exact q3, fun b hb => by rw [p3 _ (by omega), q4 _ (by omega)]⟩
theorem removeMember_c (hW : WF R) (h : CR I R st P kp A len ch) (hk : 2000 ≤ k) {v : Nat} (hv : v < nn R) : AF (f_X5_removeMember k (nI v) I) (nI (nn R - 1)) I R (drR R v) st P kp A len ch := by
  obtain ⟨J, q1, q2, q3, q4⟩ := h.begin hW hk
  obtain ⟨K, p1, p2, p3⟩ := drop_x (k := k) hW q2.1 hv hk
  unfold f_X5_removeMember
  rw [has_yes (h.1.1.n hW) hW.n10 hv, if_neg (by decide), q1, Option.bind_some, p1, Option.bind_some]
  refine ⟨K, ?_, q2.put p2 (fun b hb => p3 _ (by omega)), by rw [p3 _ (by omega)]; exact q3, fun b hb => by rw [p3 _ (by omega), q4 _ (by omega)]⟩
  rw [p2.1.1.1]
  rfl
/-- one place of the council set -/
theorem set_w (hW : WF R) {v : Nat} (hv : v < nn R) {w : Nat} (hw : w ≤ 50) : WF (set1 R (29 + v) (nI w)) ∧ hd (set1 R (29 + v) (nI w)) = hd R ∧ ∀ (I J : Mem) (s : Nat), CS I s R → CS (up2 I (8 * s + 1) v (nI w)) s (set1 R (29 + v) (nI w)) := by
  have hn := hW.n10
  obtain ⟨a1, a2, a3, a4, a5, a6⟩ := mkR (R := set1 R (29 + v) (nI w)) (w := fun m => if m = v then w else wt R m) (v := vt R) (b := bl R) (n := nn R) (q := qq R) (h := hd R) (by rw [set1_ne (by omega)]; exact hW.r0) hn (by rw [set1_ne (by omega)]; exact hW.r1) hW.q1 hW.q500 (fun m hm => by
    by_cases e : m = v
    · rw [if_pos e, e, set1_eq]; exact ⟨rfl, hw⟩
    · rw [if_neg e, set1_ne (by omega)]; exact ⟨hW.rw hm, hW.w50 hm⟩) (fun m hm => by rw [set1_ne (by omega)]; exact hW.rv hm) (fun m hm => by rw [set1_ne (by omega)]; exact ⟨hW.rb hm, hW.bl_le hm, hW.bl_bl hm⟩) (by rw [set1_ne (by omega)]; exact hW.r2) hW.h2 (by rw [set1_ne (by omega)]; exact hW.r4)
  refine ⟨a1, a4, fun I J s h => ⟨a6 _ _ ?_ ?_ ?_ (fun m hm => ⟨?_, ?_⟩), fun m hm => ?_, ?_⟩⟩
  · rw [up2_nea _ _ _ _ (by omega)]; exact h.1.n hW
  · rw [up2_nea _ _ _ _ (by omega)]; exact h.1.q hW
  · rw [up2_nea _ _ _ _ (by omega)]; exact h.1.v
  · by_cases e : m = v
    · rw [if_pos e, e, up2_eq]
    · rw [if_neg e, up2_nei _ _ _ _ e]; exact h.1.w hW hm
  · rw [up2_nea _ _ _ _ (by omega)]; exact h.1.b hm
  · rw [a2] at hm
    rw [up2_nea _ _ _ _ (by omega), set1_ne (by omega)]; exact h.2.1 m hm
  · exact (h.2.2.mono (fun j h1 h2 => up2_nea _ _ _ _ (by omega))).cong (fun j h1 h2 => set1_ne (by omega))
theorem setWeight_c (hW : WF R) (h : CR I R st P kp A len ch) (hk : 2000 ≤ k) {v w : Nat} (hv : v < nn R) (hw : w ≤ 50) (hne : wt R v ≠ w) : AF (f_X5_setWeight k (nI v) (nI w) I) (nI (wt R v)) I R (set1 R (29 + v) (nI w)) st P kp A len ch := by
  have hn := hW.n10
  have hw2 := hW.w50 hv
  obtain ⟨J, q1, q2, q3, q4⟩ := h.begin hW hk
  unfold f_X5_setWeight
  rw [has_yes (h.1.1.n hW) hn hv, if_neg (by decide), isWeight_yes hw, if_neg (by decide), if_pos (by rw [inBn (by omega)]; omega), cl_nI (by omega), h.1.1.w hW hv, if_neg (by rw [eq_nI (by omega) (by omega)]; exact hne), q1, Option.bind_some, if_pos (by rw [inBn (by omega)]; omega)]
  exact ⟨_, rfl, q2.put ((set_w hW hv hw).2.2 J J 0 q2.1) (fun b hb => up2_nea _ _ _ _ (by omega)), by rw [up2_nea _ _ _ _ (by omega)]; exact q3, fun b hb => by rw [up2_nea _ _ _ _ (by omega), q4 _ (by omega)]⟩
theorem set_q (hW : WF R) {q : Nat} (hq1 : 1 ≤ q) (hq2 : q ≤ 500) : WF (set1 R 1 (nI q)) ∧ hd (set1 R 1 (nI q)) = hd R ∧ ∀ (I J : Mem) (s : Nat), CS I s R → CS (up2 I (8 * s) 1 (nI q)) s (set1 R 1 (nI q)) := by
  have hn := hW.n10
  obtain ⟨a1, a2, a3, a4, a5, a6⟩ := mkR (R := set1 R 1 (nI q)) (w := wt R) (v := vt R) (b := bl R) (n := nn R) (q := q) (h := hd R) (by rw [set1_ne (by omega)]; exact hW.r0) hn set1_eq hq1 hq2 (fun m hm => by rw [set1_ne (by omega)]; exact ⟨hW.rw hm, hW.w50 hm⟩) (fun m hm => by rw [set1_ne (by omega)]; exact hW.rv hm) (fun m hm => by rw [set1_ne (by omega)]; exact ⟨hW.rb hm, hW.bl_le hm, hW.bl_bl hm⟩) (by rw [set1_ne (by omega)]; exact hW.r2) hW.h2 (by rw [set1_ne (by omega)]; exact hW.r4)
  refine ⟨a1, a4, fun I J s h => ⟨a6 _ _ ?_ ?_ ?_ (fun m hm => ⟨?_, ?_⟩), fun m hm => ?_, ?_⟩⟩
  · rw [up2_nei _ _ _ _ (by decide)]; exact h.1.n hW
  · rw [up2_eq]
  · rw [up2_nei _ _ _ _ (by decide)]; exact h.1.v
  · rw [up2_nea _ _ _ _ (by omega)]; exact h.1.w hW hm
  · rw [up2_nea _ _ _ _ (by omega)]; exact h.1.b hm
  · rw [a2] at hm
    rw [up2_nea _ _ _ _ (by omega), set1_ne (by omega)]; exact h.2.1 m hm
  · exact (h.2.2.mono (fun j h1 h2 => up2_nea _ _ _ _ (by omega))).cong (fun j h1 h2 => set1_ne (by omega))
theorem setQuota_c (hW : WF R) (h : CR I R st P kp A len ch) (hk : 2000 ≤ k) {q : Nat} (hq1 : 1 ≤ q) (hq2 : q ≤ 500) (hne : qq R ≠ q) : AF (f_X5_setQuota k (nI q) I) (nI (qq R)) I R (set1 R 1 (nI q)) st P kp A len ch := by
  have hw2 := hW.q500
  obtain ⟨J, q1, q2, q3, q4⟩ := h.begin hW hk
  unfold f_X5_setQuota
  rw [isQuota_yes hq1 hq2, if_neg (by decide), h.1.1.q hW, if_neg (by rw [eq_nI (by omega) (by omega)]; exact hne), q1, Option.bind_some]
  exact ⟨_, rfl, q2.put ((set_q hW hq1 hq2).2.2 J J 0 q2.1) (fun b hb => up2_nea _ _ _ _ (by omega)), by rw [up2_nea _ _ _ _ (by omega)]; exact q3, fun b hb => by rw [up2_nea _ _ _ _ (by omega), q4 _ (by omega)]⟩
theorem set_v (hW : WF R) {v : Nat} (hv : v < nn R) (p : Bool) : WF (set1 R (39 + v) (nI (b1 p))) ∧ hd (set1 R (39 + v) (nI (b1 p))) = hd R ∧ (nn (set1 R (39 + v) (nI (b1 p))) = nn R ∧ ∀ m, m < nn R → vt (set1 R (39 + v) (nI (b1 p))) m = if m = v then p else vt R m) ∧ ∀ (I J : Mem) (s : Nat), CS I s R → CS (up2 I (8 * s) 2 (nI (msk (nn R) (fun m => if m = v then p else vt R m)))) s (set1 R (39 + v) (nI (b1 p))) := by
  have hn := hW.n10
  obtain ⟨a1, a2, a3, a4, a5, a6⟩ := mkR (R := set1 R (39 + v) (nI (b1 p))) (w := wt R) (v := fun m => if m = v then p else vt R m) (b := bl R) (n := nn R) (q := qq R) (h := hd R) (by rw [set1_ne (by omega)]; exact hW.r0) hn (by rw [set1_ne (by omega)]; exact hW.r1) hW.q1 hW.q500 (fun m hm => by rw [set1_ne (by omega)]; exact ⟨hW.rw hm, hW.w50 hm⟩) (fun m hm => by
    by_cases e : m = v
    · rw [if_pos e, e, set1_eq]
    · rw [if_neg e, set1_ne (by omega)]; exact hW.rv hm) (fun m hm => by rw [set1_ne (by omega)]; exact ⟨hW.rb hm, hW.bl_le hm, hW.bl_bl hm⟩) (by rw [set1_ne (by omega)]; exact hW.r2) hW.h2 (by rw [set1_ne (by omega)]; exact hW.r4)
  refine ⟨a1, a4, ⟨a2, fun m hm => (a5 m hm).2.1⟩, fun I J s h => ⟨a6 _ _ ?_ ?_ ?_ (fun m hm => ⟨?_, ?_⟩), fun m hm => ?_, ?_⟩⟩
  · rw [up2_nei _ _ _ _ (by decide)]; exact h.1.n hW
  · rw [up2_nei _ _ _ _ (by decide)]; exact h.1.q hW
  · rw [up2_eq]
  · rw [up2_nea _ _ _ _ (by omega)]; exact h.1.w hW hm
  · rw [up2_nea _ _ _ _ (by omega)]; exact h.1.b hm
  · rw [a2] at hm
    rw [up2_nea _ _ _ _ (by omega), set1_ne (by omega)]; exact h.2.1 m hm
  · exact (h.2.2.mono (fun j h1 h2 => up2_nea _ _ _ _ (by omega))).cong (fun j h1 h2 => set1_ne (by omega))
theorem veto_msk {v : Nat} (hv : v < nn R) (p : Bool) : (if p then vmk R ||| 2 ^ v else adn (vmk R) (2 ^ v)) = msk (nn R) (fun m => if m = v then p else vt R m) := by
  apply tb_ext
  intro i
  rw [tb_msk]
  cases p
  · rw [if_neg (by decide), tb_adn, tb_vmk, Nat.testBit_two_pow]
    by_cases e : i = v
    · simp [e]
    · have : (v = i) = False := eq_false (fun z => e z.symm)
      simp [e, this]
  · rw [if_pos rfl, Nat.testBit_or, tb_vmk, Nat.testBit_two_pow]
    by_cases e : i = v
    · simp [e, hv]
    · have : (v = i) = False := eq_false (fun z => e z.symm)
      simp [e, this]
theorem veto_ne {v : Nat} (hv : v < nn R) (p : Bool) : (msk (nn R) (fun m => if m = v then p else vt R m) = vmk R) = (vt R v = p) := by
  apply propext
  constructor
  · intro e
    have := congrArg (fun z => z.testBit v) e
    simp only [tb_msk, tb_vmk] at this
    simpa [hv] using this.symm
  · intro e
    apply tb_ext
    intro i
    rw [tb_msk, tb_vmk]
    by_cases z : i = v
    · rw [z, if_pos rfl, e]
    · rw [if_neg z]
theorem setVeto_c (hW : WF R) (h : CR I R st P kp A len ch) (hk : 2000 ≤ k) {v : Nat} (hv : v < nn R) {p : Bool} (hne : vt R v ≠ p) : AF (f_X5_setVeto k (nI v) (nI (b1 p)) I) (nI (cnt (nn R) (fun m => if m = v then p else vt R m))) I R (set1 R (39 + v) (nI (b1 p))) st P kp A len ch := by
  have hn := hW.n10
  have hvl := vmk_lt hW
  obtain ⟨J, q1, q2, q3, q4⟩ := h.begin hW hk
  have hm : msk (nn R) (fun m => if m = v then p else vt R m) < 1024 := Nat.lt_of_lt_of_le (msk_lt _ _) (pow10 hn)
  have key : f_X5_setVeto_46 k I (nI (msk (nn R) (fun m => if m = v then p else vt R m))) = some (nI (cnt (nn R) (fun m => if m = v then p else vt R m)), up2 J (8 * 0) 2 (nI (msk (nn R) (fun m => if m = v then p else vt R m)))) := by
    unfold f_X5_setVeto_46
    rw [h.1.1.v, if_neg (by rw [eq_nI (by omega) (by omega), veto_ne hv]; exact hne), q1, Option.bind_some, bitCount_eq hm, pop_msk hn]
  unfold f_X5_setVeto
  rw [has_yes (h.1.1.n hW) hn hv, if_neg (by decide), h.1.1.v, bit_nI (by omega), adn_nI, or_nI]
  have := veto_msk hv p
  refine ⟨up2 J (8 * 0) 2 (nI (msk (nn R) (fun m => if m = v then p else vt R m))), ?_, q2.put ((set_v hW hv p).2.2.2 J J 0 q2.1) (fun b hb => up2_nea _ _ _ _ (by omega)), by rw [up2_nea _ _ _ _ (by omega)]; exact q3, fun b hb => by rw [up2_nea _ _ _ _ (by omega), q4 _ (by omega)]⟩
  rw [← key, ← this]
  cases p
  · rfl
  · rfl
theorem pop_bmk (hW : WF R) (m : Nat) : pop (bmk R m) = cnt (nn R) (fun j => bl R j == bl R m) := pop_msk hW.n10 _
theorem join_c (hW : WF R) (h : CR I R st P kp A len ch) (hk : 2000 ≤ k) {v w : Nat} (hv : v < nn R) (hw : w < nn R) (hne : bl R v ≠ bl R w) : AF (f_X5_join k (nI v) (nI w) I) (nI (cnt (nn R) (fun m => jb R v w m == min (bl R v) (bl R w)))) I R (joR R v w) st P kp A len ch := by
  have hn := hW.n10
  have hb1 := bmk_lt hW v
  have hb2 := bmk_lt hW w
  obtain ⟨J, q1, q2, q3, q4⟩ := h.begin hW hk
  have hu : bmk R v ||| bmk R w < 1024 := Nat.or_lt_two_pow (n := 10) hb1 hb2
  obtain ⟨K, p1, p2, p3⟩ := makeBloc_eq (k := k) (set := bmk R v ||| bmk R w) (q2.1.1.n hW) hn hk (by omega)
  have ejv : jb R v w v = min (bl R v) (bl R w) := if_pos (Or.inl rfl)
  have hmsk := jb_msk hW hv hw hv
  rw [if_pos (by rw [Nat.testBit_or, tb_bmk]; simp [hv]), ejv] at hmsk
  have hpop : pop (bmk R v ||| bmk R w) = cnt (nn R) (fun m => jb R v w m == min (bl R v) (bl R w)) := by
    rw [← hmsk]
    exact pop_msk hn _
  unfold f_X5_join
  rw [has_yes (h.1.1.n hW) hn hv, if_neg (by decide), has_yes (h.1.1.n hW) hn hw, if_neg (by decide), if_pos (by rw [inBn (by omega)]; omega), cl_nI (by omega), h.1.1.b hv, holds_nI (by omega) (by omega), if_pos (by rw [b1_0, tb_bmk]; simp; exact fun _ z => hne z.symm), q1, Option.bind_some, if_pos (by rw [inBn (by omega)]; omega), if_pos (by rw [inBn (by omega)]; omega), cl_nI (by omega), q2.1.1.b hv, q2.1.1.b hw, or_nI, p1, Option.bind_some, bitCount_eq hu, hpop]
  refine ⟨K, rfl, q2.put (blR_CS hW (jb_ok hW hv hw) q2.1 (fun m hm => ?_) p3) (fun b hb => p3 _ (by omega)), by rw [p3 _ (by omega)]; exact q3, fun b hb => by rw [p3 _ (by omega), q4 _ (by omega)]⟩
  rw [p2 m hm, jb_msk hW hv hw hm]
  split
  · rfl
  · exact q2.1.1.b hm
theorem adn_bmk {v : Nat} : adn (bmk R v) (2 ^ v) = msk (nn R) (fun j => bl R j == bl R v && !(j == v)) := by
  apply tb_ext
  intro i
  rw [tb_adn, tb_bmk, Nat.testBit_two_pow, tb_msk]
  by_cases e : i = v
  · simp [e]
  · have : (v = i) = False := eq_false (fun z => e z.symm)
    have e2 : (i == v) = false := by simpa using e
    simp [e2, this]
theorem left_eq (hW : WF R) {v : Nat} (hv : v < nn R) : cnt (nn R) (fun j => bl R j == bl R v) = pop (adn (bmk R v) (2 ^ v)) + 1 := by
  rw [adn_bmk, pop_msk hW.n10]
  exact cnt_but (p := fun j => bl R j == bl R v) hv (by simp)
theorem pop_zero {s : Nat} (h : s < 1024) : (pop s = 0) = (s = 0) := by
  apply propext
  constructor
  · intro e
    apply tb_ext
    intro i
    rw [Nat.zero_testBit]
    by_cases hi : i < 10
    · cases hb : s.testBit i
      · rfl
      · have := sm_pos (n := 10) (f := fun i => b1 (s.testBit i)) hi (by show 0 < b1 (s.testBit i); rw [hb]; decide)
        change sm 10 (fun i => b1 (s.testBit i)) = 0 at e
        rw [e] at this
        exact absurd this (by decide)
    · exact Nat.testBit_lt_two_pow (Nat.lt_of_lt_of_le h (by rw [show (1024 : Nat) = 2 ^ 10 from rfl]; exact Nat.pow_le_pow_right (by decide) (by omega)))
  · intro e
    rw [e]
    decide
theorem leave_c (hW : WF R) (h : CR I R st P kp A len ch) (hk : 2000 ≤ k) {v : Nat} (hv : v < nn R) (hne : cnt (nn R) (fun j => bl R j == bl R v) ≠ 1) : AF (f_X5_leave k (nI v) I) (nI (cnt (nn R) (fun j => bl R j == bl R v) - 1)) I R (blR R (pb R v)) st P kp A len ch := by
  have hn := hW.n10
  have hb1 := bmk_lt hW v
  obtain ⟨J, q1, q2, q3, q4⟩ := h.begin hW hk
  have hu : adn (bmk R v) (2 ^ v) < 1024 := adn_le _ _ 10 hb1
  have hpow : (2 : Nat) ^ v < 1024 := Nat.pow_lt_pow_right (a := 2) (m := v) (n := 10) (by decide) (by omega)
  have hl := left_eq hW hv
  obtain ⟨K, p1, p2, p3⟩ := makeBloc_eq (k := k) (set := adn (bmk R v) (2 ^ v)) (q2.1.1.n hW) hn hk (by omega)
  obtain ⟨L, r1, r2, r3⟩ := makeBloc_eq (k := k) (I := K) (s := 0) (set := 2 ^ v) (by rw [p3 _ (by omega)]; exact q2.1.1.n hW) hn hk (by omega)
  unfold f_X5_leave
  rw [has_yes (h.1.1.n hW) hn hv, if_neg (by decide), if_pos (by rw [inBn (by omega)]; omega), cl_nI (by omega), h.1.1.b hv, bit_nI (by omega), adn_nI, if_neg (by rw [eq0_nI (by omega), ← pop_zero hu]; omega), q1, Option.bind_some, p1, Option.bind_some, r1, Option.bind_some, bitCount_eq hu, hl, Nat.add_sub_cancel]
  refine ⟨L, rfl, q2.put (blR_CS hW (pb_ok hW hv) q2.1 (fun m hm => ?_) (fun b hb => by rw [r3 _ hb, p3 _ hb])) (fun b hb => by rw [r3 _ (by omega), p3 _ (by omega)]), by rw [r3 _ (by omega), p3 _ (by omega)]; exact q3, fun b hb => by rw [r3 _ (by omega), p3 _ (by omega), q4 _ (by omega)]⟩
  rw [r2 m hm, p2 m hm, pb_msk hW hv hm, Nat.testBit_two_pow]
  by_cases e : m = v
  · rw [if_pos (by simp [e]), if_pos e]
  · rw [if_neg (by simp; omega), if_neg e]
    split
    · rfl
    · exact q2.1.1.b hm
end CA
