/-! no more than 252 sets of ten stand side by side, none within another -/
/-- the set without its ones that no zero before them meets -/
def bot : Nat → Nat → Nat → Nat → Nat
  | 0, _, _, _ => 0
  | n + 1, i, o, s => if s.testBit i then (if o = 0 then bot n (i + 1) 0 s else 2 ^ i + bot n (i + 1) (o - 1) s) else bot n (i + 1) (o + 1) s
/-- the zeros that no one behind them meets -/
def unm : Nat → Nat → Nat → Nat
  | 0, _, _ => 0
  | n + 1, c, s => if s.testBit n then unm n (c + 1) s else if c = 0 then 2 ^ n + unm n 0 s else unm n (c - 1) s
def el (b : Nat) : Nat → Nat
  | 0 => b
  | i + 1 => el b i ||| 2 ^ ff (fun j => !(adn (unm 10 0 b) (el b i)).testBit j) 10
def bt (s : Nat) : Nat := bot 10 0 0 s
set_option maxRecDepth 100000 in
set_option maxHeartbeats 4000000 in
theorem bt_el {s : Nat} (h : s < 1024) : (bt s < 1024 ∧ bt (bt s) = bt s) ∧ el (bt s) (pop s - pop (bt s)) = s := by
  have : ∀ s, s < 1024 → (bt s < 1024 ∧ bt (bt s) = bt s) ∧ el (bt s) (pop s - pop (bt s)) = s := by decide +kernel
  exact this s h
set_option maxRecDepth 100000 in
set_option maxHeartbeats 4000000 in
theorem bt_252 : sm 1024 (fun c => b1 (bt c == c)) = 252 := by decide +kernel
theorem el_le (b : Nat) : ∀ (i j : Nat), i ≤ j → ∀ x, (el b i).testBit x = true → (el b j).testBit x = true := by
  intro i j h
  induction j with
  | zero =>
    intro x hx
    rw [show i = 0 by omega] at hx
    exact hx
  | succ j ih =>
    intro x hx
    rcases Nat.lt_or_ge j i with z | z
    · rw [show i = j + 1 by omega] at hx
      exact hx
    · rw [el, Nat.testBit_or, ih z x hx]
      rfl
theorem cnt_one {n : Nat} {p : Nat → Bool} (h : ∀ i j, i < n → j < n → p i = true → p j = true → i = j) : cnt n p ≤ 1 := by
  rcases Nat.eq_zero_or_pos (cnt n p) with z | z
  · omega
  · obtain ⟨i, h1, h2⟩ := cnt_pos.mp z
    have : cnt n p = b1 (p i) := sm_one h1 (fun j hj hne => by
      cases d : p j
      · rfl
      · exact absurd (h j i hj h1 d h2) hne)
    rw [this]
    exact b1_le _
theorem sperner {p : Nat → Bool} (h : ∀ s t, s < 1024 → t < 1024 → p s = true → p t = true → (∀ x, s.testBit x = true → t.testBit x = true) → s = t) : cnt 1024 p ≤ 252 := by
  have e : cnt 1024 p = sm 1024 (fun c => cnt 1024 (fun s => p s && bt s == c)) := by
    unfold cnt
    rw [sm_comm]
    refine sm_congr (fun s hs => ?_)
    rw [sm_one (i := bt s) (bt_el hs).1.1 (fun c _ hc => by
      have : (bt s == c) = false := by simp; omega
      show b1 (p s && bt s == c) = 0
      rw [this, Bool.and_false]
      rfl)]
    show b1 (p s) = b1 (p s && bt s == bt s)
    rw [beq_self_eq_true, Bool.and_true]
  rw [e, ← bt_252]
  refine sm_mono (fun c hc => ?_)
  cases d : bt c == c
  · have : cnt 1024 (fun s => p s && bt s == c) = 0 := sm_zero (fun s hs => by
      show b1 (p s && bt s == c) = 0
      cases d2 : bt s == c
      · rw [Bool.and_false]; rfl
      · have e1 := eq_of_beq d2
        rw [← e1, (bt_el hs).1.2, beq_self_eq_true] at d
        cases d)
    omega
  · refine cnt_one (fun s t hs ht h1 h2 => ?_)
    simp only [Bool.and_eq_true, beq_iff_eq] at h1 h2
    have es := (bt_el hs).2
    have et := (bt_el ht).2
    rw [h1.2] at es
    rw [h2.2] at et
    rcases Nat.le_total (pop s - pop c) (pop t - pop c) with z | z
    · exact h s t hs ht h1.1 h2.1 (fun x hx => by rw [← et]; rw [← es] at hx; exact el_le c _ _ z x hx)
    · exact (h t s ht hs h2.1 h1.1 (fun x hx => by rw [← es]; rw [← et] at hx; exact el_le c _ _ z x hx)).symm
