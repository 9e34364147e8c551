section IN
variable {k : Nat} {I J : Mem} {R : Nat → Int32} {q : Nat}
theorem ins_at {f : Nat → Nat} {n x j p : Nat} (hp : posi R f x n = p) : ins R f n x j = if j < p then f j else if j = p then x else f (j - 1) := by
  unfold ins
  rw [hp]
/-- the model puts a coalition into its place -/
theorem insert_m (hW : WF R) (hL : LB J R (nn R)) (hk : 2000 ≤ k) {f : Nat → Nat} {n x : Nat} (hn : n < 1024) (hx : x < 1024) (hf : ∀ j, j < n → f j < 1024) (h81 : ∀ j, j < n → J 81 j = nI (f j)) (h17 : J 71 17 = nI n) (sh : Int32 → Mem → Option Mem) : ∃ K, f_X6_findLeast_34 k (nI x) sh k (nI n) J = sh (nI (x + 1)) K ∧ (∀ j, j < n + 1 → K 81 j = nI (ins R f n x j)) ∧ (K 71 17 = nI (n + 1) ∧ ∀ i, i ≠ 17 → K 71 i = J 71 i) ∧ ∀ a, a ≠ 71 → a ≠ 81 → K a = J a := by
  have fin : ∀ (p : Nat) (K : Mem), p ≤ n → posi R f x n = p → (∀ j, j < p → K 81 j = nI (f j)) → (∀ j, p < j → j < n + 1 → K 81 j = nI (f (j - 1))) → (∀ a, a ≠ 81 → K a = J a) → ∃ L, f_X6_findLeast_74 k K (nI x) (nI p) sh = sh (nI (x + 1)) L ∧ (∀ j, j < n + 1 → L 81 j = nI (ins R f n x j)) ∧ (L 71 17 = nI (n + 1) ∧ ∀ i, i ≠ 17 → L 71 i = J 71 i) ∧ ∀ a, a ≠ 71 → a ≠ 81 → L a = J a := by
    intro p K hp he g1 g2 g3
    have e17 : K 71 17 = nI n := by rw [g3 _ (by decide)]; exact h17
    unfold f_X6_findLeast_74
    simp (disch := omega) only [inBn, if_pos, cl_nI, up2_nea, e17, nI_add, Option.bind_some]
    refine ⟨_, rfl, fun j hj => ?_, ⟨up2_eq _ _ _ _, fun i hi => by rw [up2_nei _ _ _ _ hi, up2_nea _ _ _ _ (by decide), g3 _ (by decide)]⟩, fun a h1 h2 => by rw [up2_nea _ _ _ _ h1, up2_nea _ _ _ _ h2, g3 a h2]⟩
    rw [up2_nea _ _ _ _ (by decide), ins_at he]
    by_cases z : j = p
    · rw [z, up2_eq, if_neg (by omega), if_pos rfl]
    · rw [up2_nei _ _ _ _ z]
      by_cases y : j < p
      · rw [if_pos y]; exact g1 j y
      · rw [if_neg y, if_neg z]; exact g2 j (by omega) hj
  refine loopX (fun g d (K : Mem) => f_X6_findLeast_34 k (nI x) sh g (nI (n - d)) K) n (fun d K => posi R f x n = posi R f x (n - d) ∧ (∀ j, j < n - d → K 81 j = nI (f j)) ∧ (∀ j, n - d < j → j < n + 1 → K 81 j = nI (f (j - 1))) ∧ ∀ a, a ≠ 81 → K a = J a) (fun o => ∃ K, o = sh (nI (x + 1)) K ∧ (∀ j, j < n + 1 → K 81 j = nI (ins R f n x j)) ∧ (K 71 17 = nI (n + 1) ∧ ∀ i, i ≠ 17 → K 71 i = J 71 i) ∧ ∀ a, a ≠ 71 → a ≠ 81 → K a = J a) (fun g K hK => ?_) (fun g d K hd hK => ?_) n 0 k J (by omega) (by omega) ⟨rfl, h81, fun j h1 h2 => by omega, fun _ _ => rfl⟩
  · obtain ⟨k1, k2, k3, k4⟩ := hK
    have := fin 0 K (by omega) (by rw [k1, Nat.sub_self]; rfl) (fun j hj => by omega) (fun j h1 h2 => k3 j (by omega) h2) k4
    rw [Nat.sub_self]
    simp (disch := omega) only [f_X6_findLeast_34, le0_nI, if_true]
    exact this
  · obtain ⟨k1, k2, k3, k4⟩ := hK
    obtain ⟨e, he⟩ : ∃ e, n - d = e + 1 := ⟨n - d - 1, by omega⟩
    have he2 : n - (d + 1) = e := by omega
    rw [he] at k1 k2 k3
    rw [he, he2]
    have hfe := hf e (by omega)
    have hLK : LB K R (nn R) := hL.mono (k4 _ (by decide)) (k4 _ (by decide)) (k4 _ (by decide)) (k4 _ (by decide))
    have hpo : posi R f x (e + 1) = if kyR R x < kyR R (f e) then posi R f x e else e + 1 := rfl
    simp (disch := omega) only [f_X6_findLeast_34, le0_nI, if_neg, sub_nI, Nat.add_sub_cancel, inBn, if_pos, cl_nI, k2 e (by omega), isAhead_m hW hLK hk, Option.bind_some, b1_0, m1_nI]
    by_cases c : kyR R x < kyR R (f e)
    · right
      rw [decide_eq_true c, if_neg (by decide)]
      rw [if_pos c] at hpo
      refine ⟨up2 K 81 (e + 1) (nI (f e)), rfl, by rw [k1, hpo], fun j hj => ?_, fun j h1 h2 => ?_, fun a ha => by rw [up2_nea _ _ _ _ ha, k4 a ha]⟩
      · rw [up2_nei _ _ _ _ (by omega)]; exact k2 j (by omega)
      · by_cases z : j = e + 1
        · rw [z, up2_eq]; rfl
        · rw [up2_nei _ _ _ _ z]; exact k3 j (by omega) h2
    · left
      rw [decide_eq_false c, if_pos rfl]
      rw [if_neg c] at hpo
      exact fin (e + 1) K (by omega) (by rw [k1, hpo]) k2 k3 k4
theorem lf_s1 {c : Nat} (h : isl R c = true) : lf R (c + 1) = ins R (lf R c) (lc R c) c ∧ lc R (c + 1) = lc R c + 1 := by
  refine ⟨if_pos h, ?_⟩
  unfold lc
  rw [cnt_s, h]
  rfl
theorem lf_s0 {c : Nat} (h : isl R c = false) : lf R (c + 1) = lf R c ∧ lc R (c + 1) = lc R c := by
  refine ⟨if_neg (by rw [h]; decide), ?_⟩
  unfold lc
  rw [cnt_s, h]
  rfl
/-- the model's least coalitions -/
def LM (J : Mem) (R : Nat → Int32) : Prop := FN J R (qq R) ∧ J 71 17 = nI (lc R (2 ^ nb R)) ∧ ∀ j, j < lc R (2 ^ nb R) → J 81 j = nI (lf R (2 ^ nb R) j)
theorem FN.mono (h : FN I R q) (h1 : ∀ i, i ≠ 17 → J 71 i = I 71 i) (h2 : ∀ a, 76 ≤ a → a < 81 → J a = I a) : FN J R q := by
  unfold FN LB
  rw [h1 8 (by decide), h1 12 (by decide), h1 15 (by decide), h2 76 (by decide) (by decide), h2 77 (by decide) (by decide), h2 78 (by decide) (by decide), h2 79 (by decide) (by decide), h2 80 (by decide) (by decide)]
  exact h
theorem findLeast_eq (hW : WF R) (h : RW I R) (hk : 2000 ≤ k) : ∃ J, f_X6_findLeast k I = some J ∧ LM J R ∧ FQ I J := by
  have h2 := two_nb hW
  have hnb := nb_le hW
  obtain ⟨J0, q1, q2, q3⟩ := findNow_eq hW h hk
  unfold f_X6_findLeast
  rw [q1, Option.bind_some]
  refine loopE (fun g s (J : Mem) => f_X6_findLeast_11 k g (nI s) J) (2 ^ nb R) (fun s J => FN J R (qq R) ∧ J 71 17 = nI (lc R s) ∧ (∀ j, j < lc R s → J 81 j = nI (lf R s j)) ∧ FQ I J) (fun o => ∃ J, o = some J ∧ LM J R ∧ FQ I J) (fun g J hJ => ?_) (fun g s J hs hJ => ?_) (2 ^ nb R) 0 k _ (by omega) (by omega) ⟨q2.mono (fun i hi => up2_nei _ _ _ _ hi) (fun a h1 h2 => up2_nea _ _ _ _ (by omega)), up2_eq _ _ _ _, fun j hj => absurd hj (Nat.not_lt_zero _), q3.set71 (by omega) _⟩
  · obtain ⟨j1, j2, j3, j4⟩ := hJ
    simp (disch := omega) only [f_X6_findLeast_11, j1.1.nb, shl1_nI, le_nI, if_pos]
    exact ⟨J, rfl, ⟨j1, j2, j3⟩, j4⟩
  · obtain ⟨j1, j2, j3, j4⟩ := hJ
    have hlc : lc R s ≤ s := cnt_le
    simp (disch := omega) only [f_X6_findLeast_11, j1.1.nb, shl1_nI, le_nI, if_neg, isLeast_m hW j1 hk hs, Option.bind_some, b1_0, j2, nI_add]
    cases d : isl R s
    · rw [if_pos rfl]
      obtain ⟨e1, e2⟩ := lf_s0 d
      exact ⟨J, rfl, j1, by rw [e2]; exact j2, by rw [e1, e2]; exact j3, j4⟩
    · rw [if_neg (by decide)]
      obtain ⟨e1, e2⟩ := lf_s1 d
      obtain ⟨K, k1, k2, ⟨k3, k4⟩, k5⟩ := insert_m (k := k) hW j1.1 hk (f := lf R s) (n := lc R s) (x := s) (by omega) (by omega) (fun j hj => by have := lf_lt s j hj; omega) j3 j2 (f_X6_findLeast_11 k g)
      refine ⟨K, k1, j1.mono k4 (fun a h1 h2 => k5 a (by omega) (by omega)), by rw [e2]; exact k3, by rw [e1, e2]; exact k2, ⟨fun b h1 h2 => by rw [k5 b h1 (by omega), j4.1 b h1 h2], fun i h1 h2 h3 h4 => by rw [k4 i h4, j4.2 i h1 h2 h3 h4]⟩⟩
/-! in the class -/
def LSt (I : Mem) (R : Nat → Int32) : Prop := I 53 12 = nI (lc R (2 ^ nb R)) ∧ ∀ j, j < lc R (2 ^ nb R) → I 59 j = nI (kyR R (lf R (2 ^ nb R) j))
theorem key_c {a b c : Nat} (ha : a ≤ 10) (hb : b < 512) (hc : c < 1024) : f_X2_sortingKey (nI a) (nI b) (nI c) = nI ((a * 512 + b) * 1024 + c) := by
  unfold f_X2_sortingKey
  rw [shl_nI (by decide) (by omega), or_nI, shl_nI (by decide) (by
    have : a * 2 ^ 9 ||| b < 2 ^ 13 := Nat.or_lt_two_pow (by omega) (by omega)
    omega), or_nI]
  have e1 : a * 2 ^ 9 ||| b = a * 512 + b := by
    rw [Nat.mul_comm, ← Nat.two_pow_add_eq_or_of_lt (i := 9) hb]
  rw [e1]
  have e2 : (a * 512 + b) * 2 ^ 10 ||| c = (a * 512 + b) * 1024 + c := by
    rw [Nat.mul_comm, ← Nat.two_pow_add_eq_or_of_lt (i := 10) hc]
  rw [e2]
theorem insert_c (hW : WF R) (hk : 2000 ≤ k) {f : Nat → Nat} {n x : Nat} (hn : n < 252) (h59 : ∀ j, j < n → J 59 j = nI (kyR R (f j))) (h12 : J 53 12 = nI n) : ∃ K, f_X2_insertLeast k (nI (kyR R x)) J = some K ∧ (∀ j, j < n + 1 → K 59 j = nI (kyR R (ins R f n x j))) ∧ (K 53 12 = nI (n + 1) ∧ ∀ i, i ≠ 12 → K 53 i = J 53 i) ∧ ∀ a, a ≠ 53 → a ≠ 59 → K a = J a := by
  have fin : ∀ (p : Nat) (K : Mem), p ≤ n → posi R f x n = p → (∀ j, j < p → K 59 j = nI (kyR R (f j))) → (∀ j, p < j → j < n + 1 → K 59 j = nI (kyR R (f (j - 1)))) → (∀ a, a ≠ 59 → K a = J a) → ∃ L, f_X2_insertLeast_41 k K (nI (kyR R x)) (nI p) = some L ∧ (∀ j, j < n + 1 → L 59 j = nI (kyR R (ins R f n x j))) ∧ (L 53 12 = nI (n + 1) ∧ ∀ i, i ≠ 12 → L 53 i = J 53 i) ∧ ∀ a, a ≠ 53 → a ≠ 59 → L a = J a := by
    intro p K hp he g1 g2 g3
    have e12 : K 53 12 = nI n := by rw [g3 _ (by decide)]; exact h12
    unfold f_X2_insertLeast_41
    simp (disch := omega) only [inBn, if_pos, cl_nI, up2_nea, e12, nI_add]
    refine ⟨_, rfl, fun j hj => ?_, ⟨up2_eq _ _ _ _, fun i hi => by rw [up2_nei _ _ _ _ hi, up2_nea _ _ _ _ (by decide), g3 _ (by decide)]⟩, fun a h1 h2 => by rw [up2_nea _ _ _ _ h1, up2_nea _ _ _ _ h2, g3 a h2]⟩
    rw [up2_nea _ _ _ _ (by decide), ins_at he]
    by_cases z : j = p
    · rw [z, up2_eq, if_neg (by omega), if_pos rfl]
    · rw [up2_nei _ _ _ _ z]
      by_cases y : j < p
      · rw [if_pos y]; exact g1 j y
      · rw [if_neg y, if_neg z]; exact g2 j (by omega) hj
  have hkx := (kyR_lt hW x).1
  unfold f_X2_insertLeast
  rw [h12]
  refine loopX (fun g d (K : Mem) => f_X2_insertLeast_5 k (nI (kyR R x)) g (nI (n - d)) K) n (fun d K => posi R f x n = posi R f x (n - d) ∧ (∀ j, j < n - d → K 59 j = nI (kyR R (f j))) ∧ (∀ j, n - d < j → j < n + 1 → K 59 j = nI (kyR R (f (j - 1)))) ∧ ∀ a, a ≠ 59 → K a = J a) (fun o => ∃ K, o = some K ∧ (∀ j, j < n + 1 → K 59 j = nI (kyR R (ins R f n x j))) ∧ (K 53 12 = nI (n + 1) ∧ ∀ i, i ≠ 12 → K 53 i = J 53 i) ∧ ∀ a, a ≠ 53 → a ≠ 59 → K a = J a) (fun g K hK => ?_) (fun g d K hd hK => ?_) n 0 k J (by omega) (by omega) ⟨rfl, h59, fun j h1 h2 => by omega, fun _ _ => rfl⟩
  · obtain ⟨k1, k2, k3, k4⟩ := hK
    have := fin 0 K (by omega) (by rw [k1, Nat.sub_self]; rfl) (fun j hj => by omega) (fun j h1 h2 => k3 j (by omega) h2) k4
    rw [Nat.sub_self]
    simp (disch := omega) only [f_X2_insertLeast_5, le0_nI, if_true]
    exact this
  · obtain ⟨k1, k2, k3, k4⟩ := hK
    obtain ⟨e, he⟩ : ∃ e, n - d = e + 1 := ⟨n - d - 1, by omega⟩
    have he2 : n - (d + 1) = e := by omega
    rw [he] at k1 k2 k3
    rw [he, he2]
    have hfe := (kyR_lt hW (f e)).1
    have hpo : posi R f x (e + 1) = if kyR R x < kyR R (f e) then posi R f x e else e + 1 := rfl
    simp (disch := omega) only [f_X2_insertLeast_5, le0_nI, if_neg, sub_nI, Nat.add_sub_cancel, inBn, if_pos, cl_nI, k2 e (by omega), le_nI, m1_nI]
    by_cases c : kyR R x < kyR R (f e)
    · right
      rw [if_neg (by omega)]
      rw [if_pos c] at hpo
      refine ⟨up2 K 59 (e + 1) (nI (kyR R (f e))), rfl, by rw [k1, hpo], fun j hj => ?_, fun j h1 h2 => ?_, fun a ha => by rw [up2_nea _ _ _ _ ha, k4 a ha]⟩
      · rw [up2_nei _ _ _ _ (by omega)]; exact k2 j (by omega)
      · by_cases z : j = e + 1
        · rw [z, up2_eq]; rfl
        · rw [up2_nei _ _ _ _ z]; exact k3 j (by omega) h2
    · left
      rw [if_pos (by omega)]
      rw [if_neg c] at hpo
      exact fin (e + 1) K (by omega) (by rw [k1, hpo]) k2 k3 k4
end IN
