section BA
variable {k st : Nat} {I J : Mem} {P : Nat → Nat → Int32} {R R' : Nat → Int32} {kp : Bool} {A : Nat → Int32} {len : Nat} {ch : Nat → Nat}
/-- only the place in the text differs -/
def FA (I J : Mem) : Prop := (∀ b, b ≠ 71 → J b = I b) ∧ ∀ i, i ≠ 7 → J 71 i = I 71 i
theorem FA.set (h : FA I J) (x : Int32) : FA I (up2 J 71 7 x) := ⟨fun b hb => by rw [up2_nea _ _ _ _ hb, h.1 b hb], fun i hi => by rw [up2_nei _ _ _ _ hi, h.2 i hi]⟩
def BF (n len : Nat) (ch : Nat → Nat) (I : Mem) (o : Option (Int32 × Mem)) : Prop := (flt n len ch = none → ∃ J, o = some (nI 0, J) ∧ FA I J) ∧ ∀ i, flt n len ch = some i → ∃ J, o = some ((-5 : Int32), J) ∧ J 71 7 = nI i ∧ FA I J
theorem ballots_f (hW : WF R) (h : RW I R) (h0 : nn R ≠ 0) (hl : len ≤ 60) (hlen : I 71 6 = nI len) (hT : ∀ j, j < len → I 75 j = nI (ch j) ∧ ch j < 65536) (hk : 2000 ≤ k) : BF (nn R) len ch I (f_X6_ballots k (nI 0) I) := by
  have hn := hW.n10
  have hF := ff_le (okc (nn R) ch) len
  have fl1 : ff (okc (nn R) ch) len < len → flt (nn R) len ch = some (ff (okc (nn R) ch) len) := fun z => by unfold flt; rw [if_neg h0, if_pos z]
  have fl2 : ff (okc (nn R) ch) len = len → len % (nn R + 1) = nn R → flt (nn R) len ch = none := fun z y => by unfold flt; rw [if_neg h0, if_neg (by omega), if_pos y]
  have fl3 : ff (okc (nn R) ch) len = len → len % (nn R + 1) ≠ nn R → flt (nn R) len ch = some len := fun z y => by unfold flt; rw [if_neg h0, if_neg (by omega), if_neg y]
  have hok := ff_no (okc (nn R) ch) len
  generalize hFe : ff (okc (nn R) ch) len = F at *
  have hmod : ∀ t m, m ≤ nn R → (t * (nn R + 1) + m) % (nn R + 1) = m := fun t m hm => by
    rw [Nat.mul_comm, Nat.mul_add_mod]
    exact Nat.mod_eq_of_lt (by omega)
  have hyes : ∀ i, i < F → okc (nn R) ch i = true := fun i hi => ff_yes _ len i (by omega)
  have fin : ∀ g M, FA I M → ((flt (nn R) len ch = none ∧ M 71 7 = nI len) ∨ ∃ i, i < len ∧ flt (nn R) len ch = some i ∧ M 71 7 = nI i) → BF (nn R) len ch I (f_X6_ballots_9 k (nI 0) (g + 1) (nI 0) (nI 0) M) := by
    intro g M hM hx
    have e6 : M 71 6 = nI len := by rw [hM.2 _ (by decide)]; exact hlen
    rcases hx with ⟨x1, x2⟩ | ⟨i, x1, x2, x3⟩
    · simp (disch := omega) only [f_X6_ballots_9, nI00, if_true, e6, x2, le_nI, if_pos]
      exact ⟨fun _ => ⟨M, rfl, hM⟩, fun i hi => (by rw [x1] at hi; cases hi)⟩
    · simp (disch := omega) only [f_X6_ballots_9, nI00, if_true, e6, x3, le_nI, if_neg]
      exact ⟨fun hi => (by rw [x2] at hi; cases hi), fun i' hi => (by rw [x2] at hi; cases hi; exact ⟨M, rfl, x3, hM⟩)⟩
  unfold f_X6_ballots
  refine loopX (σ := Int32 × Mem) (fun g t (x : Int32 × Mem) => f_X6_ballots_9 k (nI 0) g (nI 0) x.1 x.2) 100 (fun t x => (x.1 = nI 1 ∧ x.2 71 7 = nI (t * (nn R + 1)) ∧ t * (nn R + 1) ≤ F ∧ FA I x.2) ∨ (x.1 = nI 0 ∧ FA I x.2 ∧ ((flt (nn R) len ch = none ∧ x.2 71 7 = nI len) ∨ ∃ i, i < len ∧ flt (nn R) len ch = some i ∧ x.2 71 7 = nI i))) (BF (nn R) len ch I) (fun g x hx => ?_) (fun g t x ht hx => ?_) 100 0 k (nI 1, up2 I 71 7 (nI 0)) (by omega) (by omega) (Or.inl ⟨rfl, ?_, by rw [Nat.zero_mul]; omega, FA.set ⟨fun _ _ => rfl, fun _ _ => rfl⟩ (nI 0)⟩)
  · obtain ⟨x1, M⟩ := x
    rcases hx with ⟨_, _, h3, _⟩ | ⟨h1, h2, h3⟩
    · have := Nat.le_mul_of_pos_right 100 (show 0 < nn R + 1 by omega)
      omega
    · change x1 = nI 0 at h1
      subst h1
      exact fin g M h2 h3
  · obtain ⟨x1, M⟩ := x
    rcases hx with ⟨h1, h2, h3, h4⟩ | ⟨h1, h2, h3⟩
    · change x1 = nI 1 at h1
      change M 71 7 = nI (t * (nn R + 1)) at h2
      change FA I M at h4
      subst h1
      show BF (nn R) len ch I (f_X6_ballots_9 k (nI 0) (g + 1) (nI 0) (nI 1) M) ∨ _
      rw [f_X6_ballots_9, if_neg (by decide), h2]
      refine loopX (fun g' m (K : Mem) => f_X6_ballots_22 k (nI 0) (nI 0) (nI (t * (nn R + 1))) (f_X6_ballots_9 k (nI 0) g) g' (nI m) K) (nn R) (fun m K => K 71 7 = nI (t * (nn R + 1) + m) ∧ t * (nn R + 1) + m ≤ F ∧ FA I K) (fun o => BF (nn R) len ch I o ∨ ∃ x' : Int32 × Mem, o = f_X6_ballots_9 k (nI 0) g (nI 0) x'.1 x'.2 ∧ ((x'.1 = nI 1 ∧ x'.2 71 7 = nI ((t + 1) * (nn R + 1)) ∧ (t + 1) * (nn R + 1) ≤ F ∧ FA I x'.2) ∨ (x'.1 = nI 0 ∧ FA I x'.2 ∧ ((flt (nn R) len ch = none ∧ x'.2 71 7 = nI len) ∨ ∃ i, i < len ∧ flt (nn R) len ch = some i ∧ x'.2 71 7 = nI i)))) (fun g' K hK => ?_) (fun g' m K hm hK => ?_) (nn R) 0 k M (by omega) (by omega) ⟨h2, h3, h4⟩
      · obtain ⟨j1, j2, j3⟩ := hK
        have e6 : K 71 6 = nI len := by rw [j3.2 _ (by decide)]; exact hlen
        have e0 : K 72 0 = nI (nn R) := by rw [j3.1 _ (by decide)]; exact h.n hW
        have hmd := hmod t (nn R) (Nat.le_refl _)
        have hsm : (t + 1) * (nn R + 1) = t * (nn R + 1) + nn R + 1 := by rw [Nat.succ_mul]; omega
        generalize t * (nn R + 1) + nn R = at_ at *
        right
        simp (disch := omega) only [f_X6_ballots_22, cl_nI, e0, le_nI, if_pos, nI00, if_true, f_X6_ballots_124, e6, j1, inBn, f_X6_ballots_156, nI_add, nI10, if_false]
        by_cases c1 : len ≤ at_
        · rw [if_pos c1]
          have eF : F = len := by omega
          have ea : at_ = len := by omega
          rw [ea] at hmd
          exact ⟨(nI 0, up2 K 71 7 (nI (at_ + 0))), rfl, Or.inr ⟨rfl, j3.set _, Or.inl ⟨fl2 eF hmd, ea ▸ up2_eq K 71 7 (nI at_)⟩⟩⟩
        · rw [if_neg c1, j3.1 75 (by decide), (hT at_ (by omega)).1]
          have hc := (hT at_ (by omega)).2
          have hoa : okc (nn R) ch at_ = (ch at_ == 44) := by unfold okc; rw [if_pos hmd]
          by_cases c2 : ch at_ = 44
          · rw [if_pos (by rw [c2])]
            have hlt : at_ < F := by
              rcases Nat.lt_or_ge at_ F with z | z
              · exact z
              · have e : F = at_ := by omega
                have := hok (by omega)
                rw [e, hoa, c2] at this
                cases this
            exact ⟨(nI 1, up2 K 71 7 (nI (at_ + 1))), rfl, Or.inl ⟨rfl, by rw [hsm]; exact up2_eq K 71 7 (nI (at_ + 1)), by omega, j3.set _⟩⟩
          · rw [if_neg (by intro q; rw [eq_nI (by omega) (by omega)] at q; exact c2 q)]
            have e : F = at_ := by
              rcases Nat.lt_or_ge at_ F with z | z
              · have := hyes at_ z
                rw [hoa] at this
                exact absurd (by simpa using this) c2
              · omega
            exact ⟨(nI 0, up2 K 71 7 (nI (at_ + 0))), rfl, Or.inr ⟨rfl, j3.set _, Or.inr ⟨at_, by omega, by rw [← e]; exact fl1 (by omega), up2_eq K 71 7 (nI at_)⟩⟩⟩
      · obtain ⟨j1, j2, j3⟩ := hK
        have e6 : K 71 6 = nI len := by rw [j3.2 _ (by decide)]; exact hlen
        have e0 : K 72 0 = nI (nn R) := by rw [j3.1 _ (by decide)]; exact h.n hW
        have hmd := hmod t m (by omega)
        rw [show t * (nn R + 1) + (m + 1) = t * (nn R + 1) + m + 1 by omega]
        generalize t * (nn R + 1) + m = at_ at *
        simp (disch := omega) only [f_X6_ballots_22, cl_nI, e0, le_nI, if_neg, e6, j1, eq_nI, inBn]
        by_cases c1 : at_ = len
        · left; left
          rw [if_pos c1]
          have eF : F = len := by omega
          rw [c1] at hmd
          have hfl := fl3 eF (by omega)
          exact ⟨fun q => (by rw [hfl] at q; cases q), fun i q => (by rw [hfl] at q; cases q; exact ⟨K, rfl, by rw [j1, c1], j3⟩)⟩
        · rw [if_neg c1, if_pos (by omega), j3.1 75 (by decide), (hT at_ (by omega)).1]
          have hc := (hT at_ (by omega)).2
          have hoa : okc (nn R) ch at_ = sig (ch at_) := by unfold okc; rw [if_neg (by omega)]
          simp (disch := omega) only [eq_nI, f_X6_ballots_89, nI_add, j1]
          have h60 : at_ < 60 := by omega
          by_cases c2 : sig (ch at_) = true
          · right
            have hlt : at_ < F := by
              rcases Nat.lt_or_ge at_ F with z | z
              · exact z
              · have e : F = at_ := by omega
                have := hok (by omega)
                rw [e, hoa, c2] at this
                cases this
            refine ⟨up2 K 71 7 (nI (at_ + 1)), ?_, up2_eq _ _ _ _, by omega, j3.set _⟩
            unfold sig at c2
            by_cases d1 : ch at_ = 43
            · rw [if_pos d1]
            · by_cases d2 : ch at_ = 45
              · rw [if_neg d1, if_pos h60, if_pos d2]
              · have d3 : ch at_ = 48 := by simpa [d1, d2] using c2
                rw [if_neg d1, if_pos h60, if_neg d2, if_pos h60, if_pos d3]
          · left; left
            have e : F = at_ := by
              rcases Nat.lt_or_ge at_ F with z | z
              · have := hyes at_ z
                rw [hoa] at this
                exact absurd this c2
              · omega
            have hfl := fl1 (by omega)
            unfold sig at c2
            rw [if_neg (by intro q; rw [q] at c2; exact c2 rfl), if_pos h60, if_neg (by intro q; rw [q] at c2; exact c2 rfl), if_pos h60, if_neg (by intro q; rw [q] at c2; exact c2 rfl)]
            exact ⟨fun q => (by rw [hfl] at q; cases q), fun i q => (by rw [hfl] at q; cases q; exact ⟨K, rfl, by rw [j1, e], j3⟩)⟩
    · left
      change x1 = nI 0 at h1
      subst h1
      exact fin g M h2 h3
  · show up2 I 71 7 (nI 0) 71 7 = _
    rw [up2_eq, Nat.zero_mul]
end BA
