section VO
variable {k st : Nat} {I J K : Mem} {P : Nat → Nat → Int32} {R R' : Nat → Int32} {kp : Bool} {A : Nat → Int32} {len : Nat} {ch : Nat → Nat}
def FG (I J : Mem) : Prop := (∀ b, b ≠ 71 → b ≠ 72 → b ≠ 76 → b ≠ 77 → b ≠ 78 → J b = I b) ∧ ∀ i, i ≠ 7 → i ≠ 8 → i ≠ 12 → J 71 i = I 71 i
theorem FG.set (h : FG I J) (x : Int32) : FG I (up2 J 71 7 x) := ⟨fun b h1 h2 h3 h4 h5 => by rw [up2_nea _ _ _ _ h1, h.1 b h1 h2 h3 h4 h5], fun i h1 h2 h3 => by rw [up2_nei _ _ _ _ h1, h.2 i h1 h2 h3]⟩
theorem FG.fa (h : FG I J) (h2 : FA J K) : FG I K := ⟨fun b h3 h4 h5 h6 h7 => (h2.1 b h3).trans (h.1 b h3 h4 h5 h6 h7), fun i h3 h4 h5 => (h2.2 i h3).trans (h.2 i h3 h4 h5)⟩
theorem FG.fb (h : FG I J) (h2 : FB J K) : FG I K := ⟨fun b h3 h4 h5 h6 h7 => (h2.1 b h3 h4 h5 h6 h7).trans (h.1 b h3 h4 h5 h6 h7), fun i h3 h4 h5 => (h2.2 i h4 h5).trans (h.2 i h3 h4 h5)⟩
theorem flt_none {n : Nat} (hf : flt n len ch = none) : n ≠ 0 ∧ ff (okc n ch) len = len ∧ len % (n + 1) = n ∧ (len + 1) / (n + 1) * (n + 1) = len + 1 := by
  unfold flt at hf
  split at hf
  · cases hf
  · rename_i h0
    split at hf
    · cases hf
    · rename_i h1
      split at hf
      · rename_i h2
        have := ff_le (okc n ch) len
        exact ⟨h0, by omega, h2, Nat.div_mul_cancel (Nat.dvd_of_mod_eq_zero (mod_next h2))⟩
      · cases hf
theorem ballots_t (hW : WF R) (h : RW I R) (hh : hd R + 30 ≤ 20000) (hf : flt (nn R) len ch = none) (hl : len ≤ 60) (hlen : I 71 6 = nI len) (hT : ∀ j, j < len → I 75 j = nI (ch j) ∧ ch j < 65536) (hk : 2000 ≤ k) : ∃ J, f_X6_ballots k (nI 1) I = some (nI (vps R ch ((len + 1) / (nn R + 1))), J) ∧ RW J (voR R ch ((len + 1) / (nn R + 1))) ∧ FG I J := by
  have hn := hW.n10
  obtain ⟨h0, hF, hmod0, hTm⟩ := flt_none hf
  have hyes : ∀ i, i < len → okc (nn R) ch i = true := fun i hi => ff_yes _ len i (by omega)
  have hmod : ∀ t m, m ≤ nn R → (t * (nn R + 1) + m) % (nn R + 1) = m := fun t m hm => by
    rw [Nat.mul_comm, Nat.mul_add_mod]
    exact Nat.mod_eq_of_lt (by omega)
  have hT30 : (len + 1) / (nn R + 1) ≤ 30 := by
    have : (len + 1) / (nn R + 1) ≤ 61 / 2 := Nat.le_trans (Nat.div_le_div_right (by omega)) (Nat.div_le_div_left (by omega) (by decide))
    omega
  have hT1 : 0 < (len + 1) / (nn R + 1) := by
    rcases Nat.eq_zero_or_pos ((len + 1) / (nn R + 1)) with z | z
    · rw [z, Nat.zero_mul] at hTm
      omega
    · exact z
  generalize (len + 1) / (nn R + 1) = T at *
  have hsm : ∀ t, t ≤ T → t * (nn R + 1) ≤ T * (nn R + 1) := fun t ht => Nat.mul_le_mul_right _ ht
  unfold f_X6_ballots
  refine loopE (σ := Int32 × Int32 × Mem) (fun g t (x : Int32 × Int32 × Mem) => f_X6_ballots_9 k (nI 1) g x.1 x.2.1 x.2.2) T (fun t x => x.1 = nI (vps R ch t) ∧ x.2.1 = (if t < T then nI 1 else nI 0) ∧ RW x.2.2 (voR R ch t) ∧ x.2.2 71 7 = nI (if t < T then t * (nn R + 1) else len) ∧ FG I x.2.2) (fun o => ∃ J, o = some (nI (vps R ch T), J) ∧ RW J (voR R ch T) ∧ FG I J) (fun g x hx => ?_) (fun g t x ht hx => ?_) T 0 k (nI 0, nI 1, up2 I 71 7 (nI 0)) (by omega) (by omega) ⟨rfl, by rw [if_pos hT1], fun j hj => ?_, ?_, FG.set ⟨fun _ _ _ _ _ _ => rfl, fun _ _ _ _ => rfl⟩ (nI 0)⟩
  · obtain ⟨x1, x2, M⟩ := x
    obtain ⟨h1, h2, h3, h4, h5⟩ := hx
    change x1 = nI (vps R ch T) at h1
    change x2 = (if T < T then nI 1 else nI 0) at h2
    change RW M (voR R ch T) at h3
    change M 71 7 = nI (if T < T then T * (nn R + 1) else len) at h4
    change FG I M at h5
    rw [if_neg (by omega)] at h2 h4
    subst h1 h2
    have e6 : M 71 6 = nI len := by rw [h5.2 _ (by decide) (by decide) (by decide)]; exact hlen
    show ∃ J, f_X6_ballots_9 k (nI 1) (g + 1) (nI (vps R ch T)) (nI 0) M = some (nI (vps R ch T), J) ∧ RW J (voR R ch T) ∧ FG I J
    simp (disch := omega) only [f_X6_ballots_9, nI00, if_true, e6, h4, le_nI, if_pos]
    exact ⟨M, rfl, h3, h5⟩
  · obtain ⟨x1, x2, M⟩ := x
    obtain ⟨h1, h2, h3, h4, h5⟩ := hx
    change x1 = nI (vps R ch t) at h1
    change x2 = (if t < T then nI 1 else nI 0) at h2
    change RW M (voR R ch t) at h3
    change M 71 7 = nI (if t < T then t * (nn R + 1) else len) at h4
    change FG I M at h5
    rw [if_pos ht] at h2 h4
    subst h1 h2
    have hm1 := hsm (t + 1) ht
    have hsucc : (t + 1) * (nn R + 1) = t * (nn R + 1) + nn R + 1 := by rw [Nat.succ_mul]; omega
    have ce := voR_CE (R := R) (ch := ch) t
    obtain ⟨w1, w2⟩ := voR_WF (ch := ch) hW t (by omega)
    show ∃ x' : Int32 × Int32 × Mem, f_X6_ballots_9 k (nI 1) (g + 1) (nI (vps R ch t)) (nI 1) M = f_X6_ballots_9 k (nI 1) g x'.1 x'.2.1 x'.2.2 ∧ _
    rw [f_X6_ballots_9, if_neg (by decide), h4]
    refine loopE (fun g' m (K : Mem) => f_X6_ballots_22 k (nI 1) (nI (vps R ch t)) (nI (t * (nn R + 1))) (f_X6_ballots_9 k (nI 1) g) g' (nI m) K) (nn R) (fun m K => K 71 7 = nI (t * (nn R + 1) + m) ∧ FA M K) (fun o => ∃ x' : Int32 × Int32 × Mem, o = f_X6_ballots_9 k (nI 1) g x'.1 x'.2.1 x'.2.2 ∧ x'.1 = nI (vps R ch (t + 1)) ∧ x'.2.1 = (if t + 1 < T then nI 1 else nI 0) ∧ RW x'.2.2 (voR R ch (t + 1)) ∧ x'.2.2 71 7 = nI (if t + 1 < T then (t + 1) * (nn R + 1) else len) ∧ FG I x'.2.2) (fun g' K hK => ?_) (fun g' m K hm hK => ?_) (nn R) 0 k M (by omega) (by omega) ⟨h4, fun _ _ => rfl, fun _ _ => rfl⟩
    · obtain ⟨j1, j2⟩ := hK
      have hGK := h5.fa j2
      have hRK : RW K (voR R ch t) := h3.mono (j2.1 _ (by decide))
      have e0 : K 72 0 = nI (nn R) := by rw [hRK.n w1, ce.nn]
      have hTK : ∀ j, j < len → K 75 j = nI (ch j) ∧ ch j < 65536 := fun j hj => by rw [hGK.1 _ (by decide) (by decide) (by decide) (by decide) (by decide)]; exact hT j hj
      obtain ⟨L, l1, l2, l3⟩ := holdBallot_m (k := k) w1 hRK hl hTK hk (st := t * (nn R + 1)) (fun m hm => by rw [ce.nn] at hm; omega) (by omega)
      have hGL := hGK.fb l3
      have e6 : L 71 6 = nI len := by rw [hGL.2 _ (by decide) (by decide) (by decide)]; exact hlen
      have e7 : L 71 7 = nI (t * (nn R + 1) + nn R) := by rw [l3.2 _ (by decide) (by decide)]; exact j1
      have eq2 : qq (voR R ch t) = qq R := ce.qq
      have hps : vps R ch (t + 1) = vps R ch t + b1 (winm (voR R ch t) (qq R) (plusOf (voR R ch t) (fun m => ch (t * (nn R + 1) + m)))) := rfl
      have hvo : RW L (voR R ch (t + 1)) := l2
      rw [eq2] at l1
      have hup : ∀ x, RW (up2 L 71 7 x) (voR R ch (t + 1)) := fun x => hvo.mono (up2_nea L 71 7 x (by decide))
      have tail : ∀ p : Bool, ∃ x' : Int32 × Int32 × Mem, f_X6_ballots_124 k L (nI 1) (f_X6_ballots_9 k (nI 1) g) (nI (b1 p)) (nI (vps R ch t)) = f_X6_ballots_9 k (nI 1) g x'.1 x'.2.1 x'.2.2 ∧ x'.1 = nI (vps R ch t + b1 p) ∧ x'.2.1 = (if t + 1 < T then nI 1 else nI 0) ∧ RW x'.2.2 (voR R ch (t + 1)) ∧ x'.2.2 71 7 = nI (if t + 1 < T then (t + 1) * (nn R + 1) else len) ∧ FG I x'.2.2 := by
        intro p
        by_cases z : t + 1 < T
        · have hm2 := hsm (t + 2) z
          have hsucc2 : (t + 2) * (nn R + 1) = (t + 1) * (nn R + 1) + nn R + 1 := by rw [Nat.succ_mul]; omega
          have hc := hyes (t * (nn R + 1) + nn R) (by omega)
          unfold okc at hc
          rw [if_pos (hmod t (nn R) (Nat.le_refl _))] at hc
          have e75 : L 75 (t * (nn R + 1) + nn R) = nI (ch (t * (nn R + 1) + nn R)) := by
            rw [hGL.1 _ (by decide) (by decide) (by decide) (by decide) (by decide)]
            exact (hT _ (by omega)).1
          refine ⟨(nI (vps R ch t + b1 p), nI 1, up2 L 71 7 (nI (t * (nn R + 1) + nn R + 1))), ?_, rfl, by rw [if_pos z], hup _, ?_, hGL.set _⟩
          · simp (disch := omega) only [f_X6_ballots_124, e6, e7, le_nI, if_neg, inBn, if_pos, cl_nI, e75, eq_of_beq hc, if_true, f_X6_ballots_156, nI10, if_false, nI_add]
          · rw [if_pos z, hsucc]
            exact up2_eq L 71 7 _
        · have ea : t * (nn R + 1) + nn R = len := by
            have : t + 1 = T := by omega
            rw [this] at hsucc
            omega
          refine ⟨(nI (vps R ch t + b1 p), nI 0, up2 L 71 7 (nI (t * (nn R + 1) + nn R + 0))), ?_, rfl, by rw [if_neg z], hup _, ?_, hGL.set _⟩
          · simp (disch := omega) only [f_X6_ballots_124, e6, e7, le_nI, if_pos, f_X6_ballots_156, nI00, if_true, nI_add]
          · show up2 L 71 7 _ 71 7 = _
            rw [up2_eq, if_neg z, ea]
            rfl
      simp (disch := omega) only [f_X6_ballots_22, cl_nI, e0, le_nI, if_pos, nI10, if_false, l1, Option.bind_some, hps, b1_0]
      generalize winm (voR R ch t) (qq R) (plusOf (voR R ch t) (fun m => ch (t * (nn R + 1) + m))) = p
      have tp := tail p
      cases p
      · rw [if_pos rfl]
        exact tp
      · rw [if_neg (by decide)]
        exact tp
    · obtain ⟨j1, j2⟩ := hK
      have hGK := h5.fa j2
      have hRK : RW K (voR R ch t) := h3.mono (j2.1 _ (by decide))
      have e0 : K 72 0 = nI (nn R) := by rw [hRK.n w1, ce.nn]
      have e6 : K 71 6 = nI len := by rw [hGK.2 _ (by decide) (by decide) (by decide)]; exact hlen
      have hc := hyes (t * (nn R + 1) + m) (by omega)
      have ht1 := hT (t * (nn R + 1) + m) (by omega)
      have hcb := ht1.2
      have e75 : K 75 (t * (nn R + 1) + m) = nI (ch (t * (nn R + 1) + m)) := by
        rw [hGK.1 _ (by decide) (by decide) (by decide) (by decide) (by decide)]
        exact ht1.1
      unfold okc at hc
      rw [if_neg (by rw [hmod t m (by omega)]; omega)] at hc
      refine ⟨up2 K 71 7 (nI (t * (nn R + 1) + m + 1)), ?_, up2_eq _ _ _ _, j2.set _⟩
      simp (disch := omega) only [f_X6_ballots_22, cl_nI, e0, le_nI, if_neg, e6, j1, eq_nI, inBn, if_pos, e75, f_X6_ballots_89, nI_add]
      unfold sig at hc
      by_cases d1 : ch (t * (nn R + 1) + m) = 43
      · rw [if_pos d1]
      · by_cases d2 : ch (t * (nn R + 1) + m) = 45
        · rw [if_neg d1, if_pos d2]
        · have d3 : ch (t * (nn R + 1) + m) = 48 := by simpa [d1, d2] using hc
          rw [if_neg d1, if_neg d2, if_pos d3]
  · show up2 I 71 7 (nI 0) 72 j = R j
    rw [up2_nea _ _ _ _ (by decide)]
    exact h j hj
  · show up2 I 71 7 (nI 0) 71 7 = _
    rw [up2_eq, if_pos hT1, Nat.zero_mul]
theorem MR.fg (h : MR I R st P kp A len ch) (hF : FG I J) (hR : RW J R') : MR J R' st P kp A len ch :=
  h.put hR (fun b h1 h2 => hF.1 b (by omega) (by omega) (by omega) (by omega) (by omega)) (hF.2 _ (by decide) (by decide) (by decide)) (hF.2 _ (by decide) (by decide) (by decide)) (hF.2 _ (by decide) (by decide) (by decide))
theorem vote_m (hW : WF R) (h : MR I R st P kp A len ch) (hst : st ≤ 4) (hk : 2000 ≤ k) (hh : hd R + 30 ≤ 20000) (hf : flt (nn R) len ch = none) (hl : len ≤ 60) (hc : ∀ j, j < len → ch j < 65536) : AM (f_X6_vote k I) (nI (vps R ch ((len + 1) / (nn R + 1)))) I R (voR R ch ((len + 1) / (nn R + 1))) st P kp A len ch := by
  have hn := hW.n10
  obtain ⟨h0, _⟩ := flt_none hf
  obtain ⟨M, m1, m2⟩ := (ballots_f hW h.row h0 hl h.2.2.2.1 (fun j hj => ⟨h.2.2.2.2 j hj, hc j hj⟩) hk).1 hf
  have hM : MR M R st P kp A len ch := h.mono (fun b h1 h2 => m2.1 b (by omega)) (m2.2 _ (by decide)) (m2.2 _ (by decide)) (m2.2 _ (by decide))
  obtain ⟨J, q1, q2, q3, q4⟩ := record_eq hM hst hk
  obtain ⟨K, k1, k2, k3⟩ := ballots_t hW q2.row hh hf hl q2.2.2.2.1 (fun j hj => ⟨q2.2.2.2.2 j hj, hc j hj⟩) hk
  unfold f_X6_vote
  rw [cl_nI (by decide), h.row.n hW, if_neg (by rw [eq0_nI (by omega)]; exact h0), m1, Option.bind_some, if_pos (show (0 : Int32) ≤ nI 0 by decide), q1, Option.bind_some, k1, Option.bind_some]
  exact ⟨K, rfl, q2.fg k3 k2, fun b hb => by rw [k3.1 b (by omega) (by omega) (by omega) (by omega) (by omega), q3 b (by omega) (by omega), m2.1 b (by omega)]⟩
theorem vote_fm (hW : WF R) (h : MR I R st P kp A len ch) (hk : 2000 ≤ k) {i : Nat} (hf : flt (nn R) len ch = some i) (hl : len ≤ 60) (hc : ∀ j, j < len → ch j < 65536) : ∃ J, f_X6_vote k I = some ((-100 : Int32) - nI i, J) ∧ MR J R st P kp A len ch ∧ ∀ b, b < 71 → J b = I b := by
  have hn := hW.n10
  unfold f_X6_vote
  rw [cl_nI (by decide), h.row.n hW]
  by_cases h0 : nn R = 0
  · unfold flt at hf
    rw [if_pos h0] at hf
    cases hf
    rw [h0, if_pos (by decide)]
    exact ⟨I, rfl, h, fun _ _ => rfl⟩
  · obtain ⟨M, m1, m3, m2⟩ := (ballots_f hW h.row h0 hl h.2.2.2.1 (fun j hj => ⟨h.2.2.2.2 j hj, hc j hj⟩) hk).2 i hf
    rw [if_neg (by rw [eq0_nI (by omega)]; exact h0), m1, Option.bind_some, if_neg (show ¬ (0 : Int32) ≤ -5 by decide)]
    exact ⟨M, by rw [← m3], h.mono (fun b h1 h2 => m2.1 b (by omega)) (m2.2 _ (by decide)) (m2.2 _ (by decide)) (m2.2 _ (by decide)), fun b hb => m2.1 b (by omega)⟩
end VO
