/-! one call of both -/
def GW (c : Nat) (R : Nat → Int32) (st : Nat) (P : Nat → Nat → Int32) (kp : Bool) (A : Nat → Int32) : Prop := (WF R ∧ hd R ≤ 30 * c) ∧ (∀ p, p < st → WF (P p) ∧ hd (P p) ≤ 30 * c) ∧ (kp = true → WF A ∧ hd A ≤ 30 * c)
def QS (I : Mem) (R : Nat → Int32) (st : Nat) (P : Nat → Nat → Int32) (kp : Bool) (A : Nat → Int32) (len : Nat) (ch : Nat → Nat) : Prop := CR I R st P kp A len ch ∧ (I 48 6 = 0 ∨ (I 48 6 = nI 1 ∧ PW I R))
def RLs (c : Nat) (I : Mem) : Prop := ∃ R st P kp A len ch, GW c R st P kp A ∧ QS I R st P kp A len ch ∧ MR I R st P kp A len ch
def STP (c : Nat) (o : Option (Int32 × Mem)) (f : Mem → Option (Int32 × Mem)) : Prop := ∃ r I1 I2, o = some (r, I1) ∧ f I1 = some (r, I2) ∧ RLs (c + 1) I2
section SP
variable {k c st : Nat} {I J K : Mem} {P : Nat → Nat → Int32} {R R' : Nat → Int32} {kp : Bool} {A : Nat → Int32} {len : Nat} {ch : Nat → Nat}
theorem GW.up (h : GW c R st P kp A) : GW (c + 1) R st P kp A := ⟨⟨h.1.1, by have := h.1.2; omega⟩, fun p hp => ⟨(h.2.1 p hp).1, by have := (h.2.1 p hp).2; omega⟩, fun e => ⟨(h.2.2 e).1, by have := (h.2.2 e).2; omega⟩⟩
theorem GW.rec (h : GW c R st P kp A) (h1 : WF R') (h2 : hd R' ≤ 30 * (c + 1)) (hst : st ≤ 4) : GW (c + 1) R' (nst st) (nP st P R) kp A := by
  have hu := h.up
  refine ⟨⟨h1, h2⟩, fun p hp => ?_, hu.2.2⟩
  unfold nP
  by_cases e : p = nst st - 1
  · rw [if_pos e]; exact hu.1
  · rw [if_neg e]
    unfold nst at hp e
    by_cases e4 : st = 4
    · rw [if_pos e4] at hp e ⊢
      exact hu.2.1 (p + 1) (by omega)
    · rw [if_neg e4] at hp e ⊢
      exact hu.2.1 p (by omega)
theorem MR.hi (h : MR I R st P kp A len ch) (hF : ∀ b, 71 ≤ b → J b = I b) : MR J R st P kp A len ch := h.mono (fun b h1 h2 => hF b (by omega)) (by rw [hF _ (by decide)]) (by rw [hF _ (by decide)]) (by rw [hF _ (by decide)])
theorem MR.fq (h : MR I R st P kp A len ch) (hF : FQ I J) : MR J R st P kp A len ch := h.mono (fun b h1 h2 => hF.1 b (by omega) (by omega)) (hF.2 _ (by decide) (by decide) (by decide) (by decide)) (hF.2 _ (by decide) (by decide) (by decide) (by decide)) (hF.2 _ (by decide) (by decide) (by decide) (by decide))
theorem CR.lo (h : CR I R st P kp A len ch) (hF : ∀ b, b < 71 → J b = I b) : CR J R st P kp A len ch := h.mono (fun b h1 _ => hF b (by omega)) (by rw [hF _ (by decide)])
theorem PW.mono (h : PW I R) (hF : ∀ b, 53 ≤ b → b < 71 → J b = I b) : PW J R := by
  unfold PW P1 P2 PWN LSt
  rw [hF 53 (by decide) (by decide), hF 54 (by decide) (by decide), hF 55 (by decide) (by decide), hF 56 (by decide) (by decide), hF 57 (by decide) (by decide), hF 59 (by decide) (by decide)]
  exact ⟨h.1, h.2.1, fun r hr q hq => by rw [hF _ (by omega) (by omega)]; exact h.2.2.1 r hr q hq, h.2.2.2⟩
theorem QS.lo (h : QS I R st P kp A len ch) (hF : ∀ b, b < 71 → J b = I b) : QS J R st P kp A len ch := by
  refine ⟨h.1.lo hF, ?_⟩
  rw [hF 48 (by decide)]
  rcases h.2 with z | ⟨z, y⟩
  · exact Or.inl z
  · exact Or.inr ⟨z, y.mono (fun b _ hb => hF b hb)⟩
theorem FQ.lo (h : FQ I J) : ∀ b, b < 71 → J b = I b := fun b hb => h.1 b (by omega) (by omega)
/-- acts -/
theorem STP.act {o : Option (Int32 × Mem)} {f : Mem → Option (Int32 × Mem)} {r : Int32} (hG : GW c R st P kp A) (h1 : WF R') (h2 : hd R' ≤ 30 * (c + 1)) (hst : st ≤ 4) (hM : MR I R st P kp A len ch) (hA : AF o r I R R' st P kp A len ch) (hB : ∀ J, MR J R st P kp A len ch → AM (f J) r J R R' st P kp A len ch) : STP c o f := by
  obtain ⟨J, j1, j2, j3, j4⟩ := hA
  obtain ⟨K, k1, k2, k3⟩ := hB J (hM.hi j4)
  exact ⟨r, J, K, j1, k1, R', nst st, nP st P R, kp, A, len, ch, hG.rec h1 h2 hst, ⟨j2.lo k3, Or.inl (by rw [k3 _ (by decide)]; exact j3)⟩, k2⟩
/-- questions, and calls that do nothing -/
theorem STP.ask {o : Option (Int32 × Mem)} {f : Mem → Option (Int32 × Mem)} {r : Int32} (hG : GW c R st P kp A) (hM : MR I R st P kp A len ch) (hA : ∃ J, o = some (r, J) ∧ QS J R st P kp A len ch ∧ ∀ b, 71 ≤ b → J b = I b) (hB : ∀ J, MR J R st P kp A len ch → ∃ K, f J = some (r, K) ∧ FQ J K) : STP c o f := by
  obtain ⟨J, j1, j2, j4⟩ := hA
  obtain ⟨K, k1, k2⟩ := hB J (hM.hi j4)
  exact ⟨r, J, K, j1, k1, R, st, P, kp, A, len, ch, hG.up, j2.lo k2.lo, (hM.hi j4).fq k2⟩
theorem STP.no {o : Option (Int32 × Mem)} {f : Mem → Option (Int32 × Mem)} {r : Int32} (hG : GW c R st P kp A) (hQ : QS I R st P kp A len ch) (hM : MR I R st P kp A len ch) (hA : o = some (r, I)) (hB : ∀ J, MR J R st P kp A len ch → ∃ K, f J = some (r, K) ∧ FQ J K) : STP c o f :=
  STP.ask hG hM ⟨I, hA, hQ, fun _ _ => rfl⟩ hB
theorem power_eq (hW : WF R) (h : QS I R st P kp A len ch) (hk : 2000 ≤ k) : ∃ J, f_X5_currentPower k I = some J ∧ (CR J R st P kp A len ch ∧ J 48 6 = nI 1 ∧ PW J R) ∧ ∀ b, 71 ≤ b → J b = I b := by
  unfold f_X5_currentPower
  rcases h.2 with z | ⟨z, y⟩
  · obtain ⟨J, j1, j2, j3, j4, j5, j6⟩ := workOut_eq (k := k) hW h.1.1.1 hk
    rw [if_pos z, j1, Option.bind_some]
    refine ⟨_, rfl, ⟨h.1.mono (fun b hb hb2 => by rw [up2_nea _ _ _ _ hb2, j6 _ (by omega)]) (by rw [up2_nei _ _ _ _ (by decide), j6 _ (by omega)]), up2_eq _ _ _ _, ?_⟩, fun b hb => by rw [up2_nea _ _ _ _ (by omega), j6 _ (by omega)]⟩
    exact (show PW J R from ⟨j2, j3, j4, Or.inl j5⟩).mono (fun b h1 h2 => up2_nea _ _ _ _ (by omega))
  · rw [z, if_neg (by decide)]
    exact ⟨I, rfl, ⟨h.1, z, y⟩, fun _ _ => rfl⟩
theorem s_addMember (hk : 2000 ≤ k) (h : RLs c I) (v : Int32) : STP c (f_X5_addMember k v I) (fun J => f_X6_addMember k v J) := by
  obtain ⟨R, st, P, kp, A, len, ch, hG, hQ, hM⟩ := h
  have hW := hG.1.1
  have hn := hW.n10
  have hst := hQ.1.2.1.2.1
  rcases mem_or v 51 with ⟨w, hw, rfl⟩ | hv
  · rcases Nat.lt_or_ge (nn R) 10 with z | z
    · have hd := add_data hW z (show w ≤ 50 by omega)
      exact STP.act hG hd.1 (by have := hG.1.2; rw [hd.2.2.2.1]; omega) hst hM (addMember_c hW hQ.1 hk z (by omega)) (fun J hJ => addMember_m hW hJ hst hk z (by omega))
    · refine STP.no (r := (-3 : Int32)) hG hQ hM ?_ (fun J hJ => ⟨J, ?_, FQ.rfl'⟩)
      · unfold f_X5_addMember
        rw [isWeight_yes (by omega), if_neg (by decide), hQ.1.1.1.n hW, if_neg (by rw [lt_nI (by omega) (by decide)]; omega)]
      · unfold f_X6_addMember
        rw [in_yes (by decide) (by decide) (by omega) (by omega) (by omega), if_neg (by decide), cl_nI (by decide), hJ.row.n hW, if_pos (by rw [show nn R = 10 by omega])]
  · refine STP.no (r := (-2 : Int32)) hG hQ hM ?_ (fun J hJ => ⟨J, ?_, FQ.rfl'⟩)
    · unfold f_X5_addMember
      rw [isWeight_no hv, if_pos (by decide)]
    · unfold f_X6_addMember
      rw [in_no (by decide) (by decide) (fun m h1 h2 => hv m (by omega)), if_pos (by decide)]
theorem s_removeMember (hk : 2000 ≤ k) (h : RLs c I) (v : Int32) : STP c (f_X5_removeMember k v I) (fun J => f_X6_removeMember k v J) := by
  obtain ⟨R, st, P, kp, A, len, ch, hG, hQ, hM⟩ := h
  have hW := hG.1.1
  have hn := hW.n10
  have hst := hQ.1.2.1.2.1
  rcases mem_or v (nn R) with ⟨w, hw, rfl⟩ | hv
  · have hd := dr_data hW hw
    exact STP.act hG hd.1 (by have := hG.1.2; rw [hd.2.2.2.1]; omega) hst hM (removeMember_c hW hQ.1 hk hw) (fun J hJ => removeMember_m hW hJ hst hk hw)
  · refine STP.no (r := (-1 : Int32)) hG hQ hM ?_ (fun J hJ => ⟨J, ?_, FQ.rfl'⟩)
    · unfold f_X5_removeMember
      rw [has_no (hQ.1.1.1.n hW) hn hv, if_pos (by decide)]
    · unfold f_X6_removeMember
      rw [noMember_no (hJ.row.n hW) hn hv, Option.bind_some, if_neg (by decide)]
theorem s_setWeight (hk : 2000 ≤ k) (h : RLs c I) (v w : Int32) : STP c (f_X5_setWeight k v w I) (fun J => f_X6_setWeight k v w J) := by
  obtain ⟨R, st, P, kp, A, len, ch, hG, hQ, hM⟩ := h
  have hW := hG.1.1
  have hn := hW.n10
  have hst := hQ.1.2.1.2.1
  rcases mem_or v (nn R) with ⟨m, hm, rfl⟩ | hv
  · rcases mem_or w 51 with ⟨x, hx, rfl⟩ | hx
    · by_cases e : wt R m = x
      · refine STP.no (r := (-5 : Int32)) hG hQ hM ?_ (fun J hJ => ⟨J, ?_, FQ.rfl'⟩)
        · unfold f_X5_setWeight
          rw [has_yes (hQ.1.1.1.n hW) hn hm, if_neg (by decide), isWeight_yes (by omega), if_neg (by decide), if_pos (by rw [inBn (by omega)]; omega), cl_nI (by omega), hQ.1.1.1.w hW hm, if_pos (by rw [e])]
        · unfold f_X6_setWeight
          rw [noMember_yes (hJ.row.n hW) hn hm, Option.bind_some, if_pos (by decide), in_yes (by decide) (by decide) (by omega) (by omega) (by omega), if_neg (by decide), nI_add, ← e, ← hW.rw hm, set_same hJ.row (by omega)]
          rfl
      · obtain ⟨d1, d2, _⟩ := set_w hW hm (show x ≤ 50 by omega)
        exact STP.act hG d1 (by have := hG.1.2; rw [d2]; omega) hst hM (setWeight_c hW hQ.1 hk hm (by omega) e) (fun J hJ => setWeight_m hW hJ hst hk hm (by omega) e)
    · refine STP.no (r := (-2 : Int32)) hG hQ hM ?_ (fun J hJ => ⟨J, ?_, FQ.rfl'⟩)
      · unfold f_X5_setWeight
        rw [has_yes (hQ.1.1.1.n hW) hn hm, if_neg (by decide), isWeight_no hx, if_pos (by decide)]
      · unfold f_X6_setWeight
        rw [noMember_yes (hJ.row.n hW) hn hm, Option.bind_some, if_pos (by decide), in_no (by decide) (by decide) (fun m h1 h2 => hx m (by omega)), if_pos (by decide)]
  · refine STP.no (r := (-1 : Int32)) hG hQ hM ?_ (fun J hJ => ⟨J, ?_, FQ.rfl'⟩)
    · unfold f_X5_setWeight
      rw [has_no (hQ.1.1.1.n hW) hn hv, if_pos (by decide)]
    · unfold f_X6_setWeight
      rw [noMember_no (hJ.row.n hW) hn hv, Option.bind_some, if_neg (by decide)]
theorem s_setQuota (hk : 2000 ≤ k) (h : RLs c I) (v : Int32) : STP c (f_X5_setQuota k v I) (fun J => f_X6_setQuota k v J) := by
  obtain ⟨R, st, P, kp, A, len, ch, hG, hQ, hM⟩ := h
  have hW := hG.1.1
  have hst := hQ.1.2.1.2.1
  rcases quo_or v with ⟨q, q1, q2, rfl⟩ | hv
  · by_cases e : qq R = q
    · refine STP.no (r := (-5 : Int32)) hG hQ hM ?_ (fun J hJ => ⟨J, ?_, FQ.rfl'⟩)
      · unfold f_X5_setQuota
        rw [isQuota_yes q1 q2, if_neg (by decide), hQ.1.1.1.q hW, if_pos (by rw [e])]
      · unfold f_X6_setQuota
        rw [in_yes (by decide) (by decide) (by omega) q1 q2, if_neg (by decide), ← e, ← hW.r1, set_same hJ.row (by omega)]
        rfl
    · obtain ⟨d1, d2, _⟩ := set_q hW q1 q2
      exact STP.act hG d1 (by have := hG.1.2; rw [d2]; omega) hst hM (setQuota_c hW hQ.1 hk q1 q2 e) (fun J hJ => setQuota_m hW hJ hst hk q1 q2 e)
  · refine STP.no (r := (-2 : Int32)) hG hQ hM ?_ (fun J hJ => ⟨J, ?_, FQ.rfl'⟩)
    · unfold f_X5_setQuota
      rw [isQuota_no hv, if_pos (by decide)]
    · unfold f_X6_setQuota
      rw [in_no (by decide) (by decide) hv, if_pos (by decide)]
theorem s_setVeto (hk : 2000 ≤ k) (h : RLs c I) (v : Int32) (p : Bool) : STP c (f_X5_setVeto k v (nI (b1 p)) I) (fun J => f_X6_setVeto k v (nI (b1 p)) J) := by
  obtain ⟨R, st, P, kp, A, len, ch, hG, hQ, hM⟩ := h
  have hW := hG.1.1
  have hn := hW.n10
  have hst := hQ.1.2.1.2.1
  rcases mem_or v (nn R) with ⟨m, hm, rfl⟩ | hv
  · by_cases e : vt R m = p
    · refine STP.no (r := (-5 : Int32)) hG hQ hM ?_ (fun J hJ => ⟨J, ?_, FQ.rfl'⟩)
      · have hvm := veto_msk hm p
        have hne := veto_ne (R := R) hm p
        rw [e] at hne
        have hme := hne.mpr rfl
        have key : f_X5_setVeto_46 k I (nI (if p then vmk R ||| 2 ^ m else adn (vmk R) (2 ^ m))) = some ((-5 : Int32), I) := by
          unfold f_X5_setVeto_46
          rw [hvm, hme, hQ.1.1.1.v, if_pos rfl]
        unfold f_X5_setVeto
        rw [has_yes (hQ.1.1.1.n hW) hn hm, if_neg (by decide), hQ.1.1.1.v, bit_nI (by omega), adn_nI, or_nI, ← key]
        cases p <;> rfl
      · have key : f_X6_setVeto_19 k J (nI m) (nI (b1 p)) = some ((-5 : Int32), J) := by
          unfold f_X6_setVeto_19
          rw [nI_add, if_pos (by rw [inBn (by omega)]; omega), cl_nI (by omega), hJ.row.v hW hm, if_pos (by rw [e])]
        unfold f_X6_setVeto
        rw [noMember_yes (hJ.row.n hW) hn hm, Option.bind_some, if_pos (by decide), ← key]
        cases p <;> rfl
    · obtain ⟨d1, d2, _⟩ := set_v hW hm p
      exact STP.act hG d1 (by have := hG.1.2; rw [d2]; omega) hst hM (setVeto_c hW hQ.1 hk hm e) (fun J hJ => setVeto_m hW hJ hst hk hm e)
  · refine STP.no (r := (-1 : Int32)) hG hQ hM ?_ (fun J hJ => ⟨J, ?_, FQ.rfl'⟩)
    · unfold f_X5_setVeto
      rw [has_no (hQ.1.1.1.n hW) hn hv, if_pos (by decide)]
    · unfold f_X6_setVeto
      rw [noMember_no (hJ.row.n hW) hn hv, Option.bind_some, if_neg (by decide)]
end SP
