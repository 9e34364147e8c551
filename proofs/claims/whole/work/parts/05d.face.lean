def f_X5_beginAct (k : Nat) (I : Mem) : Option (Mem) := (Option.bind (f_X1_add k 0 I) (fun r1 => some (up2 r1 (48) 6 (nI 0))))
set_option maxHeartbeats 4000000 in
set_option maxRecDepth 100000 in
theorem c_X5_beginAct {E : EN} {k : Nat} {I : Mem} {r : Mem} (hf : f_X5_beginAct k I = some r) : Ct E yX5_beginAct cX5_beginAct 1 none 4 123 [.ref (E.2.1 (48))] I none r := by
  refine Ct_of (by decide) (Nat.le_of_ble_eq_true rfl) (fun X hC0 hR => ?_)
  have hC : Cx X E cX5_beginAct 1 RX5 4 123 := hC0
  change V X E 1 0 [(0, .ref (E.2.1 (48)))] [] I
  unfold f_X5_beginAct at hf
  refine V_aload_n (pc := 0) hC 0 dX5_beginAct_0 rfl rfl ?_
  refine gf_X5_22 (pc := 1) hC dX5_beginAct_1 ?_
  refine V_aload_n (pc := 4) hC 0 dX5_beginAct_4 rfl rfl ?_
  refine gf_X5_10 (pc := 5) hC dX5_beginAct_5 ?_
  obtain ⟨r1, g1, hf⟩ := bind_some hf
  refine V_callV (pc := 8) (rest := []) (As := [.ref (E.2.1 (8 * 0))]) hC lk_X5_225 (by decide) cel_X1 rfl (c_X1_add (by decide) g1) rfl rfl (Nat.le_of_ble_eq_true rfl) (by decide) dX5_beginAct_8 ?_
  change V X E 1 11 [(0, .ref (E.2.1 (48)))] [] r1
  refine V_aload_n (pc := 11) hC 0 dX5_beginAct_11 rfl rfl ?_
  refine V_iconst (pc := 12) hC dX5_beginAct_12 (v := (nI 0)) (by decide) ?_
  refine pf_X5_122 (pc := 13) (by decide) (by decide) hC dX5_beginAct_13 ?_
  have hf := Option.some.inj hf; subst hf
  exact V_return (pc := 16) hR trivial dX5_beginAct_16
def f_X5_isWeight (v0 : Int32) : Int32 := (if v0 < 0 then (nI 0) else (if (nI 50) < v0 then (nI 0) else (nI 1)))
set_option maxHeartbeats 4000000 in
set_option maxRecDepth 100000 in
theorem c_X5_isWeight {E : EN} {v0 : Int32} {I : Mem} {r : Int32} (hf : f_X5_isWeight v0 = r) : Ct E yX5_isWeight cX5_isWeight 1 (some .boolean) 0 0 [.int v0] I (some (.int r)) I := by
  refine Ct_of (by decide) (Nat.le_of_ble_eq_true rfl) (fun X hC0 hR => ?_)
  have hC : Cx X E cX5_isWeight 1 RX5 0 0 := hC0
  change V X E 1 0 [(0, .int v0)] [] I
  unfold f_X5_isWeight at hf
  refine V_iload_n (pc := 0) hC 0 dX5_isWeight_0 rfl rfl ?_
  refine V_if_lt (pc := 1) (tgt := 14) hC dX5_isWeight_1 (by decide) (fun c1 => ?_) (fun c1 => ?_)
  · have hf := ite_t hf c1
    refine V_iconst (pc := 14) hC dX5_isWeight_14 (v := (nI 0)) (by decide) ?_
    subst hf
    exact V_ireturn (pc := 15) hR (nar_z (by decide)) dX5_isWeight_15
  · have hf := ite_f hf c1
    refine V_iload_n (pc := 4) hC 0 dX5_isWeight_4 rfl rfl ?_
    refine V_bipush (pc := 5) hC dX5_isWeight_5 (v := (nI 50)) (by decide) ?_
    refine V_icmp_gt (pc := 7) (tgt := 14) hC dX5_isWeight_7 (by decide) (fun c2 => ?_) (fun c2 => ?_)
    · have hf := ite_t hf c2
      refine V_iconst (pc := 14) hC dX5_isWeight_14 (v := (nI 0)) (by decide) ?_
      subst hf
      exact V_ireturn (pc := 15) hR (nar_z (by decide)) dX5_isWeight_15
    · have hf := ite_f hf c2
      refine V_iconst (pc := 10) hC dX5_isWeight_10 (v := (nI 1)) (by decide) ?_
      refine V_goto (pc := 11) (tgt := 15) hC dX5_isWeight_11 (by decide) ?_
      subst hf
      exact V_ireturn (pc := 15) hR (nar_z (by decide)) dX5_isWeight_15
def f_X5_addMember (k : Nat) (v1 : Int32) (I : Mem) : Option (Int32 × Mem) := (if (f_X5_isWeight v1) = 0 then some ((-2 : Int32), I) else (if (I (8 * 0) 0) < (nI 10) then (Option.bind (f_X5_beginAct k I) (fun r3 => (Option.bind (f_X3_append k 0 v1 r3) (fun r4 => some (r4.1, r4.2))))) else some ((-3 : Int32), I)))
set_option maxHeartbeats 4000000 in
set_option maxRecDepth 100000 in
theorem c_X5_addMember {E : EN} {k : Nat} {v1 : Int32} {I : Mem} {r : Int32 × Mem} (hf : f_X5_addMember k v1 I = some r) : Ct E yX5_addMember cX5_addMember 2 (some .int) 5 143 [.ref (E.2.1 (48)), .int v1] I (some (.int r.1)) r.2 := by
  refine Ct_of (by decide) (Nat.le_of_ble_eq_true rfl) (fun X hC0 hR => ?_)
  have hC : Cx X E cX5_addMember 2 RX5 5 143 := hC0
  change V X E 2 0 [(0, .ref (E.2.1 (48))), (1, .int v1)] [] I
  unfold f_X5_addMember at hf
  refine V_iload_n (pc := 0) hC 1 dX5_addMember_0 rfl rfl ?_
  refine V_callS (pc := 1) (rest := []) (As := [.int v1]) hC lk_X5_40 (c_X5_isWeight  rfl) rfl rfl (Nat.le_of_ble_eq_true rfl) (by decide) dX5_addMember_1 ?_
  change V X E 2 4 [(0, .ref (E.2.1 (48))), (1, .int v1)] [.int (f_X5_isWeight v1)] I
  refine V_if_ne (pc := 4) (tgt := 10) hC dX5_addMember_4 (by decide) (fun c1 => ?_) (fun c1 => ?_)
  · have hf := ite_f hf c1
    refine V_aload_n (pc := 10) hC 0 dX5_addMember_10 rfl rfl ?_
    refine gf_X5_10 (pc := 11) hC dX5_addMember_11 ?_
    refine gf_X5_44 (pc := 14) (by decide) hC dX5_addMember_14 ?_
    refine V_bipush (pc := 17) hC dX5_addMember_17 (v := (nI 10)) (by decide) ?_
    refine V_icmp_lt (pc := 19) (tgt := 25) hC dX5_addMember_19 (by decide) (fun c2 => ?_) (fun c2 => ?_)
    · have hf := ite_t hf c2
      refine V_aload_n (pc := 25) hC 0 dX5_addMember_25 rfl rfl ?_
      obtain ⟨r3, g3, hf⟩ := bind_some hf
      refine V_callV (pc := 26) (rest := []) (As := []) hC lk_X5_48 (by decide) cel_X5 rfl (c_X5_beginAct  g3) rfl rfl (Nat.le_of_ble_eq_true rfl) (by decide) dX5_addMember_26 ?_
      change V X E 2 29 [(0, .ref (E.2.1 (48))), (1, .int v1)] [] r3
      refine V_aload_n (pc := 29) hC 0 dX5_addMember_29 rfl rfl ?_
      refine gf_X5_10 (pc := 30) hC dX5_addMember_30 ?_
      refine V_iload_n (pc := 33) hC 1 dX5_addMember_33 rfl rfl ?_
      obtain ⟨r4, g4, hf⟩ := bind_some hf
      refine V_callV (pc := 34) (rest := []) (As := [.int v1]) hC lk_X5_51 (by omega) (cel_State (by decide)) rfl (c_X3_append (by decide) g4) rfl rfl (Nat.le_of_ble_eq_true rfl) (by decide) dX5_addMember_34 ?_
      change V X E 2 37 [(0, .ref (E.2.1 (48))), (1, .int v1)] [.int r4.1] r4.2
      have hf := Option.some.inj hf; subst hf
      exact V_ireturn (pc := 37) hR rfl dX5_addMember_37
    · have hf := ite_f hf c2
      refine V_bipush (pc := 22) hC dX5_addMember_22 (v := (-3 : Int32)) (by decide) ?_
      have hf := Option.some.inj hf; subst hf
      exact V_ireturn (pc := 24) hR rfl dX5_addMember_24
  · have hf := ite_t hf c1
    refine V_bipush (pc := 7) hC dX5_addMember_7 (v := (-2 : Int32)) (by decide) ?_
    have hf := Option.some.inj hf; subst hf
    exact V_ireturn (pc := 9) hR rfl dX5_addMember_9
def f_X5_removeMember (k : Nat) (v1 : Int32) (I : Mem) : Option (Int32 × Mem) := (if (f_X3_has 0 v1 I) = 0 then some ((-1 : Int32), I) else (Option.bind (f_X5_beginAct k I) (fun r2 => (Option.bind (f_X3_drop k 0 v1 r2) (fun r3 => some (r3 (8 * 0) 0, r3))))))
set_option maxHeartbeats 4000000 in
set_option maxRecDepth 100000 in
theorem c_X5_removeMember {E : EN} {k : Nat} {v1 : Int32} {I : Mem} {r : Int32 × Mem} (hf : f_X5_removeMember k v1 I = some r) : Ct E yX5_removeMember cX5_removeMember 2 (some .int) 5 143 [.ref (E.2.1 (48)), .int v1] I (some (.int r.1)) r.2 := by
  refine Ct_of (by decide) (Nat.le_of_ble_eq_true rfl) (fun X hC0 hR => ?_)
  have hC : Cx X E cX5_removeMember 2 RX5 5 143 := hC0
  change V X E 2 0 [(0, .ref (E.2.1 (48))), (1, .int v1)] [] I
  unfold f_X5_removeMember at hf
  refine V_aload_n (pc := 0) hC 0 dX5_removeMember_0 rfl rfl ?_
  refine gf_X5_10 (pc := 1) hC dX5_removeMember_1 ?_
  refine V_iload_n (pc := 4) hC 1 dX5_removeMember_4 rfl rfl ?_
  refine V_callV (pc := 5) (rest := []) (As := [.int v1]) hC lk_X5_55 (by omega) (cel_State (by decide)) rfl (c_X3_has (by decide) rfl) rfl rfl (Nat.le_of_ble_eq_true rfl) (by decide) dX5_removeMember_5 ?_
  change V X E 2 8 [(0, .ref (E.2.1 (48))), (1, .int v1)] [.int (f_X3_has 0 v1 I)] I
  refine V_if_ne (pc := 8) (tgt := 13) hC dX5_removeMember_8 (by decide) (fun c1 => ?_) (fun c1 => ?_)
  · have hf := ite_f hf c1
    refine V_aload_n (pc := 13) hC 0 dX5_removeMember_13 rfl rfl ?_
    obtain ⟨r2, g2, hf⟩ := bind_some hf
    refine V_callV (pc := 14) (rest := []) (As := []) hC lk_X5_48 (by decide) cel_X5 rfl (c_X5_beginAct  g2) rfl rfl (Nat.le_of_ble_eq_true rfl) (by decide) dX5_removeMember_14 ?_
    change V X E 2 17 [(0, .ref (E.2.1 (48))), (1, .int v1)] [] r2
    refine V_aload_n (pc := 17) hC 0 dX5_removeMember_17 rfl rfl ?_
    refine gf_X5_10 (pc := 18) hC dX5_removeMember_18 ?_
    refine V_iload_n (pc := 21) hC 1 dX5_removeMember_21 rfl rfl ?_
    obtain ⟨r3, g3, hf⟩ := bind_some hf
    refine V_callV (pc := 22) (rest := []) (As := [.int v1]) hC lk_X5_58 (by omega) (cel_State (by decide)) rfl (c_X3_drop (by decide) g3) rfl rfl (Nat.le_of_ble_eq_true rfl) (by decide) dX5_removeMember_22 ?_
    change V X E 2 25 [(0, .ref (E.2.1 (48))), (1, .int v1)] [] r3
    refine V_aload_n (pc := 25) hC 0 dX5_removeMember_25 rfl rfl ?_
    refine gf_X5_10 (pc := 26) hC dX5_removeMember_26 ?_
    refine gf_X5_44 (pc := 29) (by decide) hC dX5_removeMember_29 ?_
    have hf := Option.some.inj hf; subst hf
    exact V_ireturn (pc := 32) hR rfl dX5_removeMember_32
  · have hf := ite_t hf c1
    refine V_iconst (pc := 11) hC dX5_removeMember_11 (v := (-1 : Int32)) (by decide) ?_
    have hf := Option.some.inj hf; subst hf
    exact V_ireturn (pc := 12) hR rfl dX5_removeMember_12
def f_X5_setWeight (k : Nat) (v1 : Int32) (v2 : Int32) (I : Mem) : Option (Int32 × Mem) := (if (f_X3_has 0 v1 I) = 0 then some ((-1 : Int32), I) else (if (f_X5_isWeight v2) = 0 then some ((-2 : Int32), I) else (if inB v1 10 = true then (if (I (8 * 0 + 1) (Int32.toNatClampNeg v1)) = v2 then some ((-5 : Int32), I) else (Option.bind (f_X5_beginAct k I) (fun r5 => (if inB v1 10 = true then some (I (8 * 0 + 1) (Int32.toNatClampNeg v1), up2 r5 (8 * 0 + 1) (Int32.toNatClampNeg v1) v2) else none)))) else none)))
set_option maxHeartbeats 4000000 in
set_option maxRecDepth 100000 in
theorem c_X5_setWeight {E : EN} {k : Nat} {v1 : Int32} {v2 : Int32} {I : Mem} {r : Int32 × Mem} (hf : f_X5_setWeight k v1 v2 I = some r) : Ct E yX5_setWeight cX5_setWeight 4 (some .int) 5 143 [.ref (E.2.1 (48)), .int v1, .int v2] I (some (.int r.1)) r.2 := by
  refine Ct_of (by decide) (Nat.le_of_ble_eq_true rfl) (fun X hC0 hR => ?_)
  have hC : Cx X E cX5_setWeight 4 RX5 5 143 := hC0
  change V X E 4 0 [(0, .ref (E.2.1 (48))), (1, .int v1), (2, .int v2)] [] I
  unfold f_X5_setWeight at hf
  refine V_aload_n (pc := 0) hC 0 dX5_setWeight_0 rfl rfl ?_
  refine gf_X5_10 (pc := 1) hC dX5_setWeight_1 ?_
  refine V_iload_n (pc := 4) hC 1 dX5_setWeight_4 rfl rfl ?_
  refine V_callV (pc := 5) (rest := []) (As := [.int v1]) hC lk_X5_55 (by omega) (cel_State (by decide)) rfl (c_X3_has (by decide) rfl) rfl rfl (Nat.le_of_ble_eq_true rfl) (by decide) dX5_setWeight_5 ?_
  change V X E 4 8 [(0, .ref (E.2.1 (48))), (1, .int v1), (2, .int v2)] [.int (f_X3_has 0 v1 I)] I
  refine V_if_ne (pc := 8) (tgt := 13) hC dX5_setWeight_8 (by decide) (fun c1 => ?_) (fun c1 => ?_)
  · have hf := ite_f hf c1
    refine V_iload_n (pc := 13) hC 2 dX5_setWeight_13 rfl rfl ?_
    refine V_callS (pc := 14) (rest := []) (As := [.int v2]) hC lk_X5_40 (c_X5_isWeight  rfl) rfl rfl (Nat.le_of_ble_eq_true rfl) (by decide) dX5_setWeight_14 ?_
    change V X E 4 17 [(0, .ref (E.2.1 (48))), (1, .int v1), (2, .int v2)] [.int (f_X5_isWeight v2)] I
    refine V_if_ne (pc := 17) (tgt := 23) hC dX5_setWeight_17 (by decide) (fun c2 => ?_) (fun c2 => ?_)
    · have hf := ite_f hf c2
      refine V_aload_n (pc := 23) hC 0 dX5_setWeight_23 rfl rfl ?_
      refine gf_X5_10 (pc := 24) hC dX5_setWeight_24 ?_
      refine gf_X5_62 (pc := 27) (by decide) hC dX5_setWeight_27 ?_
      refine V_iload_n (pc := 30) hC 1 dX5_setWeight_30 rfl rfl ?_
      obtain ⟨h3, hf⟩ := if_some hf
      refine V_iald (pc := 31) hC (ia_st (by decide) (by decide) (by decide)) (inB_of h3) dX5_setWeight_31 ?_
      refine V_istore_n (pc := 32) (lv' := [(3, .int (I (8 * 0 + 1) (Int32.toNatClampNeg v1))), (0, .ref (E.2.1 (48))), (1, .int v1), (2, .int v2)]) hC dX5_setWeight_32 rfl (by decide) rfl ?_
      refine V_iload_n (pc := 33) hC 0 dX5_setWeight_33 rfl rfl ?_
      refine V_iload_n (pc := 34) hC 3 dX5_setWeight_34 rfl rfl ?_
      refine V_icmp_ne (pc := 35) (tgt := 41) hC dX5_setWeight_35 (by decide) (fun c4 => ?_) (fun c4 => ?_)
      · have hf := ite_f hf c4
        refine V_aload_n (pc := 41) hC 1 dX5_setWeight_41 rfl rfl ?_
        obtain ⟨r5, g5, hf⟩ := bind_some hf
        refine V_callV (pc := 42) (rest := []) (As := []) hC lk_X5_48 (by decide) cel_X5 rfl (c_X5_beginAct  g5) rfl rfl (Nat.le_of_ble_eq_true rfl) (by decide) dX5_setWeight_42 ?_
        change V X E 4 45 [(3, .int (I (8 * 0 + 1) (Int32.toNatClampNeg v1))), (0, .ref (E.2.1 (48))), (1, .int v1), (2, .int v2)] [] r5
        refine V_aload_n (pc := 45) hC 1 dX5_setWeight_45 rfl rfl ?_
        refine gf_X5_10 (pc := 46) hC dX5_setWeight_46 ?_
        refine gf_X5_62 (pc := 49) (by decide) hC dX5_setWeight_49 ?_
        refine V_iload_n (pc := 52) hC 2 dX5_setWeight_52 rfl rfl ?_
        refine V_iload_n (pc := 53) hC 3 dX5_setWeight_53 rfl rfl ?_
        obtain ⟨h6, hf⟩ := if_some hf
        refine V_iast (pc := 54) hC (ia_st (by decide) (by decide) (by decide)) (inB_of h6) dX5_setWeight_54 ?_
        refine V_iload_n (pc := 55) hC 0 dX5_setWeight_55 rfl rfl ?_
        have hf := Option.some.inj hf; subst hf
        exact V_ireturn (pc := 56) hR rfl dX5_setWeight_56
      · have hf := ite_t hf c4
        refine V_bipush (pc := 38) hC dX5_setWeight_38 (v := (-5 : Int32)) (by decide) ?_
        have hf := Option.some.inj hf; subst hf
        exact V_ireturn (pc := 40) hR rfl dX5_setWeight_40
    · have hf := ite_t hf c2
      refine V_bipush (pc := 20) hC dX5_setWeight_20 (v := (-2 : Int32)) (by decide) ?_
      have hf := Option.some.inj hf; subst hf
      exact V_ireturn (pc := 22) hR rfl dX5_setWeight_22
  · have hf := ite_t hf c1
    refine V_iconst (pc := 11) hC dX5_setWeight_11 (v := (-1 : Int32)) (by decide) ?_
    have hf := Option.some.inj hf; subst hf
    exact V_ireturn (pc := 12) hR rfl dX5_setWeight_12
def f_X5_setVeto_46 (k : Nat) (I : Mem) (w0 : Int32) : Option (Int32 × Mem) := (if w0 = (I (8 * 0) 2) then some ((-5 : Int32), I) else (Option.bind (f_X5_beginAct k I) (fun r4 => some ((f_J6_bitCount_0f7a4 w0), up2 r4 (8 * 0) 2 w0))))
set_option maxHeartbeats 4000000 in
set_option maxRecDepth 100000 in
theorem b_X5_setVeto_46 {X : XT} {E : EN} {k : Nat} {I : Mem} {w0 : Int32} {r : Int32 × Mem} (hC : Cx X E cX5_setVeto 4 RX5 5 143) (hR : Rt X E cX5_setVeto (some .int) (some (.int r.1)) r.2) (hf : f_X5_setVeto_46 k I w0 = some r) : V X E 4 46 [(0, .ref (E.2.1 (48)))] [.int w0] I := by
  unfold f_X5_setVeto_46 at hf
  refine V_istore_n (pc := 46) (lv' := [(3, .int w0), (0, .ref (E.2.1 (48)))]) hC dX5_setVeto_46 rfl (by decide) rfl ?_
  refine V_iload_n (pc := 47) hC 0 dX5_setVeto_47 rfl rfl ?_
  refine V_aload_n (pc := 48) hC 1 dX5_setVeto_48 rfl rfl ?_
  refine gf_X5_10 (pc := 49) hC dX5_setVeto_49 ?_
  refine gf_X5_66 (pc := 52) (by decide) hC dX5_setVeto_52 ?_
  refine V_icmp_ne (pc := 55) (tgt := 61) hC dX5_setVeto_55 (by decide) (fun c3 => ?_) (fun c3 => ?_)
  · have hf := ite_f hf c3
    refine V_aload_n (pc := 61) hC 1 dX5_setVeto_61 rfl rfl ?_
    obtain ⟨r4, g4, hf⟩ := bind_some hf
    refine V_callV (pc := 62) (rest := []) (As := []) hC lk_X5_48 (by decide) cel_X5 rfl (c_X5_beginAct  g4) rfl rfl (Nat.le_of_ble_eq_true rfl) (by decide) dX5_setVeto_62 ?_
    change V X E 4 65 [(3, .int w0), (0, .ref (E.2.1 (48)))] [] r4
    refine V_aload_n (pc := 65) hC 1 dX5_setVeto_65 rfl rfl ?_
    refine gf_X5_10 (pc := 66) hC dX5_setVeto_66 ?_
    refine V_iload_n (pc := 69) hC 0 dX5_setVeto_69 rfl rfl ?_
    refine pf_X5_66 (pc := 70) (by decide) hC dX5_setVeto_70 ?_
    refine V_iload_n (pc := 73) hC 0 dX5_setVeto_73 rfl rfl ?_
    refine V_callS (pc := 74) (rest := []) (As := [.int w0]) hC lk_X5_72 (c_J6_bitCount_0f7a4  rfl) rfl rfl (Nat.le_of_ble_eq_true rfl) (by decide) dX5_setVeto_74 ?_
    change V X E 4 77 [(3, .int w0), (0, .ref (E.2.1 (48)))] [.int (f_J6_bitCount_0f7a4 w0)] (up2 r4 (8 * 0) 2 w0)
    have hf := Option.some.inj hf; subst hf
    exact V_ireturn (pc := 77) hR rfl dX5_setVeto_77
  · have hf := ite_t hf c3
    refine V_bipush (pc := 58) hC dX5_setVeto_58 (v := (-5 : Int32)) (by decide) ?_
    have hf := Option.some.inj hf; subst hf
    exact V_ireturn (pc := 60) hR rfl dX5_setVeto_60
def f_X5_setVeto (k : Nat) (v1 : Int32) (v2 : Int32) (I : Mem) : Option (Int32 × Mem) := (if (f_X3_has 0 v1 I) = 0 then some ((-1 : Int32), I) else (if v2 = 0 then f_X5_setVeto_46 k I ((I (8 * 0) 2) &&& ((f_X5_bit v1) ^^^ (-1 : Int32))) else f_X5_setVeto_46 k I ((I (8 * 0) 2) ||| (f_X5_bit v1))))
set_option maxHeartbeats 4000000 in
set_option maxRecDepth 100000 in
theorem c_X5_setVeto {E : EN} {k : Nat} {v1 : Int32} {v2 : Int32} {I : Mem} {r : Int32 × Mem} (hf : f_X5_setVeto k v1 v2 I = some r) : Ct E yX5_setVeto cX5_setVeto 4 (some .int) 5 143 [.ref (E.2.1 (48)), .int v1, .int v2] I (some (.int r.1)) r.2 := by
  refine Ct_of (by decide) (Nat.le_of_ble_eq_true rfl) (fun X hC0 hR => ?_)
  have hC : Cx X E cX5_setVeto 4 RX5 5 143 := hC0
  change V X E 4 0 [(0, .ref (E.2.1 (48))), (1, .int v1), (2, .int v2)] [] I
  unfold f_X5_setVeto at hf
  refine V_aload_n (pc := 0) hC 0 dX5_setVeto_0 rfl rfl ?_
  refine gf_X5_10 (pc := 1) hC dX5_setVeto_1 ?_
  refine V_iload_n (pc := 4) hC 1 dX5_setVeto_4 rfl rfl ?_
  refine V_callV (pc := 5) (rest := []) (As := [.int v1]) hC lk_X5_55 (by omega) (cel_State (by decide)) rfl (c_X3_has (by decide) rfl) rfl rfl (Nat.le_of_ble_eq_true rfl) (by decide) dX5_setVeto_5 ?_
  change V X E 4 8 [(0, .ref (E.2.1 (48))), (1, .int v1), (2, .int v2)] [.int (f_X3_has 0 v1 I)] I
  refine V_if_ne (pc := 8) (tgt := 13) hC dX5_setVeto_8 (by decide) (fun c1 => ?_) (fun c1 => ?_)
  · have hf := ite_f hf c1
    refine V_iload_n (pc := 13) hC 2 dX5_setVeto_13 rfl rfl ?_
    refine V_if_eq (pc := 14) (tgt := 32) hC dX5_setVeto_14 (by decide) (fun c2 => ?_) (fun c2 => ?_)
    · have hf := ite_t hf c2
      refine V_aload_n (pc := 32) hC 0 dX5_setVeto_32 rfl rfl ?_
      refine gf_X5_10 (pc := 33) hC dX5_setVeto_33 ?_
      refine gf_X5_66 (pc := 36) (by decide) hC dX5_setVeto_36 ?_
      refine V_iload_n (pc := 39) hC 1 dX5_setVeto_39 rfl rfl ?_
      refine V_callS (pc := 40) (rest := [.int (I (8 * 0) 2)]) (As := [.int v1]) hC lk_X5_69 (c_X5_bit  rfl) rfl rfl (Nat.le_of_ble_eq_true rfl) (by decide) dX5_setVeto_40 ?_
      change V X E 4 43 [(0, .ref (E.2.1 (48))), (1, .int v1), (2, .int v2)] [.int (f_X5_bit v1), .int (I (8 * 0) 2)] I
      refine V_iconst (pc := 43) hC dX5_setVeto_43 (v := (-1 : Int32)) (by decide) ?_
      refine V_ixor (pc := 44) hC dX5_setVeto_44 ?_
      refine V_iand (pc := 45) hC dX5_setVeto_45 ?_
      refine V_sub (pc := 46) (lv' := [(0, .ref (E.2.1 (48)))]) [0] rfl ?_
      exact b_X5_setVeto_46 hC hR hf
    · have hf := ite_f hf c2
      refine V_aload_n (pc := 17) hC 0 dX5_setVeto_17 rfl rfl ?_
      refine gf_X5_10 (pc := 18) hC dX5_setVeto_18 ?_
      refine gf_X5_66 (pc := 21) (by decide) hC dX5_setVeto_21 ?_
      refine V_iload_n (pc := 24) hC 1 dX5_setVeto_24 rfl rfl ?_
      refine V_callS (pc := 25) (rest := [.int (I (8 * 0) 2)]) (As := [.int v1]) hC lk_X5_69 (c_X5_bit  rfl) rfl rfl (Nat.le_of_ble_eq_true rfl) (by decide) dX5_setVeto_25 ?_
      change V X E 4 28 [(0, .ref (E.2.1 (48))), (1, .int v1), (2, .int v2)] [.int (f_X5_bit v1), .int (I (8 * 0) 2)] I
      refine V_ior (pc := 28) hC dX5_setVeto_28 ?_
      refine V_goto (pc := 29) (tgt := 46) hC dX5_setVeto_29 (by decide) ?_
      refine V_sub (pc := 46) (lv' := [(0, .ref (E.2.1 (48)))]) [0] rfl ?_
      exact b_X5_setVeto_46 hC hR hf
  · have hf := ite_t hf c1
    refine V_iconst (pc := 11) hC dX5_setVeto_11 (v := (-1 : Int32)) (by decide) ?_
    have hf := Option.some.inj hf; subst hf
    exact V_ireturn (pc := 12) hR rfl dX5_setVeto_12
def f_X5_isQuota (v0 : Int32) : Int32 := (if v0 < (nI 1) then (nI 0) else (if (nI 500) < v0 then (nI 0) else (nI 1)))
set_option maxHeartbeats 4000000 in
set_option maxRecDepth 100000 in
theorem c_X5_isQuota {E : EN} {v0 : Int32} {I : Mem} {r : Int32} (hf : f_X5_isQuota v0 = r) : Ct E yX5_isQuota cX5_isQuota 1 (some .boolean) 0 0 [.int v0] I (some (.int r)) I := by
  refine Ct_of (by decide) (Nat.le_of_ble_eq_true rfl) (fun X hC0 hR => ?_)
  have hC : Cx X E cX5_isQuota 1 RX5 0 0 := hC0
  change V X E 1 0 [(0, .int v0)] [] I
  unfold f_X5_isQuota at hf
  refine V_iload_n (pc := 0) hC 0 dX5_isQuota_0 rfl rfl ?_
  refine V_iconst (pc := 1) hC dX5_isQuota_1 (v := (nI 1)) (by decide) ?_
  refine V_icmp_lt (pc := 2) (tgt := 16) hC dX5_isQuota_2 (by decide) (fun c1 => ?_) (fun c1 => ?_)
  · have hf := ite_t hf c1
    refine V_iconst (pc := 16) hC dX5_isQuota_16 (v := (nI 0)) (by decide) ?_
    subst hf
    exact V_ireturn (pc := 17) hR (nar_z (by decide)) dX5_isQuota_17
  · have hf := ite_f hf c1
    refine V_iload_n (pc := 5) hC 0 dX5_isQuota_5 rfl rfl ?_
    refine V_sipush (pc := 6) hC dX5_isQuota_6 (v := (nI 500)) (by decide) ?_
    refine V_icmp_gt (pc := 9) (tgt := 16) hC dX5_isQuota_9 (by decide) (fun c2 => ?_) (fun c2 => ?_)
    · have hf := ite_t hf c2
      refine V_iconst (pc := 16) hC dX5_isQuota_16 (v := (nI 0)) (by decide) ?_
      subst hf
      exact V_ireturn (pc := 17) hR (nar_z (by decide)) dX5_isQuota_17
    · have hf := ite_f hf c2
      refine V_iconst (pc := 12) hC dX5_isQuota_12 (v := (nI 1)) (by decide) ?_
      refine V_goto (pc := 13) (tgt := 17) hC dX5_isQuota_13 (by decide) ?_
      subst hf
      exact V_ireturn (pc := 17) hR (nar_z (by decide)) dX5_isQuota_17
def f_X5_setQuota (k : Nat) (v1 : Int32) (I : Mem) : Option (Int32 × Mem) := (if (f_X5_isQuota v1) = 0 then some ((-2 : Int32), I) else (if (I (8 * 0) 1) = v1 then some ((-5 : Int32), I) else (Option.bind (f_X5_beginAct k I) (fun r3 => some (I (8 * 0) 1, up2 r3 (8 * 0) 1 v1)))))
set_option maxHeartbeats 4000000 in
set_option maxRecDepth 100000 in
theorem c_X5_setQuota {E : EN} {k : Nat} {v1 : Int32} {I : Mem} {r : Int32 × Mem} (hf : f_X5_setQuota k v1 I = some r) : Ct E yX5_setQuota cX5_setQuota 3 (some .int) 5 143 [.ref (E.2.1 (48)), .int v1] I (some (.int r.1)) r.2 := by
  refine Ct_of (by decide) (Nat.le_of_ble_eq_true rfl) (fun X hC0 hR => ?_)
  have hC : Cx X E cX5_setQuota 3 RX5 5 143 := hC0
  change V X E 3 0 [(0, .ref (E.2.1 (48))), (1, .int v1)] [] I
  unfold f_X5_setQuota at hf
  refine V_iload_n (pc := 0) hC 1 dX5_setQuota_0 rfl rfl ?_
  refine V_callS (pc := 1) (rest := []) (As := [.int v1]) hC lk_X5_77 (c_X5_isQuota  rfl) rfl rfl (Nat.le_of_ble_eq_true rfl) (by decide) dX5_setQuota_1 ?_
  change V X E 3 4 [(0, .ref (E.2.1 (48))), (1, .int v1)] [.int (f_X5_isQuota v1)] I
  refine V_if_ne (pc := 4) (tgt := 10) hC dX5_setQuota_4 (by decide) (fun c1 => ?_) (fun c1 => ?_)
  · have hf := ite_f hf c1
    refine V_aload_n (pc := 10) hC 0 dX5_setQuota_10 rfl rfl ?_
    refine gf_X5_10 (pc := 11) hC dX5_setQuota_11 ?_
    refine gf_X5_80 (pc := 14) (by decide) hC dX5_setQuota_14 ?_
    refine V_istore_n (pc := 17) (lv' := [(2, .int (I (8 * 0) 1)), (0, .ref (E.2.1 (48))), (1, .int v1)]) hC dX5_setQuota_17 rfl (by decide) rfl ?_
    refine V_iload_n (pc := 18) hC 0 dX5_setQuota_18 rfl rfl ?_
    refine V_iload_n (pc := 19) hC 2 dX5_setQuota_19 rfl rfl ?_
    refine V_icmp_ne (pc := 20) (tgt := 26) hC dX5_setQuota_20 (by decide) (fun c2 => ?_) (fun c2 => ?_)
    · have hf := ite_f hf c2
      refine V_aload_n (pc := 26) hC 1 dX5_setQuota_26 rfl rfl ?_
      obtain ⟨r3, g3, hf⟩ := bind_some hf
      refine V_callV (pc := 27) (rest := []) (As := []) hC lk_X5_48 (by decide) cel_X5 rfl (c_X5_beginAct  g3) rfl rfl (Nat.le_of_ble_eq_true rfl) (by decide) dX5_setQuota_27 ?_
      change V X E 3 30 [(2, .int (I (8 * 0) 1)), (0, .ref (E.2.1 (48))), (1, .int v1)] [] r3
      refine V_aload_n (pc := 30) hC 1 dX5_setQuota_30 rfl rfl ?_
      refine gf_X5_10 (pc := 31) hC dX5_setQuota_31 ?_
      refine V_iload_n (pc := 34) hC 2 dX5_setQuota_34 rfl rfl ?_
      refine pf_X5_80 (pc := 35) (by decide) hC dX5_setQuota_35 ?_
      refine V_iload_n (pc := 38) hC 0 dX5_setQuota_38 rfl rfl ?_
      have hf := Option.some.inj hf; subst hf
      exact V_ireturn (pc := 39) hR rfl dX5_setQuota_39
    · have hf := ite_t hf c2
      refine V_bipush (pc := 23) hC dX5_setQuota_23 (v := (-5 : Int32)) (by decide) ?_
      have hf := Option.some.inj hf; subst hf
      exact V_ireturn (pc := 25) hR rfl dX5_setQuota_25
  · have hf := ite_t hf c1
    refine V_bipush (pc := 7) hC dX5_setQuota_7 (v := (-2 : Int32)) (by decide) ?_
    have hf := Option.some.inj hf; subst hf
    exact V_ireturn (pc := 9) hR rfl dX5_setQuota_9
def f_X5_join (k : Nat) (v1 : Int32) (v2 : Int32) (I : Mem) : Option (Int32 × Mem) := (if (f_X3_has 0 v1 I) = 0 then some ((-1 : Int32), I) else (if (f_X3_has 0 v2 I) = 0 then some ((-1 : Int32), I) else (if inB v1 10 = true then (if (f_X5_holds (I (8 * 0 + 2) (Int32.toNatClampNeg v1)) v2) = 0 then (Option.bind (f_X5_beginAct k I) (fun r5 => (if inB v1 10 = true then (if inB v2 10 = true then (Option.bind (f_X3_makeBloc k 0 ((r5 (8 * 0 + 2) (Int32.toNatClampNeg v1)) ||| (r5 (8 * 0 + 2) (Int32.toNatClampNeg v2))) r5) (fun r8 => some ((f_J6_bitCount_0f7a4 ((r5 (8 * 0 + 2) (Int32.toNatClampNeg v1)) ||| (r5 (8 * 0 + 2) (Int32.toNatClampNeg v2)))), r8))) else none) else none))) else some ((-5 : Int32), I)) else none)))
set_option maxHeartbeats 4000000 in
set_option maxRecDepth 100000 in
theorem c_X5_join {E : EN} {k : Nat} {v1 : Int32} {v2 : Int32} {I : Mem} {r : Int32 × Mem} (hf : f_X5_join k v1 v2 I = some r) : Ct E yX5_join cX5_join 4 (some .int) 5 143 [.ref (E.2.1 (48)), .int v1, .int v2] I (some (.int r.1)) r.2 := by
  refine Ct_of (by decide) (Nat.le_of_ble_eq_true rfl) (fun X hC0 hR => ?_)
  have hC : Cx X E cX5_join 4 RX5 5 143 := hC0
  change V X E 4 0 [(0, .ref (E.2.1 (48))), (1, .int v1), (2, .int v2)] [] I
  unfold f_X5_join at hf
  refine V_aload_n (pc := 0) hC 0 dX5_join_0 rfl rfl ?_
  refine gf_X5_10 (pc := 1) hC dX5_join_1 ?_
  refine V_iload_n (pc := 4) hC 1 dX5_join_4 rfl rfl ?_
  refine V_callV (pc := 5) (rest := []) (As := [.int v1]) hC lk_X5_55 (by omega) (cel_State (by decide)) rfl (c_X3_has (by decide) rfl) rfl rfl (Nat.le_of_ble_eq_true rfl) (by decide) dX5_join_5 ?_
  change V X E 4 8 [(0, .ref (E.2.1 (48))), (1, .int v1), (2, .int v2)] [.int (f_X3_has 0 v1 I)] I
  refine V_if_eq (pc := 8) (tgt := 22) hC dX5_join_8 (by decide) (fun c1 => ?_) (fun c1 => ?_)
  · have hf := ite_t hf c1
    refine V_iconst (pc := 22) hC dX5_join_22 (v := (-1 : Int32)) (by decide) ?_
    have hf := Option.some.inj hf; subst hf
    exact V_ireturn (pc := 23) hR rfl dX5_join_23
  · have hf := ite_f hf c1
    refine V_aload_n (pc := 11) hC 0 dX5_join_11 rfl rfl ?_
    refine gf_X5_10 (pc := 12) hC dX5_join_12 ?_
    refine V_iload_n (pc := 15) hC 2 dX5_join_15 rfl rfl ?_
    refine V_callV (pc := 16) (rest := []) (As := [.int v2]) hC lk_X5_55 (by omega) (cel_State (by decide)) rfl (c_X3_has (by decide) rfl) rfl rfl (Nat.le_of_ble_eq_true rfl) (by decide) dX5_join_16 ?_
    change V X E 4 19 [(0, .ref (E.2.1 (48))), (1, .int v1), (2, .int v2)] [.int (f_X3_has 0 v2 I)] I
    refine V_if_ne (pc := 19) (tgt := 24) hC dX5_join_19 (by decide) (fun c2 => ?_) (fun c2 => ?_)
    · have hf := ite_f hf c2
      refine V_aload_n (pc := 24) hC 0 dX5_join_24 rfl rfl ?_
      refine gf_X5_10 (pc := 25) hC dX5_join_25 ?_
      refine gf_X5_83 (pc := 28) (by decide) hC dX5_join_28 ?_
      refine V_iload_n (pc := 31) hC 1 dX5_join_31 rfl rfl ?_
      obtain ⟨h3, hf⟩ := if_some hf
      refine V_iald (pc := 32) hC (ia_st (by decide) (by decide) (by decide)) (inB_of h3) dX5_join_32 ?_
      refine V_iload_n (pc := 33) hC 2 dX5_join_33 rfl rfl ?_
      refine V_callS (pc := 34) (rest := []) (As := [.int (I (8 * 0 + 2) (Int32.toNatClampNeg v1)), .int v2]) hC lk_X5_86 (c_X5_holds  rfl) rfl rfl (Nat.le_of_ble_eq_true rfl) (by decide) dX5_join_34 ?_
      change V X E 4 37 [(0, .ref (E.2.1 (48))), (1, .int v1), (2, .int v2)] [.int (f_X5_holds (I (8 * 0 + 2) (Int32.toNatClampNeg v1)) v2)] I
      refine V_if_eq (pc := 37) (tgt := 43) hC dX5_join_37 (by decide) (fun c4 => ?_) (fun c4 => ?_)
      · have hf := ite_t hf c4
        refine V_aload_n (pc := 43) hC 0 dX5_join_43 rfl rfl ?_
        obtain ⟨r5, g5, hf⟩ := bind_some hf
        refine V_callV (pc := 44) (rest := []) (As := []) hC lk_X5_48 (by decide) cel_X5 rfl (c_X5_beginAct  g5) rfl rfl (Nat.le_of_ble_eq_true rfl) (by decide) dX5_join_44 ?_
        change V X E 4 47 [(0, .ref (E.2.1 (48))), (1, .int v1), (2, .int v2)] [] r5
        refine V_aload_n (pc := 47) hC 0 dX5_join_47 rfl rfl ?_
        refine gf_X5_10 (pc := 48) hC dX5_join_48 ?_
        refine gf_X5_83 (pc := 51) (by decide) hC dX5_join_51 ?_
        refine V_iload_n (pc := 54) hC 1 dX5_join_54 rfl rfl ?_
        obtain ⟨h6, hf⟩ := if_some hf
        refine V_iald (pc := 55) hC (ia_st (by decide) (by decide) (by decide)) (inB_of h6) dX5_join_55 ?_
        refine V_aload_n (pc := 56) hC 0 dX5_join_56 rfl rfl ?_
        refine gf_X5_10 (pc := 57) hC dX5_join_57 ?_
        refine gf_X5_83 (pc := 60) (by decide) hC dX5_join_60 ?_
        refine V_iload_n (pc := 63) hC 2 dX5_join_63 rfl rfl ?_
        obtain ⟨h7, hf⟩ := if_some hf
        refine V_iald (pc := 64) hC (ia_st (by decide) (by decide) (by decide)) (inB_of h7) dX5_join_64 ?_
        refine V_ior (pc := 65) hC dX5_join_65 ?_
        refine V_istore_n (pc := 66) (lv' := [(3, .int ((r5 (8 * 0 + 2) (Int32.toNatClampNeg v1)) ||| (r5 (8 * 0 + 2) (Int32.toNatClampNeg v2)))), (0, .ref (E.2.1 (48))), (1, .int v1), (2, .int v2)]) hC dX5_join_66 rfl (by decide) rfl ?_
        refine V_aload_n (pc := 67) hC 1 dX5_join_67 rfl rfl ?_
        refine gf_X5_10 (pc := 68) hC dX5_join_68 ?_
        refine V_iload_n (pc := 71) hC 0 dX5_join_71 rfl rfl ?_
        obtain ⟨r8, g8, hf⟩ := bind_some hf
        refine V_callV (pc := 72) (rest := []) (As := [.int ((r5 (8 * 0 + 2) (Int32.toNatClampNeg v1)) ||| (r5 (8 * 0 + 2) (Int32.toNatClampNeg v2)))]) hC lk_X5_90 (by omega) (cel_State (by decide)) rfl (c_X3_makeBloc (by decide) g8) rfl rfl (Nat.le_of_ble_eq_true rfl) (by decide) dX5_join_72 ?_
        change V X E 4 75 [(3, .int ((r5 (8 * 0 + 2) (Int32.toNatClampNeg v1)) ||| (r5 (8 * 0 + 2) (Int32.toNatClampNeg v2)))), (0, .ref (E.2.1 (48))), (1, .int v1), (2, .int v2)] [] r8
        refine V_iload_n (pc := 75) hC 0 dX5_join_75 rfl rfl ?_
        refine V_callS (pc := 76) (rest := []) (As := [.int ((r5 (8 * 0 + 2) (Int32.toNatClampNeg v1)) ||| (r5 (8 * 0 + 2) (Int32.toNatClampNeg v2)))]) hC lk_X5_72 (c_J6_bitCount_0f7a4  rfl) rfl rfl (Nat.le_of_ble_eq_true rfl) (by decide) dX5_join_76 ?_
        change V X E 4 79 [(3, .int ((r5 (8 * 0 + 2) (Int32.toNatClampNeg v1)) ||| (r5 (8 * 0 + 2) (Int32.toNatClampNeg v2)))), (0, .ref (E.2.1 (48))), (1, .int v1), (2, .int v2)] [.int (f_J6_bitCount_0f7a4 ((r5 (8 * 0 + 2) (Int32.toNatClampNeg v1)) ||| (r5 (8 * 0 + 2) (Int32.toNatClampNeg v2))))] r8
        have hf := Option.some.inj hf; subst hf
        exact V_ireturn (pc := 79) hR rfl dX5_join_79
      · have hf := ite_f hf c4
        refine V_bipush (pc := 40) hC dX5_join_40 (v := (-5 : Int32)) (by decide) ?_
        have hf := Option.some.inj hf; subst hf
        exact V_ireturn (pc := 42) hR rfl dX5_join_42
    · have hf := ite_t hf c2
      refine V_iconst (pc := 22) hC dX5_join_22 (v := (-1 : Int32)) (by decide) ?_
      have hf := Option.some.inj hf; subst hf
      exact V_ireturn (pc := 23) hR rfl dX5_join_23
def f_X5_leave (k : Nat) (v1 : Int32) (I : Mem) : Option (Int32 × Mem) := (if (f_X3_has 0 v1 I) = 0 then some ((-1 : Int32), I) else (if inB v1 10 = true then (if ((I (8 * 0 + 2) (Int32.toNatClampNeg v1)) &&& ((f_X5_bit v1) ^^^ (-1 : Int32))) = 0 then some ((-5 : Int32), I) else (Option.bind (f_X5_beginAct k I) (fun r4 => (Option.bind (f_X3_makeBloc k 0 ((I (8 * 0 + 2) (Int32.toNatClampNeg v1)) &&& ((f_X5_bit v1) ^^^ (-1 : Int32))) r4) (fun r5 => (Option.bind (f_X3_makeBloc k 0 (f_X5_bit v1) r5) (fun r6 => some ((f_J6_bitCount_0f7a4 ((I (8 * 0 + 2) (Int32.toNatClampNeg v1)) &&& ((f_X5_bit v1) ^^^ (-1 : Int32)))), r6)))))))) else none))
set_option maxHeartbeats 4000000 in
set_option maxRecDepth 100000 in
theorem c_X5_leave {E : EN} {k : Nat} {v1 : Int32} {I : Mem} {r : Int32 × Mem} (hf : f_X5_leave k v1 I = some r) : Ct E yX5_leave cX5_leave 3 (some .int) 5 143 [.ref (E.2.1 (48)), .int v1] I (some (.int r.1)) r.2 := by
  refine Ct_of (by decide) (Nat.le_of_ble_eq_true rfl) (fun X hC0 hR => ?_)
  have hC : Cx X E cX5_leave 3 RX5 5 143 := hC0
  change V X E 3 0 [(0, .ref (E.2.1 (48))), (1, .int v1)] [] I
  unfold f_X5_leave at hf
  refine V_aload_n (pc := 0) hC 0 dX5_leave_0 rfl rfl ?_
  refine gf_X5_10 (pc := 1) hC dX5_leave_1 ?_
  refine V_iload_n (pc := 4) hC 1 dX5_leave_4 rfl rfl ?_
  refine V_callV (pc := 5) (rest := []) (As := [.int v1]) hC lk_X5_55 (by omega) (cel_State (by decide)) rfl (c_X3_has (by decide) rfl) rfl rfl (Nat.le_of_ble_eq_true rfl) (by decide) dX5_leave_5 ?_
  change V X E 3 8 [(0, .ref (E.2.1 (48))), (1, .int v1)] [.int (f_X3_has 0 v1 I)] I
  refine V_if_ne (pc := 8) (tgt := 13) hC dX5_leave_8 (by decide) (fun c1 => ?_) (fun c1 => ?_)
  · have hf := ite_f hf c1
    refine V_aload_n (pc := 13) hC 0 dX5_leave_13 rfl rfl ?_
    refine gf_X5_10 (pc := 14) hC dX5_leave_14 ?_
    refine gf_X5_83 (pc := 17) (by decide) hC dX5_leave_17 ?_
    refine V_iload_n (pc := 20) hC 1 dX5_leave_20 rfl rfl ?_
    obtain ⟨h2, hf⟩ := if_some hf
    refine V_iald (pc := 21) hC (ia_st (by decide) (by decide) (by decide)) (inB_of h2) dX5_leave_21 ?_
    refine V_iload_n (pc := 22) hC 1 dX5_leave_22 rfl rfl ?_
    refine V_callS (pc := 23) (rest := [.int (I (8 * 0 + 2) (Int32.toNatClampNeg v1))]) (As := [.int v1]) hC lk_X5_69 (c_X5_bit  rfl) rfl rfl (Nat.le_of_ble_eq_true rfl) (by decide) dX5_leave_23 ?_
    change V X E 3 26 [(0, .ref (E.2.1 (48))), (1, .int v1)] [.int (f_X5_bit v1), .int (I (8 * 0 + 2) (Int32.toNatClampNeg v1))] I
    refine V_iconst (pc := 26) hC dX5_leave_26 (v := (-1 : Int32)) (by decide) ?_
    refine V_ixor (pc := 27) hC dX5_leave_27 ?_
    refine V_iand (pc := 28) hC dX5_leave_28 ?_
    refine V_istore_n (pc := 29) (lv' := [(2, .int ((I (8 * 0 + 2) (Int32.toNatClampNeg v1)) &&& ((f_X5_bit v1) ^^^ (-1 : Int32)))), (0, .ref (E.2.1 (48))), (1, .int v1)]) hC dX5_leave_29 rfl (by decide) rfl ?_
    refine V_iload_n (pc := 30) hC 0 dX5_leave_30 rfl rfl ?_
    refine V_if_ne (pc := 31) (tgt := 37) hC dX5_leave_31 (by decide) (fun c3 => ?_) (fun c3 => ?_)
    · have hf := ite_f hf c3
      refine V_aload_n (pc := 37) hC 1 dX5_leave_37 rfl rfl ?_
      obtain ⟨r4, g4, hf⟩ := bind_some hf
      refine V_callV (pc := 38) (rest := []) (As := []) hC lk_X5_48 (by decide) cel_X5 rfl (c_X5_beginAct  g4) rfl rfl (Nat.le_of_ble_eq_true rfl) (by decide) dX5_leave_38 ?_
      change V X E 3 41 [(2, .int ((I (8 * 0 + 2) (Int32.toNatClampNeg v1)) &&& ((f_X5_bit v1) ^^^ (-1 : Int32)))), (0, .ref (E.2.1 (48))), (1, .int v1)] [] r4
      refine V_aload_n (pc := 41) hC 1 dX5_leave_41 rfl rfl ?_
      refine gf_X5_10 (pc := 42) hC dX5_leave_42 ?_
      refine V_iload_n (pc := 45) hC 0 dX5_leave_45 rfl rfl ?_
      obtain ⟨r5, g5, hf⟩ := bind_some hf
      refine V_callV (pc := 46) (rest := []) (As := [.int ((I (8 * 0 + 2) (Int32.toNatClampNeg v1)) &&& ((f_X5_bit v1) ^^^ (-1 : Int32)))]) hC lk_X5_90 (by omega) (cel_State (by decide)) rfl (c_X3_makeBloc (by decide) g5) rfl rfl (Nat.le_of_ble_eq_true rfl) (by decide) dX5_leave_46 ?_
      change V X E 3 49 [(2, .int ((I (8 * 0 + 2) (Int32.toNatClampNeg v1)) &&& ((f_X5_bit v1) ^^^ (-1 : Int32)))), (0, .ref (E.2.1 (48))), (1, .int v1)] [] r5
      refine V_aload_n (pc := 49) hC 1 dX5_leave_49 rfl rfl ?_
      refine gf_X5_10 (pc := 50) hC dX5_leave_50 ?_
      refine V_iload_n (pc := 53) hC 2 dX5_leave_53 rfl rfl ?_
      refine V_callS (pc := 54) (rest := [.ref (E.2.1 (8 * 0))]) (As := [.int v1]) hC lk_X5_69 (c_X5_bit  rfl) rfl rfl (Nat.le_of_ble_eq_true rfl) (by decide) dX5_leave_54 ?_
      change V X E 3 57 [(2, .int ((I (8 * 0 + 2) (Int32.toNatClampNeg v1)) &&& ((f_X5_bit v1) ^^^ (-1 : Int32)))), (0, .ref (E.2.1 (48))), (1, .int v1)] [.int (f_X5_bit v1), .ref (E.2.1 (8 * 0))] r5
      obtain ⟨r6, g6, hf⟩ := bind_some hf
      refine V_callV (pc := 57) (rest := []) (As := [.int (f_X5_bit v1)]) hC lk_X5_90 (by omega) (cel_State (by decide)) rfl (c_X3_makeBloc (by decide) g6) rfl rfl (Nat.le_of_ble_eq_true rfl) (by decide) dX5_leave_57 ?_
      change V X E 3 60 [(2, .int ((I (8 * 0 + 2) (Int32.toNatClampNeg v1)) &&& ((f_X5_bit v1) ^^^ (-1 : Int32)))), (0, .ref (E.2.1 (48))), (1, .int v1)] [] r6
      refine V_iload_n (pc := 60) hC 0 dX5_leave_60 rfl rfl ?_
      refine V_callS (pc := 61) (rest := []) (As := [.int ((I (8 * 0 + 2) (Int32.toNatClampNeg v1)) &&& ((f_X5_bit v1) ^^^ (-1 : Int32)))]) hC lk_X5_72 (c_J6_bitCount_0f7a4  rfl) rfl rfl (Nat.le_of_ble_eq_true rfl) (by decide) dX5_leave_61 ?_
      change V X E 3 64 [(2, .int ((I (8 * 0 + 2) (Int32.toNatClampNeg v1)) &&& ((f_X5_bit v1) ^^^ (-1 : Int32)))), (0, .ref (E.2.1 (48))), (1, .int v1)] [.int (f_J6_bitCount_0f7a4 ((I (8 * 0 + 2) (Int32.toNatClampNeg v1)) &&& ((f_X5_bit v1) ^^^ (-1 : Int32))))] r6
      have hf := Option.some.inj hf; subst hf
      exact V_ireturn (pc := 64) hR rfl dX5_leave_64
    · have hf := ite_t hf c3
      refine V_bipush (pc := 34) hC dX5_leave_34 (v := (-5 : Int32)) (by decide) ?_
      have hf := Option.some.inj hf; subst hf
      exact V_ireturn (pc := 36) hR rfl dX5_leave_36
  · have hf := ite_t hf c1
    refine V_iconst (pc := 11) hC dX5_leave_11 (v := (-1 : Int32)) (by decide) ?_
    have hf := Option.some.inj hf; subst hf
    exact V_ireturn (pc := 12) hR rfl dX5_leave_12
def f_X5_type (k : Nat) (v1 : Int32) (I : Mem) : Option (Int32 × Mem) := (if (I (51) 1) < (nI 60) then (Option.bind (f_X4_append k v1 I) (fun r2 => some (r2 (51) 1, r2))) else some ((-3 : Int32), I))
set_option maxHeartbeats 4000000 in
set_option maxRecDepth 100000 in
theorem c_X5_type {E : EN} {k : Nat} {v1 : Int32} {I : Mem} {r : Int32 × Mem} (hf : f_X5_type k v1 I = some r) : Ct E yX5_type cX5_type 2 (some .int) 1 21 [.ref (E.2.1 (48)), .int v1] I (some (.int r.1)) r.2 := by
  refine Ct_of (by decide) (Nat.le_of_ble_eq_true rfl) (fun X hC0 hR => ?_)
  have hC : Cx X E cX5_type 2 RX5 1 21 := hC0
  change V X E 2 0 [(0, .ref (E.2.1 (48))), (1, .int v1)] [] I
  unfold f_X5_type at hf
  refine V_aload_n (pc := 0) hC 0 dX5_type_0 rfl rfl ?_
  refine gf_X5_29 (pc := 1) hC dX5_type_1 ?_
  refine gf_X5_93 (pc := 4) hC dX5_type_4 ?_
  refine V_bipush (pc := 7) hC dX5_type_7 (v := (nI 60)) (by decide) ?_
  refine V_icmp_lt (pc := 9) (tgt := 15) hC dX5_type_9 (by decide) (fun c1 => ?_) (fun c1 => ?_)
  · have hf := ite_t hf c1
    refine V_aload_n (pc := 15) hC 0 dX5_type_15 rfl rfl ?_
    refine gf_X5_29 (pc := 16) hC dX5_type_16 ?_
    refine V_iload_n (pc := 19) hC 1 dX5_type_19 rfl rfl ?_
    obtain ⟨r2, g2, hf⟩ := bind_some hf
    refine V_callV (pc := 20) (rest := []) (As := [.int v1]) hC lk_X5_96 (by decide) cel_X4 rfl (c_X4_append  g2) rfl rfl (Nat.le_of_ble_eq_true rfl) (by decide) dX5_type_20 ?_
    change V X E 2 23 [(0, .ref (E.2.1 (48))), (1, .int v1)] [] r2
    refine V_aload_n (pc := 23) hC 0 dX5_type_23 rfl rfl ?_
    refine gf_X5_29 (pc := 24) hC dX5_type_24 ?_
    refine gf_X5_93 (pc := 27) hC dX5_type_27 ?_
    have hf := Option.some.inj hf; subst hf
    exact V_ireturn (pc := 30) hR rfl dX5_type_30
  · have hf := ite_f hf c1
    refine V_bipush (pc := 12) hC dX5_type_12 (v := (-3 : Int32)) (by decide) ?_
    have hf := Option.some.inj hf; subst hf
    exact V_ireturn (pc := 14) hR rfl dX5_type_14
def f_X5_clearText (k : Nat) (I : Mem) : Option (Int32 × Mem) := some (I (51) 1, up2 I (51) 1 (nI 0))
set_option maxHeartbeats 4000000 in
set_option maxRecDepth 100000 in
theorem c_X5_clearText {E : EN} {k : Nat} {I : Mem} {r : Int32 × Mem} (hf : f_X5_clearText k I = some r) : Ct E yX5_clearText cX5_clearText 2 (some .int) 0 0 [.ref (E.2.1 (48))] I (some (.int r.1)) r.2 := by
  refine Ct_of (by decide) (Nat.le_of_ble_eq_true rfl) (fun X hC0 hR => ?_)
  have hC : Cx X E cX5_clearText 2 RX5 0 0 := hC0
  change V X E 2 0 [(0, .ref (E.2.1 (48)))] [] I
  unfold f_X5_clearText at hf
  refine V_aload_n (pc := 0) hC 0 dX5_clearText_0 rfl rfl ?_
  refine gf_X5_29 (pc := 1) hC dX5_clearText_1 ?_
  refine gf_X5_93 (pc := 4) hC dX5_clearText_4 ?_
  refine V_istore_n (pc := 7) (lv' := [(1, .int (I (51) 1)), (0, .ref (E.2.1 (48)))]) hC dX5_clearText_7 rfl (by decide) rfl ?_
  refine V_aload_n (pc := 8) hC 1 dX5_clearText_8 rfl rfl ?_
  refine gf_X5_29 (pc := 9) hC dX5_clearText_9 ?_
  refine V_iconst (pc := 12) hC dX5_clearText_12 (v := (nI 0)) (by decide) ?_
  refine pf_X5_93 (pc := 13) hC dX5_clearText_13 ?_
  refine V_iload_n (pc := 16) hC 0 dX5_clearText_16 rfl rfl ?_
  have hf := Option.some.inj hf; subst hf
  exact V_ireturn (pc := 17) hR rfl dX5_clearText_17
def f_X5_vote_42 (k : Nat) (v2 : Int32) : Nat → Int32 → Mem → Option (Int32 × Mem)
  | 0, _, _ => none
  | n + 1, v3, I => (if (I (51) 1) ≤ v3 then some ((I (8 * 0 + 4) 1) - v2, I) else (Option.bind (f_X3_hold k 0 v3 I) (fun r5 => (f_X5_vote_42 k v2 n) (v3 + ((r5 (8 * 0) 0) + (nI 1))) r5)))
set_option maxHeartbeats 4000000 in
set_option maxRecDepth 100000 in
theorem b_X5_vote_42 {X : XT} {E : EN} {k : Nat} {v2 : Int32} {r : Int32 × Mem} (hC : Cx X E cX5_vote 4 RX5 6 143) (hR : Rt X E cX5_vote (some .int) (some (.int r.1)) r.2) : ∀ (n : Nat) (v3 : Int32) (I : Mem), f_X5_vote_42 k v2 n v3 I = some r → V X E 4 42 [(0, .ref (E.2.1 (48))), (2, .int v2), (3, .int v3)] [] I := by
  intro n
  induction n with
  | zero =>
    intro v3 I hf
    rw [f_X5_vote_42] at hf
    cases hf
  | succ n ih =>
    intro v3 I hf
    rw [f_X5_vote_42] at hf
    refine V_iload_n (pc := 42) hC 2 dX5_vote_42 rfl rfl ?_
    refine V_aload_n (pc := 43) hC 0 dX5_vote_43 rfl rfl ?_
    refine gf_X5_29 (pc := 44) hC dX5_vote_44 ?_
    refine gf_X5_93 (pc := 47) hC dX5_vote_47 ?_
    refine V_icmp_ge (pc := 50) (tgt := 80) hC dX5_vote_50 (by decide) (fun c4 => ?_) (fun c4 => ?_)
    · have hf := ite_t hf c4
      refine V_aload_n (pc := 80) hC 0 dX5_vote_80 rfl rfl ?_
      refine gf_X5_10 (pc := 81) hC dX5_vote_81 ?_
      refine gf_X5_102 (pc := 84) (by decide) hC dX5_vote_84 ?_
      refine gf_X5_106 (pc := 87) (by decide) hC dX5_vote_87 ?_
      refine V_iload_n (pc := 90) hC 1 dX5_vote_90 rfl rfl ?_
      refine V_isub (pc := 91) hC dX5_vote_91 ?_
      have hf := Option.some.inj hf; subst hf
      exact V_ireturn (pc := 92) hR rfl dX5_vote_92
    · have hf := ite_f hf c4
      refine V_aload_n (pc := 53) hC 0 dX5_vote_53 rfl rfl ?_
      refine gf_X5_10 (pc := 54) hC dX5_vote_54 ?_
      refine V_aload_n (pc := 57) hC 0 dX5_vote_57 rfl rfl ?_
      refine gf_X5_29 (pc := 58) hC dX5_vote_58 ?_
      refine V_iload_n (pc := 61) hC 2 dX5_vote_61 rfl rfl ?_
      obtain ⟨r5, g5, hf⟩ := bind_some hf
      refine V_callV (pc := 62) (rest := []) (As := [.ref (E.2.1 (51)), .int v3]) hC lk_X5_111 (by omega) (cel_State (by decide)) rfl (c_X3_hold (by decide) g5) rfl rfl (Nat.le_of_ble_eq_true rfl) (by decide) dX5_vote_62 ?_
      change V X E 4 65 [(0, .ref (E.2.1 (48))), (2, .int v2), (3, .int v3)] [] r5
      refine V_iload_n (pc := 65) hC 2 dX5_vote_65 rfl rfl ?_
      refine V_aload_n (pc := 66) hC 0 dX5_vote_66 rfl rfl ?_
      refine gf_X5_10 (pc := 67) hC dX5_vote_67 ?_
      refine gf_X5_44 (pc := 70) (by decide) hC dX5_vote_70 ?_
      refine V_iconst (pc := 73) hC dX5_vote_73 (v := (nI 1)) (by decide) ?_
      refine V_iadd (pc := 74) hC dX5_vote_74 ?_
      refine V_iadd (pc := 75) hC dX5_vote_75 ?_
      refine V_istore_n (pc := 76) (lv' := [(3, .int (v3 + ((r5 (8 * 0) 0) + (nI 1)))), (0, .ref (E.2.1 (48))), (2, .int v2)]) hC dX5_vote_76 rfl (by decide) rfl ?_
      refine V_goto (pc := 77) (tgt := 42) hC dX5_vote_77 (by decide) ?_
      refine V_sub (pc := 42) (lv' := [(0, .ref (E.2.1 (48))), (2, .int v2), (3, .int (v3 + ((r5 (8 * 0) 0) + (nI 1))))]) [1, 2, 0] rfl ?_
      exact ih (v3 + ((r5 (8 * 0) 0) + (nI 1))) r5 hf
def f_X5_vote (k : Nat) (I : Mem) : Option (Int32 × Mem) := (Option.bind (f_X4_fault k (I (8 * 0) 0) I) (fun r1 => (if r1 = (-1 : Int32) then (Option.bind (f_X5_beginAct k I) (fun r3 => f_X5_vote_42 k (r3 (8 * 0 + 4) 1) k (nI 0) r3)) else some ((-100 : Int32) - r1, I))))
set_option maxHeartbeats 4000000 in
set_option maxRecDepth 100000 in
theorem c_X5_vote {E : EN} {k : Nat} {I : Mem} {r : Int32 × Mem} (hf : f_X5_vote k I = some r) : Ct E yX5_vote cX5_vote 4 (some .int) 6 143 [.ref (E.2.1 (48))] I (some (.int r.1)) r.2 := by
  refine Ct_of (by decide) (Nat.le_of_ble_eq_true rfl) (fun X hC0 hR => ?_)
  have hC : Cx X E cX5_vote 4 RX5 6 143 := hC0
  change V X E 4 0 [(0, .ref (E.2.1 (48)))] [] I
  unfold f_X5_vote at hf
  refine V_aload_n (pc := 0) hC 0 dX5_vote_0 rfl rfl ?_
  refine gf_X5_29 (pc := 1) hC dX5_vote_1 ?_
  refine V_aload_n (pc := 4) hC 0 dX5_vote_4 rfl rfl ?_
  refine gf_X5_10 (pc := 5) hC dX5_vote_5 ?_
  refine gf_X5_44 (pc := 8) (by decide) hC dX5_vote_8 ?_
  obtain ⟨r1, g1, hf⟩ := bind_some hf
  refine V_callV (pc := 11) (rest := []) (As := [.int (I (8 * 0) 0)]) hC lk_X5_99 (by decide) cel_X4 rfl (c_X4_fault  g1) rfl rfl (Nat.le_of_ble_eq_true rfl) (by decide) dX5_vote_11 ?_
  change V X E 4 14 [(0, .ref (E.2.1 (48)))] [.int r1] I
  refine V_istore_n (pc := 14) (lv' := [(1, .int r1), (0, .ref (E.2.1 (48)))]) hC dX5_vote_14 rfl (by decide) rfl ?_
  refine V_iload_n (pc := 15) hC 0 dX5_vote_15 rfl rfl ?_
  refine V_iconst (pc := 16) hC dX5_vote_16 (v := (-1 : Int32)) (by decide) ?_
  refine V_icmp_eq (pc := 17) (tgt := 25) hC dX5_vote_17 (by decide) (fun c2 => ?_) (fun c2 => ?_)
  · have hf := ite_t hf c2
    refine V_aload_n (pc := 25) hC 1 dX5_vote_25 rfl rfl ?_
    obtain ⟨r3, g3, hf⟩ := bind_some hf
    refine V_callV (pc := 26) (rest := []) (As := []) hC lk_X5_48 (by decide) cel_X5 rfl (c_X5_beginAct  g3) rfl rfl (Nat.le_of_ble_eq_true rfl) (by decide) dX5_vote_26 ?_
    change V X E 4 29 [(1, .int r1), (0, .ref (E.2.1 (48)))] [] r3
    refine V_aload_n (pc := 29) hC 1 dX5_vote_29 rfl rfl ?_
    refine gf_X5_10 (pc := 30) hC dX5_vote_30 ?_
    refine gf_X5_102 (pc := 33) (by decide) hC dX5_vote_33 ?_
    refine gf_X5_106 (pc := 36) (by decide) hC dX5_vote_36 ?_
    refine V_istore_n (pc := 39) (lv' := [(2, .int (r3 (8 * 0 + 4) 1)), (1, .int r1), (0, .ref (E.2.1 (48)))]) hC dX5_vote_39 rfl (by decide) rfl ?_
    refine V_iconst (pc := 40) hC dX5_vote_40 (v := (nI 0)) (by decide) ?_
    refine V_istore_n (pc := 41) (lv' := [(3, .int (nI 0)), (2, .int (r3 (8 * 0 + 4) 1)), (1, .int r1), (0, .ref (E.2.1 (48)))]) hC dX5_vote_41 rfl (by decide) rfl ?_
    refine V_sub (pc := 42) (lv' := [(0, .ref (E.2.1 (48))), (2, .int (r3 (8 * 0 + 4) 1)), (3, .int (nI 0))]) [3, 1, 0] rfl ?_
    exact b_X5_vote_42 hC hR k (nI 0) r3 hf
  · have hf := ite_f hf c2
    refine V_bipush (pc := 20) hC dX5_vote_20 (v := (-100 : Int32)) (by decide) ?_
    refine V_iload_n (pc := 22) hC 0 dX5_vote_22 rfl rfl ?_
    refine V_isub (pc := 23) hC dX5_vote_23 ?_
    have hf := Option.some.inj hf; subst hf
    exact V_ireturn (pc := 24) hR rfl dX5_vote_24
def f_X5_undo (k : Nat) (I : Mem) : Option (Int32 × Mem) := (if (I (49) 1) = 0 then some ((-5 : Int32), I) else (Option.bind (f_X1_takeLatest k 0 I) (fun r2 => some ((up2 r2 (48) 6 (nI 0)) (49) 1, up2 r2 (48) 6 (nI 0)))))
set_option maxHeartbeats 4000000 in
set_option maxRecDepth 100000 in
theorem c_X5_undo {E : EN} {k : Nat} {I : Mem} {r : Int32 × Mem} (hf : f_X5_undo k I = some r) : Ct E yX5_undo cX5_undo 1 (some .int) 4 123 [.ref (E.2.1 (48))] I (some (.int r.1)) r.2 := by
  refine Ct_of (by decide) (Nat.le_of_ble_eq_true rfl) (fun X hC0 hR => ?_)
  have hC : Cx X E cX5_undo 1 RX5 4 123 := hC0
  change V X E 1 0 [(0, .ref (E.2.1 (48)))] [] I
  unfold f_X5_undo at hf
  refine V_aload_n (pc := 0) hC 0 dX5_undo_0 rfl rfl ?_
  refine gf_X5_22 (pc := 1) hC dX5_undo_1 ?_
  refine gf_X5_115 (pc := 4) hC dX5_undo_4 ?_
  refine V_if_ne (pc := 7) (tgt := 13) hC dX5_undo_7 (by decide) (fun c1 => ?_) (fun c1 => ?_)
  · have hf := ite_f hf c1
    refine V_aload_n (pc := 13) hC 0 dX5_undo_13 rfl rfl ?_
    refine gf_X5_22 (pc := 14) hC dX5_undo_14 ?_
    refine V_aload_n (pc := 17) hC 0 dX5_undo_17 rfl rfl ?_
    refine gf_X5_10 (pc := 18) hC dX5_undo_18 ?_
    obtain ⟨r2, g2, hf⟩ := bind_some hf
    refine V_callV (pc := 21) (rest := []) (As := [.ref (E.2.1 (8 * 0))]) hC lk_X5_118 (by decide) cel_X1 rfl (c_X1_takeLatest (by decide) g2) rfl rfl (Nat.le_of_ble_eq_true rfl) (by decide) dX5_undo_21 ?_
    change V X E 1 24 [(0, .ref (E.2.1 (48)))] [] r2
    refine V_aload_n (pc := 24) hC 0 dX5_undo_24 rfl rfl ?_
    refine V_iconst (pc := 25) hC dX5_undo_25 (v := (nI 0)) (by decide) ?_
    refine pf_X5_122 (pc := 26) (by decide) (by decide) hC dX5_undo_26 ?_
    refine V_aload_n (pc := 29) hC 0 dX5_undo_29 rfl rfl ?_
    refine gf_X5_22 (pc := 30) hC dX5_undo_30 ?_
    refine gf_X5_115 (pc := 33) hC dX5_undo_33 ?_
    have hf := Option.some.inj hf; subst hf
    exact V_ireturn (pc := 36) hR rfl dX5_undo_36
  · have hf := ite_t hf c1
    refine V_bipush (pc := 10) hC dX5_undo_10 (v := (-5 : Int32)) (by decide) ?_
    have hf := Option.some.inj hf; subst hf
    exact V_ireturn (pc := 12) hR rfl dX5_undo_12
def f_X5_keep (k : Nat) (I : Mem) : Option (Int32 × Mem) := (Option.bind (f_X3_copyFrom k 1 0 I) (fun r1 => some ((up2 r1 (48) 2 (nI 1)) (8 * 0) 0, up2 r1 (48) 2 (nI 1))))
set_option maxHeartbeats 4000000 in
set_option maxRecDepth 100000 in
theorem c_X5_keep {E : EN} {k : Nat} {I : Mem} {r : Int32 × Mem} (hf : f_X5_keep k I = some r) : Ct E yX5_keep cX5_keep 1 (some .int) 3 102 [.ref (E.2.1 (48))] I (some (.int r.1)) r.2 := by
  refine Ct_of (by decide) (Nat.le_of_ble_eq_true rfl) (fun X hC0 hR => ?_)
  have hC : Cx X E cX5_keep 1 RX5 3 102 := hC0
  change V X E 1 0 [(0, .ref (E.2.1 (48)))] [] I
  unfold f_X5_keep at hf
  refine V_aload_n (pc := 0) hC 0 dX5_keep_0 rfl rfl ?_
  refine gf_X5_16 (pc := 1) hC dX5_keep_1 ?_
  refine V_aload_n (pc := 4) hC 0 dX5_keep_4 rfl rfl ?_
  refine gf_X5_10 (pc := 5) hC dX5_keep_5 ?_
  obtain ⟨r1, g1, hf⟩ := bind_some hf
  refine V_callV (pc := 8) (rest := []) (As := [.ref (E.2.1 (8 * 0))]) hC lk_X5_126 (by omega) (cel_State (by decide)) rfl (c_X3_copyFrom (by decide) (by decide) g1) rfl rfl (Nat.le_of_ble_eq_true rfl) (by decide) dX5_keep_8 ?_
  change V X E 1 11 [(0, .ref (E.2.1 (48)))] [] r1
  refine V_aload_n (pc := 11) hC 0 dX5_keep_11 rfl rfl ?_
  refine V_iconst (pc := 12) hC dX5_keep_12 (v := (nI 1)) (by decide) ?_
  refine pf_X5_129 (pc := 13) (by decide) (by decide) hC dX5_keep_13 ?_
  refine V_aload_n (pc := 16) hC 0 dX5_keep_16 rfl rfl ?_
  refine gf_X5_10 (pc := 17) hC dX5_keep_17 ?_
  refine gf_X5_44 (pc := 20) (by decide) hC dX5_keep_20 ?_
  have hf := Option.some.inj hf; subst hf
  exact V_ireturn (pc := 23) hR rfl dX5_keep_23
def f_X5_restore (k : Nat) (I : Mem) : Option (Int32 × Mem) := (if (I (48) 2) = 0 then some ((-5 : Int32), I) else (Option.bind (f_X5_beginAct k I) (fun r2 => (Option.bind (f_X3_copyFrom k 0 1 r2) (fun r3 => some (r3 (8 * 0) 0, r3))))))
set_option maxHeartbeats 4000000 in
set_option maxRecDepth 100000 in
theorem c_X5_restore {E : EN} {k : Nat} {I : Mem} {r : Int32 × Mem} (hf : f_X5_restore k I = some r) : Ct E yX5_restore cX5_restore 1 (some .int) 5 143 [.ref (E.2.1 (48))] I (some (.int r.1)) r.2 := by
  refine Ct_of (by decide) (Nat.le_of_ble_eq_true rfl) (fun X hC0 hR => ?_)
  have hC : Cx X E cX5_restore 1 RX5 5 143 := hC0
  change V X E 1 0 [(0, .ref (E.2.1 (48)))] [] I
  unfold f_X5_restore at hf
  refine V_aload_n (pc := 0) hC 0 dX5_restore_0 rfl rfl ?_
  refine gf_X5_129 (pc := 1) hC dX5_restore_1 ?_
  refine V_if_ne (pc := 4) (tgt := 10) hC dX5_restore_4 (by decide) (fun c1 => ?_) (fun c1 => ?_)
  · have hf := ite_f hf c1
    refine V_aload_n (pc := 10) hC 0 dX5_restore_10 rfl rfl ?_
    obtain ⟨r2, g2, hf⟩ := bind_some hf
    refine V_callV (pc := 11) (rest := []) (As := []) hC lk_X5_48 (by decide) cel_X5 rfl (c_X5_beginAct  g2) rfl rfl (Nat.le_of_ble_eq_true rfl) (by decide) dX5_restore_11 ?_
    change V X E 1 14 [(0, .ref (E.2.1 (48)))] [] r2
    refine V_aload_n (pc := 14) hC 0 dX5_restore_14 rfl rfl ?_
    refine gf_X5_10 (pc := 15) hC dX5_restore_15 ?_
    refine V_aload_n (pc := 18) hC 0 dX5_restore_18 rfl rfl ?_
    refine gf_X5_16 (pc := 19) hC dX5_restore_19 ?_
    obtain ⟨r3, g3, hf⟩ := bind_some hf
    refine V_callV (pc := 22) (rest := []) (As := [.ref (E.2.1 (8 * 1))]) hC lk_X5_126 (by omega) (cel_State (by decide)) rfl (c_X3_copyFrom (by decide) (by decide) g3) rfl rfl (Nat.le_of_ble_eq_true rfl) (by decide) dX5_restore_22 ?_
    change V X E 1 25 [(0, .ref (E.2.1 (48)))] [] r3
    refine V_aload_n (pc := 25) hC 0 dX5_restore_25 rfl rfl ?_
    refine gf_X5_10 (pc := 26) hC dX5_restore_26 ?_
    refine gf_X5_44 (pc := 29) (by decide) hC dX5_restore_29 ?_
    have hf := Option.some.inj hf; subst hf
    exact V_ireturn (pc := 32) hR rfl dX5_restore_32
  · have hf := ite_t hf c1
    refine V_bipush (pc := 7) hC dX5_restore_7 (v := (-5 : Int32)) (by decide) ?_
    have hf := Option.some.inj hf; subst hf
    exact V_ireturn (pc := 9) hR rfl dX5_restore_9
def f_X5_currentPower (k : Nat) (I : Mem) : Option (Mem) := (if (I (48) 6) = 0 then (Option.bind (f_X2_workOut k 0 I) (fun r2 => some (up2 r2 (48) 6 (nI 1)))) else some I)
set_option maxHeartbeats 4000000 in
set_option maxRecDepth 100000 in
theorem c_X5_currentPower {E : EN} {k : Nat} {I : Mem} {r : Mem} (hf : f_X5_currentPower k I = some r) : Ct E yX5_currentPower cX5_currentPower 1 (some (.object "SwingWeights$Power")) 5 108 [.ref (E.2.1 (48))] I (some (.ref (E.2.1 (53)))) r := by
  refine Ct_of (by decide) (Nat.le_of_ble_eq_true rfl) (fun X hC0 hR => ?_)
  have hC : Cx X E cX5_currentPower 1 RX5 5 108 := hC0
  change V X E 1 0 [(0, .ref (E.2.1 (48)))] [] I
  unfold f_X5_currentPower at hf
  refine V_aload_n (pc := 0) hC 0 dX5_currentPower_0 rfl rfl ?_
  refine gf_X5_122 (pc := 1) hC dX5_currentPower_1 ?_
  refine V_if_ne (pc := 4) (tgt := 23) hC dX5_currentPower_4 (by decide) (fun c1 => ?_) (fun c1 => ?_)
  · have hf := ite_f hf c1
    refine V_aload_n (pc := 23) hC 0 dX5_currentPower_23 rfl rfl ?_
    refine gf_X5_36 (pc := 24) hC dX5_currentPower_24 ?_
    have hf := Option.some.inj hf; subst hf
    exact V_areturn (pc := 27) hR ⟨_, rfl⟩ dX5_currentPower_27
  · have hf := ite_t hf c1
    refine V_aload_n (pc := 7) hC 0 dX5_currentPower_7 rfl rfl ?_
    refine gf_X5_36 (pc := 8) hC dX5_currentPower_8 ?_
    refine V_aload_n (pc := 11) hC 0 dX5_currentPower_11 rfl rfl ?_
    refine gf_X5_10 (pc := 12) hC dX5_currentPower_12 ?_
    obtain ⟨r2, g2, hf⟩ := bind_some hf
    refine V_callV (pc := 15) (rest := []) (As := [.ref (E.2.1 (8 * 0))]) hC lk_X5_228 (by decide) cel_X2 rfl (c_X2_workOut (by decide) g2) rfl rfl (Nat.le_of_ble_eq_true rfl) (by decide) dX5_currentPower_15 ?_
    change V X E 1 18 [(0, .ref (E.2.1 (48)))] [] r2
    refine V_aload_n (pc := 18) hC 0 dX5_currentPower_18 rfl rfl ?_
    refine V_iconst (pc := 19) hC dX5_currentPower_19 (v := (nI 1)) (by decide) ?_
    refine pf_X5_122 (pc := 20) (by decide) (by decide) hC dX5_currentPower_20 ?_
    refine V_aload_n (pc := 23) hC 0 dX5_currentPower_23 rfl rfl ?_
    refine gf_X5_36 (pc := 24) hC dX5_currentPower_24 ?_
    have hf := Option.some.inj hf; subst hf
    exact V_areturn (pc := 27) hR ⟨_, rfl⟩ dX5_currentPower_27
def f_X5_isAhead (k : Nat) (v1 : Int32) (v2 : Int32) (I : Mem) : Option (Int32) := (Option.bind (f_X2_swings k v1 (I (8 * 0) 1) I) (fun r1 => (Option.bind (f_X2_swings k v2 (I (8 * 0) 1) I) (fun r2 => (if (f_J6_compare_7cf53 r1 r2) = 0 then (if inB v1 10 = true then (if inB v2 10 = true then (if (f_J6_compare_7cf53 (I (8 * 0 + 1) (Int32.toNatClampNeg v1)) (I (8 * 0 + 1) (Int32.toNatClampNeg v2))) = 0 then (if v2 ≤ v1 then some (nI 0) else some (nI 1)) else (if (f_J6_compare_7cf53 (I (8 * 0 + 1) (Int32.toNatClampNeg v1)) (I (8 * 0 + 1) (Int32.toNatClampNeg v2))) ≤ 0 then some (nI 0) else some (nI 1))) else none) else none) else (if (f_J6_compare_7cf53 r1 r2) ≤ 0 then some (nI 0) else some (nI 1)))))))
set_option maxHeartbeats 4000000 in
set_option maxRecDepth 100000 in
theorem c_X5_isAhead {E : EN} {k : Nat} {v1 : Int32} {v2 : Int32} {I : Mem} {r : Int32} (hf : f_X5_isAhead k v1 v2 I = some r) : Ct E yX5_isAhead cX5_isAhead 6 (some .boolean) 1 24 [.ref (E.2.1 (48)), .int v1, .int v2, .ref (E.2.1 (53))] I (some (.int r)) I := by
  refine Ct_of (by decide) (Nat.le_of_ble_eq_true rfl) (fun X hC0 hR => ?_)
  have hC : Cx X E cX5_isAhead 6 RX5 1 24 := hC0
  change V X E 6 0 [(0, .ref (E.2.1 (48))), (1, .int v1), (2, .int v2), (3, .ref (E.2.1 (53)))] [] I
  unfold f_X5_isAhead at hf
  refine V_aload_n (pc := 0) hC 3 dX5_isAhead_0 rfl rfl ?_
  refine V_iload_n (pc := 1) hC 1 dX5_isAhead_1 rfl rfl ?_
  refine V_aload_n (pc := 2) hC 0 dX5_isAhead_2 rfl rfl ?_
  refine gf_X5_10 (pc := 3) hC dX5_isAhead_3 ?_
  refine gf_X5_80 (pc := 6) (by decide) hC dX5_isAhead_6 ?_
  obtain ⟨r1, g1, hf⟩ := bind_some hf
  refine V_callV (pc := 9) (rest := []) (As := [.int v1, .int (I (8 * 0) 1)]) hC lk_X5_149 (by decide) cel_X2 rfl (c_X2_swings  g1) rfl rfl (Nat.le_of_ble_eq_true rfl) (by decide) dX5_isAhead_9 ?_
  change V X E 6 12 [(0, .ref (E.2.1 (48))), (1, .int v1), (2, .int v2), (3, .ref (E.2.1 (53)))] [.int r1] I
  refine V_aload_n (pc := 12) hC 3 dX5_isAhead_12 rfl rfl ?_
  refine V_iload_n (pc := 13) hC 2 dX5_isAhead_13 rfl rfl ?_
  refine V_aload_n (pc := 14) hC 0 dX5_isAhead_14 rfl rfl ?_
  refine gf_X5_10 (pc := 15) hC dX5_isAhead_15 ?_
  refine gf_X5_80 (pc := 18) (by decide) hC dX5_isAhead_18 ?_
  obtain ⟨r2, g2, hf⟩ := bind_some hf
  refine V_callV (pc := 21) (rest := [.int r1]) (As := [.int v2, .int (I (8 * 0) 1)]) hC lk_X5_149 (by decide) cel_X2 rfl (c_X2_swings  g2) rfl rfl (Nat.le_of_ble_eq_true rfl) (by decide) dX5_isAhead_21 ?_
  change V X E 6 24 [(0, .ref (E.2.1 (48))), (1, .int v1), (2, .int v2), (3, .ref (E.2.1 (53)))] [.int r2, .int r1] I
  refine V_callS (pc := 24) (rest := []) (As := [.int r1, .int r2]) hC lk_X5_235 (c_J6_compare_7cf53  rfl) rfl rfl (Nat.le_of_ble_eq_true rfl) (by decide) dX5_isAhead_24 ?_
  change V X E 6 27 [(0, .ref (E.2.1 (48))), (1, .int v1), (2, .int v2), (3, .ref (E.2.1 (53)))] [.int (f_J6_compare_7cf53 r1 r2)] I
  refine V_istore (pc := 27) (lv' := [(4, .int (f_J6_compare_7cf53 r1 r2)), (0, .ref (E.2.1 (48))), (1, .int v1), (2, .int v2), (3, .ref (E.2.1 (53)))]) hC dX5_isAhead_27 (by decide) rfl ?_
  refine V_iload (pc := 29) hC 0 dX5_isAhead_29 rfl ?_
  refine V_if_eq (pc := 31) (tgt := 45) hC dX5_isAhead_31 (by decide) (fun c3 => ?_) (fun c3 => ?_)
  · have hf := ite_t hf c3
    refine V_aload_n (pc := 45) hC 1 dX5_isAhead_45 rfl rfl ?_
    refine gf_X5_10 (pc := 46) hC dX5_isAhead_46 ?_
    refine gf_X5_62 (pc := 49) (by decide) hC dX5_isAhead_49 ?_
    refine V_iload_n (pc := 52) hC 2 dX5_isAhead_52 rfl rfl ?_
    obtain ⟨h4, hf⟩ := if_some hf
    refine V_iald (pc := 53) hC (ia_st (by decide) (by decide) (by decide)) (inB_of h4) dX5_isAhead_53 ?_
    refine V_aload_n (pc := 54) hC 1 dX5_isAhead_54 rfl rfl ?_
    refine gf_X5_10 (pc := 55) hC dX5_isAhead_55 ?_
    refine gf_X5_62 (pc := 58) (by decide) hC dX5_isAhead_58 ?_
    refine V_iload_n (pc := 61) hC 3 dX5_isAhead_61 rfl rfl ?_
    obtain ⟨h5, hf⟩ := if_some hf
    refine V_iald (pc := 62) hC (ia_st (by decide) (by decide) (by decide)) (inB_of h5) dX5_isAhead_62 ?_
    refine V_callS (pc := 63) (rest := []) (As := [.int (I (8 * 0 + 1) (Int32.toNatClampNeg v1)), .int (I (8 * 0 + 1) (Int32.toNatClampNeg v2))]) hC lk_X5_235 (c_J6_compare_7cf53  rfl) rfl rfl (Nat.le_of_ble_eq_true rfl) (by decide) dX5_isAhead_63 ?_
    change V X E 6 66 [(4, .int (f_J6_compare_7cf53 r1 r2)), (0, .ref (E.2.1 (48))), (1, .int v1), (2, .int v2), (3, .ref (E.2.1 (53)))] [.int (f_J6_compare_7cf53 (I (8 * 0 + 1) (Int32.toNatClampNeg v1)) (I (8 * 0 + 1) (Int32.toNatClampNeg v2)))] I
    refine V_istore (pc := 66) (lv' := [(5, .int (f_J6_compare_7cf53 (I (8 * 0 + 1) (Int32.toNatClampNeg v1)) (I (8 * 0 + 1) (Int32.toNatClampNeg v2)))), (4, .int (f_J6_compare_7cf53 r1 r2)), (0, .ref (E.2.1 (48))), (1, .int v1), (2, .int v2), (3, .ref (E.2.1 (53)))]) hC dX5_isAhead_66 (by decide) rfl ?_
    refine V_iload (pc := 68) hC 0 dX5_isAhead_68 rfl ?_
    refine V_if_eq (pc := 70) (tgt := 86) hC dX5_isAhead_70 (by decide) (fun c6 => ?_) (fun c6 => ?_)
    · have hf := ite_t hf c6
      refine V_iload_n (pc := 86) hC 3 dX5_isAhead_86 rfl rfl ?_
      refine V_iload_n (pc := 87) hC 4 dX5_isAhead_87 rfl rfl ?_
      refine V_icmp_ge (pc := 88) (tgt := 95) hC dX5_isAhead_88 (by decide) (fun c7 => ?_) (fun c7 => ?_)
      · have hf := ite_t hf c7
        refine V_iconst (pc := 95) hC dX5_isAhead_95 (v := (nI 0)) (by decide) ?_
        have hf := Option.some.inj hf; subst hf
        exact V_ireturn (pc := 96) hR (nar_z (by decide)) dX5_isAhead_96
      · have hf := ite_f hf c7
        refine V_iconst (pc := 91) hC dX5_isAhead_91 (v := (nI 1)) (by decide) ?_
        refine V_goto (pc := 92) (tgt := 96) hC dX5_isAhead_92 (by decide) ?_
        have hf := Option.some.inj hf; subst hf
        exact V_ireturn (pc := 96) hR (nar_z (by decide)) dX5_isAhead_96
    · have hf := ite_f hf c6
      refine V_iload (pc := 73) hC 0 dX5_isAhead_73 rfl ?_
      refine V_if_le (pc := 75) (tgt := 82) hC dX5_isAhead_75 (by decide) (fun c8 => ?_) (fun c8 => ?_)
      · have hf := ite_t hf c8
        refine V_iconst (pc := 82) hC dX5_isAhead_82 (v := (nI 0)) (by decide) ?_
        refine V_goto (pc := 83) (tgt := 96) hC dX5_isAhead_83 (by decide) ?_
        have hf := Option.some.inj hf; subst hf
        exact V_ireturn (pc := 96) hR (nar_z (by decide)) dX5_isAhead_96
      · have hf := ite_f hf c8
        refine V_iconst (pc := 78) hC dX5_isAhead_78 (v := (nI 1)) (by decide) ?_
        refine V_goto (pc := 79) (tgt := 96) hC dX5_isAhead_79 (by decide) ?_
        have hf := Option.some.inj hf; subst hf
        exact V_ireturn (pc := 96) hR (nar_z (by decide)) dX5_isAhead_96
  · have hf := ite_f hf c3
    refine V_iload (pc := 34) hC 0 dX5_isAhead_34 rfl ?_
    refine V_if_le (pc := 36) (tgt := 43) hC dX5_isAhead_36 (by decide) (fun c9 => ?_) (fun c9 => ?_)
    · have hf := ite_t hf c9
      refine V_iconst (pc := 43) hC dX5_isAhead_43 (v := (nI 0)) (by decide) ?_
      have hf := Option.some.inj hf; subst hf
      exact V_ireturn (pc := 44) hR (nar_z (by decide)) dX5_isAhead_44
    · have hf := ite_f hf c9
      refine V_iconst (pc := 39) hC dX5_isAhead_39 (v := (nI 1)) (by decide) ?_
      refine V_goto (pc := 40) (tgt := 44) hC dX5_isAhead_40 (by decide) ?_
      have hf := Option.some.inj hf; subst hf
      exact V_ireturn (pc := 44) hR (nar_z (by decide)) dX5_isAhead_44
def f_X5_rankOf_5 (k : Nat) (I : Mem) (v1 : Int32) : Nat → Int32 → Int32 → Option (Int32)
  | 0, _, _ => none
  | n + 1, v3, v4 => (if (I (8 * 0) 0) ≤ v4 then some v3 else (Option.bind (f_X5_isAhead k v4 v1 I) (fun r2 => (if r2 = 0 then (f_X5_rankOf_5 k I v1 n) v3 (v4 + (nI 1)) else (f_X5_rankOf_5 k I v1 n) (v3 + (nI 1)) (v4 + (nI 1))))))
set_option maxHeartbeats 4000000 in
set_option maxRecDepth 100000 in
theorem b_X5_rankOf_5 {X : XT} {E : EN} {k : Nat} {I : Mem} {v1 : Int32} {r : Int32} (hC : Cx X E cX5_rankOf 5 RX5 2 49) (hR : Rt X E cX5_rankOf (some .int) (some (.int r)) I) : ∀ (n : Nat) (v3 : Int32) (v4 : Int32), f_X5_rankOf_5 k I v1 n v3 v4 = some r → V X E 5 5 [(0, .ref (E.2.1 (48))), (1, .int v1), (2, .ref (E.2.1 (53))), (3, .int v3), (4, .int v4)] [] I := by
  intro n
  induction n with
  | zero =>
    intro v3 v4 hf
    rw [f_X5_rankOf_5] at hf
    cases hf
  | succ n ih =>
    intro v3 v4 hf
    rw [f_X5_rankOf_5] at hf
    refine V_iload (pc := 5) hC 4 dX5_rankOf_5 rfl ?_
    refine V_aload_n (pc := 7) hC 0 dX5_rankOf_7 rfl rfl ?_
    refine gf_X5_10 (pc := 8) hC dX5_rankOf_8 ?_
    refine gf_X5_44 (pc := 11) (by decide) hC dX5_rankOf_11 ?_
    refine V_icmp_ge (pc := 14) (tgt := 37) hC dX5_rankOf_14 (by decide) (fun c1 => ?_) (fun c1 => ?_)
    · have hf := ite_t hf c1
      refine V_iload_n (pc := 37) hC 3 dX5_rankOf_37 rfl rfl ?_
      have hf := Option.some.inj hf; subst hf
      exact V_ireturn (pc := 38) hR rfl dX5_rankOf_38
    · have hf := ite_f hf c1
      refine V_aload_n (pc := 17) hC 0 dX5_rankOf_17 rfl rfl ?_
      refine V_iload (pc := 18) hC 4 dX5_rankOf_18 rfl ?_
      refine V_iload_n (pc := 20) hC 1 dX5_rankOf_20 rfl rfl ?_
      refine V_aload_n (pc := 21) hC 2 dX5_rankOf_21 rfl rfl ?_
      obtain ⟨r2, g2, hf⟩ := bind_some hf
      refine V_callV (pc := 22) (rest := []) (As := [.int v4, .int v1, .ref (E.2.1 (53))]) hC lk_X5_231 (by decide) cel_X5 rfl (c_X5_isAhead  g2) rfl rfl (Nat.le_of_ble_eq_true rfl) (by decide) dX5_rankOf_22 ?_
      change V X E 5 25 [(0, .ref (E.2.1 (48))), (1, .int v1), (2, .ref (E.2.1 (53))), (3, .int v3), (4, .int v4)] [.int r2] I
      refine V_if_eq (pc := 25) (tgt := 31) hC dX5_rankOf_25 (by decide) (fun c3 => ?_) (fun c3 => ?_)
      · have hf := ite_t hf c3
        refine V_iinc (pc := 31) (lv' := [(4, .int (v4 + (nI 1))), (0, .ref (E.2.1 (48))), (1, .int v1), (2, .ref (E.2.1 (53))), (3, .int v3)]) hC (nI 1) 4 dX5_rankOf_31 rfl (by decide) (by decide) rfl ?_
        refine V_goto (pc := 34) (tgt := 5) hC dX5_rankOf_34 (by decide) ?_
        refine V_sub (pc := 5) (lv' := [(0, .ref (E.2.1 (48))), (1, .int v1), (2, .ref (E.2.1 (53))), (3, .int v3), (4, .int (v4 + (nI 1)))]) [1, 2, 3, 4, 0] rfl ?_
        exact ih v3 (v4 + (nI 1)) hf
      · have hf := ite_f hf c3
        refine V_iinc (pc := 28) (lv' := [(3, .int (v3 + (nI 1))), (0, .ref (E.2.1 (48))), (1, .int v1), (2, .ref (E.2.1 (53))), (4, .int v4)]) hC (nI 1) 3 dX5_rankOf_28 rfl (by decide) (by decide) rfl ?_
        refine V_iinc (pc := 31) (lv' := [(4, .int (v4 + (nI 1))), (3, .int (v3 + (nI 1))), (0, .ref (E.2.1 (48))), (1, .int v1), (2, .ref (E.2.1 (53)))]) hC (nI 1) 4 dX5_rankOf_31 rfl (by decide) (by decide) rfl ?_
        refine V_goto (pc := 34) (tgt := 5) hC dX5_rankOf_34 (by decide) ?_
        refine V_sub (pc := 5) (lv' := [(0, .ref (E.2.1 (48))), (1, .int v1), (2, .ref (E.2.1 (53))), (3, .int (v3 + (nI 1))), (4, .int (v4 + (nI 1)))]) [2, 3, 4, 1, 0] rfl ?_
        exact ih (v3 + (nI 1)) (v4 + (nI 1)) hf
def f_X5_rankOf (k : Nat) (v1 : Int32) (I : Mem) : Option (Int32) := f_X5_rankOf_5 k I v1 k (nI 0) (nI 0)
set_option maxHeartbeats 4000000 in
set_option maxRecDepth 100000 in
theorem c_X5_rankOf {E : EN} {k : Nat} {v1 : Int32} {I : Mem} {r : Int32} (hf : f_X5_rankOf k v1 I = some r) : Ct E yX5_rankOf cX5_rankOf 5 (some .int) 2 49 [.ref (E.2.1 (48)), .int v1, .ref (E.2.1 (53))] I (some (.int r)) I := by
  refine Ct_of (by decide) (Nat.le_of_ble_eq_true rfl) (fun X hC0 hR => ?_)
  have hC : Cx X E cX5_rankOf 5 RX5 2 49 := hC0
  change V X E 5 0 [(0, .ref (E.2.1 (48))), (1, .int v1), (2, .ref (E.2.1 (53)))] [] I
  unfold f_X5_rankOf at hf
  refine V_iconst (pc := 0) hC dX5_rankOf_0 (v := (nI 0)) (by decide) ?_
  refine V_istore_n (pc := 1) (lv' := [(3, .int (nI 0)), (0, .ref (E.2.1 (48))), (1, .int v1), (2, .ref (E.2.1 (53)))]) hC dX5_rankOf_1 rfl (by decide) rfl ?_
  refine V_iconst (pc := 2) hC dX5_rankOf_2 (v := (nI 0)) (by decide) ?_
  refine V_istore (pc := 3) (lv' := [(4, .int (nI 0)), (3, .int (nI 0)), (0, .ref (E.2.1 (48))), (1, .int v1), (2, .ref (E.2.1 (53)))]) hC dX5_rankOf_3 (by decide) rfl ?_
  refine V_sub (pc := 5) (lv' := [(0, .ref (E.2.1 (48))), (1, .int v1), (2, .ref (E.2.1 (53))), (3, .int (nI 0)), (4, .int (nI 0))]) [2, 3, 4, 1, 0] rfl ?_
  exact b_X5_rankOf_5 hC hR k (nI 0) (nI 0) hf
def f_X5_member (k : Nat) (v1 : Int32) (v2 : Int32) (I : Mem) : Option (Int32 × Mem) := (if (f_X3_has 0 v1 I) = 0 then some ((-1 : Int32), I) else (if v2 = (nI 0) then (if inB v1 10 = true then some (I (8 * 0 + 1) (Int32.toNatClampNeg v1), I) else none) else (if v2 = (nI 1) then some ((f_X5_oneIf (f_X5_holds (I (8 * 0) 2) v1)), I) else (if v2 = (nI 2) then (Option.bind (f_X3_lowestBeside k 0 v1 I) (fun r6 => some (r6, I))) else (if v2 = (nI 3) then (if inB v1 10 = true then (Option.bind (f_X3_weightOf k 0 (I (8 * 0 + 2) (Int32.toNatClampNeg v1)) I) (fun r9 => some (r9, I))) else none) else (if v2 = (nI 4) then (Option.bind (f_X3_leaderOf k 0 v1 I) (fun r11 => some (r11, I))) else (if v2 = (nI 5) then (Option.bind (f_X5_currentPower k I) (fun r13 => (Option.bind (f_X2_swings k v1 (r13 (8 * 0) 1) r13) (fun r14 => some (r14, r13))))) else (if v2 = (nI 6) then (Option.bind (f_X5_currentPower k I) (fun r16 => (Option.bind (f_X2_orders k v1 r16) (fun r17 => some (r17, r16))))) else (if v2 = (nI 7) then (Option.bind (f_X5_currentPower k I) (fun r19 => (Option.bind (f_X2_isDummy k v1 (r19 (8 * 0) 1) r19) (fun r20 => some ((f_X5_oneIf r20), r19))))) else (if v2 = (nI 8) then (Option.bind (f_X5_currentPower k I) (fun r22 => (Option.bind (f_X2_isBlocker k v1 (r22 (8 * 0) 1) r22) (fun r23 => some ((f_X5_oneIf r23), r22))))) else (if v2 = (nI 9) then (Option.bind (f_X5_currentPower k I) (fun r25 => (Option.bind (f_X2_isDictator k v1 r25) (fun r26 => some ((f_X5_oneIf r26), r25))))) else (if v2 = (nI 10) then (Option.bind (f_X5_currentPower k I) (fun r28 => (Option.bind (f_X5_rankOf k v1 r28) (fun r29 => some (r29, r28))))) else (if v2 = (nI 11) then (if inB v1 10 = true then some (I (8 * 0 + 3) (Int32.toNatClampNeg v1), I) else none) else some ((-2 : Int32), I))))))))))))))
set_option maxHeartbeats 4000000 in
set_option maxRecDepth 100000 in
theorem c_X5_member {E : EN} {k : Nat} {v1 : Int32} {v2 : Int32} {I : Mem} {r : Int32 × Mem} (hf : f_X5_member k v1 v2 I = some r) : Ct E yX5_member cX5_member 3 (some .int) 6 128 [.ref (E.2.1 (48)), .int v1, .int v2] I (some (.int r.1)) r.2 := by
  refine Ct_of (by decide) (Nat.le_of_ble_eq_true rfl) (fun X hC0 hR => ?_)
  have hC : Cx X E cX5_member 3 RX5 6 128 := hC0
  change V X E 3 0 [(0, .ref (E.2.1 (48))), (1, .int v1), (2, .int v2)] [] I
  unfold f_X5_member at hf
  refine V_aload_n (pc := 0) hC 0 dX5_member_0 rfl rfl ?_
  refine gf_X5_10 (pc := 1) hC dX5_member_1 ?_
  refine V_iload_n (pc := 4) hC 1 dX5_member_4 rfl rfl ?_
  refine V_callV (pc := 5) (rest := []) (As := [.int v1]) hC lk_X5_55 (by omega) (cel_State (by decide)) rfl (c_X3_has (by decide) rfl) rfl rfl (Nat.le_of_ble_eq_true rfl) (by decide) dX5_member_5 ?_
  change V X E 3 8 [(0, .ref (E.2.1 (48))), (1, .int v1), (2, .int v2)] [.int (f_X3_has 0 v1 I)] I
  refine V_if_ne (pc := 8) (tgt := 13) hC dX5_member_8 (by decide) (fun c1 => ?_) (fun c1 => ?_)
  · have hf := ite_f hf c1
    refine V_iload_n (pc := 13) hC 2 dX5_member_13 rfl rfl ?_
    by_cases c2 : v2 = (nI 0)
    · have hf := ite_t hf c2
      refine V_tableIn (pc := 14) (tgt := 76) (off := 62) hC dX5_member_14 (by rw [c2]; decide) (by rw [c2]; decide) (by rw [c2]; decide) (by decide) ?_
      refine V_aload_n (pc := 76) hC 0 dX5_member_76 rfl rfl ?_
      refine gf_X5_10 (pc := 77) hC dX5_member_77 ?_
      refine gf_X5_62 (pc := 80) (by decide) hC dX5_member_80 ?_
      refine V_iload_n (pc := 83) hC 1 dX5_member_83 rfl rfl ?_
      obtain ⟨h3, hf⟩ := if_some hf
      refine V_iald (pc := 84) hC (ia_st (by decide) (by decide) (by decide)) (inB_of h3) dX5_member_84 ?_
      have hf := Option.some.inj hf; subst hf
      exact V_ireturn (pc := 85) hR rfl dX5_member_85
    have hf := ite_f hf c2
    by_cases c4 : v2 = (nI 1)
    · have hf := ite_t hf c4
      refine V_tableIn (pc := 14) (tgt := 86) (off := 72) hC dX5_member_14 (by rw [c4]; decide) (by rw [c4]; decide) (by rw [c4]; decide) (by decide) ?_
      refine V_aload_n (pc := 86) hC 0 dX5_member_86 rfl rfl ?_
      refine gf_X5_10 (pc := 87) hC dX5_member_87 ?_
      refine gf_X5_66 (pc := 90) (by decide) hC dX5_member_90 ?_
      refine V_iload_n (pc := 93) hC 1 dX5_member_93 rfl rfl ?_
      refine V_callS (pc := 94) (rest := []) (As := [.int (I (8 * 0) 2), .int v1]) hC lk_X5_86 (c_X5_holds  rfl) rfl rfl (Nat.le_of_ble_eq_true rfl) (by decide) dX5_member_94 ?_
      change V X E 3 97 [(0, .ref (E.2.1 (48))), (1, .int v1), (2, .int v2)] [.int (f_X5_holds (I (8 * 0) 2) v1)] I
      refine V_callS (pc := 97) (rest := []) (As := [.int (f_X5_holds (I (8 * 0) 2) v1)]) hC lk_X5_132 (c_X5_oneIf  rfl) rfl rfl (Nat.le_of_ble_eq_true rfl) (by decide) dX5_member_97 ?_
      change V X E 3 100 [(0, .ref (E.2.1 (48))), (1, .int v1), (2, .int v2)] [.int (f_X5_oneIf (f_X5_holds (I (8 * 0) 2) v1))] I
      have hf := Option.some.inj hf; subst hf
      exact V_ireturn (pc := 100) hR rfl dX5_member_100
    have hf := ite_f hf c4
    by_cases c5 : v2 = (nI 2)
    · have hf := ite_t hf c5
      refine V_tableIn (pc := 14) (tgt := 101) (off := 87) hC dX5_member_14 (by rw [c5]; decide) (by rw [c5]; decide) (by rw [c5]; decide) (by decide) ?_
      refine V_aload_n (pc := 101) hC 0 dX5_member_101 rfl rfl ?_
      refine gf_X5_10 (pc := 102) hC dX5_member_102 ?_
      refine V_iload_n (pc := 105) hC 1 dX5_member_105 rfl rfl ?_
      obtain ⟨r6, g6, hf⟩ := bind_some hf
      refine V_callV (pc := 106) (rest := []) (As := [.int v1]) hC lk_X5_136 (by omega) (cel_State (by decide)) rfl (c_X3_lowestBeside (by decide) g6) rfl rfl (Nat.le_of_ble_eq_true rfl) (by decide) dX5_member_106 ?_
      change V X E 3 109 [(0, .ref (E.2.1 (48))), (1, .int v1), (2, .int v2)] [.int r6] I
      have hf := Option.some.inj hf; subst hf
      exact V_ireturn (pc := 109) hR rfl dX5_member_109
    have hf := ite_f hf c5
    by_cases c7 : v2 = (nI 3)
    · have hf := ite_t hf c7
      refine V_tableIn (pc := 14) (tgt := 110) (off := 96) hC dX5_member_14 (by rw [c7]; decide) (by rw [c7]; decide) (by rw [c7]; decide) (by decide) ?_
      refine V_aload_n (pc := 110) hC 0 dX5_member_110 rfl rfl ?_
      refine gf_X5_10 (pc := 111) hC dX5_member_111 ?_
      refine V_aload_n (pc := 114) hC 0 dX5_member_114 rfl rfl ?_
      refine gf_X5_10 (pc := 115) hC dX5_member_115 ?_
      refine gf_X5_83 (pc := 118) (by decide) hC dX5_member_118 ?_
      refine V_iload_n (pc := 121) hC 1 dX5_member_121 rfl rfl ?_
      obtain ⟨h8, hf⟩ := if_some hf
      refine V_iald (pc := 122) hC (ia_st (by decide) (by decide) (by decide)) (inB_of h8) dX5_member_122 ?_
      obtain ⟨r9, g9, hf⟩ := bind_some hf
      refine V_callV (pc := 123) (rest := []) (As := [.int (I (8 * 0 + 2) (Int32.toNatClampNeg v1))]) hC lk_X5_139 (by omega) (cel_State (by decide)) rfl (c_X3_weightOf (by decide) g9) rfl rfl (Nat.le_of_ble_eq_true rfl) (by decide) dX5_member_123 ?_
      change V X E 3 126 [(0, .ref (E.2.1 (48))), (1, .int v1), (2, .int v2)] [.int r9] I
      have hf := Option.some.inj hf; subst hf
      exact V_ireturn (pc := 126) hR rfl dX5_member_126
    have hf := ite_f hf c7
    by_cases c10 : v2 = (nI 4)
    · have hf := ite_t hf c10
      refine V_tableIn (pc := 14) (tgt := 127) (off := 113) hC dX5_member_14 (by rw [c10]; decide) (by rw [c10]; decide) (by rw [c10]; decide) (by decide) ?_
      refine V_aload_n (pc := 127) hC 0 dX5_member_127 rfl rfl ?_
      refine gf_X5_10 (pc := 128) hC dX5_member_128 ?_
      refine V_iload_n (pc := 131) hC 1 dX5_member_131 rfl rfl ?_
      obtain ⟨r11, g11, hf⟩ := bind_some hf
      refine V_callV (pc := 132) (rest := []) (As := [.int v1]) hC lk_X5_142 (by omega) (cel_State (by decide)) rfl (c_X3_leaderOf (by decide) g11) rfl rfl (Nat.le_of_ble_eq_true rfl) (by decide) dX5_member_132 ?_
      change V X E 3 135 [(0, .ref (E.2.1 (48))), (1, .int v1), (2, .int v2)] [.int r11] I
      have hf := Option.some.inj hf; subst hf
      exact V_ireturn (pc := 135) hR rfl dX5_member_135
    have hf := ite_f hf c10
    by_cases c12 : v2 = (nI 5)
    · have hf := ite_t hf c12
      refine V_tableIn (pc := 14) (tgt := 136) (off := 122) hC dX5_member_14 (by rw [c12]; decide) (by rw [c12]; decide) (by rw [c12]; decide) (by decide) ?_
      refine V_aload_n (pc := 136) hC 0 dX5_member_136 rfl rfl ?_
      obtain ⟨r13, g13, hf⟩ := bind_some hf
      refine V_callV (pc := 137) (rest := []) (As := []) hC lk_X5_145 (by decide) cel_X5 rfl (c_X5_currentPower  g13) rfl rfl (Nat.le_of_ble_eq_true rfl) (by decide) dX5_member_137 ?_
      change V X E 3 140 [(0, .ref (E.2.1 (48))), (1, .int v1), (2, .int v2)] [.ref (E.2.1 (53))] r13
      refine V_iload_n (pc := 140) hC 1 dX5_member_140 rfl rfl ?_
      refine V_aload_n (pc := 141) hC 0 dX5_member_141 rfl rfl ?_
      refine gf_X5_10 (pc := 142) hC dX5_member_142 ?_
      refine gf_X5_80 (pc := 145) (by decide) hC dX5_member_145 ?_
      obtain ⟨r14, g14, hf⟩ := bind_some hf
      refine V_callV (pc := 148) (rest := []) (As := [.int v1, .int (r13 (8 * 0) 1)]) hC lk_X5_149 (by decide) cel_X2 rfl (c_X2_swings  g14) rfl rfl (Nat.le_of_ble_eq_true rfl) (by decide) dX5_member_148 ?_
      change V X E 3 151 [(0, .ref (E.2.1 (48))), (1, .int v1), (2, .int v2)] [.int r14] r13
      have hf := Option.some.inj hf; subst hf
      exact V_ireturn (pc := 151) hR rfl dX5_member_151
    have hf := ite_f hf c12
    by_cases c15 : v2 = (nI 6)
    · have hf := ite_t hf c15
      refine V_tableIn (pc := 14) (tgt := 152) (off := 138) hC dX5_member_14 (by rw [c15]; decide) (by rw [c15]; decide) (by rw [c15]; decide) (by decide) ?_
      refine V_aload_n (pc := 152) hC 0 dX5_member_152 rfl rfl ?_
      obtain ⟨r16, g16, hf⟩ := bind_some hf
      refine V_callV (pc := 153) (rest := []) (As := []) hC lk_X5_145 (by decide) cel_X5 rfl (c_X5_currentPower  g16) rfl rfl (Nat.le_of_ble_eq_true rfl) (by decide) dX5_member_153 ?_
      change V X E 3 156 [(0, .ref (E.2.1 (48))), (1, .int v1), (2, .int v2)] [.ref (E.2.1 (53))] r16
      refine V_iload_n (pc := 156) hC 1 dX5_member_156 rfl rfl ?_
      obtain ⟨r17, g17, hf⟩ := bind_some hf
      refine V_callV (pc := 157) (rest := []) (As := [.int v1]) hC lk_X5_153 (by decide) cel_X2 rfl (c_X2_orders  g17) rfl rfl (Nat.le_of_ble_eq_true rfl) (by decide) dX5_member_157 ?_
      change V X E 3 160 [(0, .ref (E.2.1 (48))), (1, .int v1), (2, .int v2)] [.int r17] r16
      have hf := Option.some.inj hf; subst hf
      exact V_ireturn (pc := 160) hR rfl dX5_member_160
    have hf := ite_f hf c15
    by_cases c18 : v2 = (nI 7)
    · have hf := ite_t hf c18
      refine V_tableIn (pc := 14) (tgt := 161) (off := 147) hC dX5_member_14 (by rw [c18]; decide) (by rw [c18]; decide) (by rw [c18]; decide) (by decide) ?_
      refine V_aload_n (pc := 161) hC 0 dX5_member_161 rfl rfl ?_
      obtain ⟨r19, g19, hf⟩ := bind_some hf
      refine V_callV (pc := 162) (rest := []) (As := []) hC lk_X5_145 (by decide) cel_X5 rfl (c_X5_currentPower  g19) rfl rfl (Nat.le_of_ble_eq_true rfl) (by decide) dX5_member_162 ?_
      change V X E 3 165 [(0, .ref (E.2.1 (48))), (1, .int v1), (2, .int v2)] [.ref (E.2.1 (53))] r19
      refine V_iload_n (pc := 165) hC 1 dX5_member_165 rfl rfl ?_
      refine V_aload_n (pc := 166) hC 0 dX5_member_166 rfl rfl ?_
      refine gf_X5_10 (pc := 167) hC dX5_member_167 ?_
      refine gf_X5_80 (pc := 170) (by decide) hC dX5_member_170 ?_
      obtain ⟨r20, g20, hf⟩ := bind_some hf
      refine V_callV (pc := 173) (rest := []) (As := [.int v1, .int (r19 (8 * 0) 1)]) hC lk_X5_156 (by decide) cel_X2 rfl (c_X2_isDummy  g20) rfl rfl (Nat.le_of_ble_eq_true rfl) (by decide) dX5_member_173 ?_
      change V X E 3 176 [(0, .ref (E.2.1 (48))), (1, .int v1), (2, .int v2)] [.int r20] r19
      refine V_callS (pc := 176) (rest := []) (As := [.int r20]) hC lk_X5_132 (c_X5_oneIf  rfl) rfl rfl (Nat.le_of_ble_eq_true rfl) (by decide) dX5_member_176 ?_
      change V X E 3 179 [(0, .ref (E.2.1 (48))), (1, .int v1), (2, .int v2)] [.int (f_X5_oneIf r20)] r19
      have hf := Option.some.inj hf; subst hf
      exact V_ireturn (pc := 179) hR rfl dX5_member_179
    have hf := ite_f hf c18
    by_cases c21 : v2 = (nI 8)
    · have hf := ite_t hf c21
      refine V_tableIn (pc := 14) (tgt := 180) (off := 166) hC dX5_member_14 (by rw [c21]; decide) (by rw [c21]; decide) (by rw [c21]; decide) (by decide) ?_
      refine V_aload_n (pc := 180) hC 0 dX5_member_180 rfl rfl ?_
      obtain ⟨r22, g22, hf⟩ := bind_some hf
      refine V_callV (pc := 181) (rest := []) (As := []) hC lk_X5_145 (by decide) cel_X5 rfl (c_X5_currentPower  g22) rfl rfl (Nat.le_of_ble_eq_true rfl) (by decide) dX5_member_181 ?_
      change V X E 3 184 [(0, .ref (E.2.1 (48))), (1, .int v1), (2, .int v2)] [.ref (E.2.1 (53))] r22
      refine V_iload_n (pc := 184) hC 1 dX5_member_184 rfl rfl ?_
      refine V_aload_n (pc := 185) hC 0 dX5_member_185 rfl rfl ?_
      refine gf_X5_10 (pc := 186) hC dX5_member_186 ?_
      refine gf_X5_80 (pc := 189) (by decide) hC dX5_member_189 ?_
      obtain ⟨r23, g23, hf⟩ := bind_some hf
      refine V_callV (pc := 192) (rest := []) (As := [.int v1, .int (r22 (8 * 0) 1)]) hC lk_X5_159 (by decide) cel_X2 rfl (c_X2_isBlocker  g23) rfl rfl (Nat.le_of_ble_eq_true rfl) (by decide) dX5_member_192 ?_
      change V X E 3 195 [(0, .ref (E.2.1 (48))), (1, .int v1), (2, .int v2)] [.int r23] r22
      refine V_callS (pc := 195) (rest := []) (As := [.int r23]) hC lk_X5_132 (c_X5_oneIf  rfl) rfl rfl (Nat.le_of_ble_eq_true rfl) (by decide) dX5_member_195 ?_
      change V X E 3 198 [(0, .ref (E.2.1 (48))), (1, .int v1), (2, .int v2)] [.int (f_X5_oneIf r23)] r22
      have hf := Option.some.inj hf; subst hf
      exact V_ireturn (pc := 198) hR rfl dX5_member_198
    have hf := ite_f hf c21
    by_cases c24 : v2 = (nI 9)
    · have hf := ite_t hf c24
      refine V_tableIn (pc := 14) (tgt := 199) (off := 185) hC dX5_member_14 (by rw [c24]; decide) (by rw [c24]; decide) (by rw [c24]; decide) (by decide) ?_
      refine V_aload_n (pc := 199) hC 0 dX5_member_199 rfl rfl ?_
      obtain ⟨r25, g25, hf⟩ := bind_some hf
      refine V_callV (pc := 200) (rest := []) (As := []) hC lk_X5_145 (by decide) cel_X5 rfl (c_X5_currentPower  g25) rfl rfl (Nat.le_of_ble_eq_true rfl) (by decide) dX5_member_200 ?_
      change V X E 3 203 [(0, .ref (E.2.1 (48))), (1, .int v1), (2, .int v2)] [.ref (E.2.1 (53))] r25
      refine V_iload_n (pc := 203) hC 1 dX5_member_203 rfl rfl ?_
      obtain ⟨r26, g26, hf⟩ := bind_some hf
      refine V_callV (pc := 204) (rest := []) (As := [.int v1]) hC lk_X5_162 (by decide) cel_X2 rfl (c_X2_isDictator  g26) rfl rfl (Nat.le_of_ble_eq_true rfl) (by decide) dX5_member_204 ?_
      change V X E 3 207 [(0, .ref (E.2.1 (48))), (1, .int v1), (2, .int v2)] [.int r26] r25
      refine V_callS (pc := 207) (rest := []) (As := [.int r26]) hC lk_X5_132 (c_X5_oneIf  rfl) rfl rfl (Nat.le_of_ble_eq_true rfl) (by decide) dX5_member_207 ?_
      change V X E 3 210 [(0, .ref (E.2.1 (48))), (1, .int v1), (2, .int v2)] [.int (f_X5_oneIf r26)] r25
      have hf := Option.some.inj hf; subst hf
      exact V_ireturn (pc := 210) hR rfl dX5_member_210
    have hf := ite_f hf c24
    by_cases c27 : v2 = (nI 10)
    · have hf := ite_t hf c27
      refine V_tableIn (pc := 14) (tgt := 211) (off := 197) hC dX5_member_14 (by rw [c27]; decide) (by rw [c27]; decide) (by rw [c27]; decide) (by decide) ?_
      refine V_aload_n (pc := 211) hC 0 dX5_member_211 rfl rfl ?_
      refine V_iload_n (pc := 212) hC 1 dX5_member_212 rfl rfl ?_
      refine V_aload_n (pc := 213) hC 0 dX5_member_213 rfl rfl ?_
      obtain ⟨r28, g28, hf⟩ := bind_some hf
      refine V_callV (pc := 214) (rest := [.int v1, .ref (E.2.1 (48))]) (As := []) hC lk_X5_145 (by decide) cel_X5 rfl (c_X5_currentPower  g28) rfl rfl (Nat.le_of_ble_eq_true rfl) (by decide) dX5_member_214 ?_
      change V X E 3 217 [(0, .ref (E.2.1 (48))), (1, .int v1), (2, .int v2)] [.ref (E.2.1 (53)), .int v1, .ref (E.2.1 (48))] r28
      obtain ⟨r29, g29, hf⟩ := bind_some hf
      refine V_callV (pc := 217) (rest := []) (As := [.int v1, .ref (E.2.1 (53))]) hC lk_X5_165 (by decide) cel_X5 rfl (c_X5_rankOf  g29) rfl rfl (Nat.le_of_ble_eq_true rfl) (by decide) dX5_member_217 ?_
      change V X E 3 220 [(0, .ref (E.2.1 (48))), (1, .int v1), (2, .int v2)] [.int r29] r28
      have hf := Option.some.inj hf; subst hf
      exact V_ireturn (pc := 220) hR rfl dX5_member_220
    have hf := ite_f hf c27
    by_cases c30 : v2 = (nI 11)
    · have hf := ite_t hf c30
      refine V_tableIn (pc := 14) (tgt := 221) (off := 207) hC dX5_member_14 (by rw [c30]; decide) (by rw [c30]; decide) (by rw [c30]; decide) (by decide) ?_
      refine V_aload_n (pc := 221) hC 0 dX5_member_221 rfl rfl ?_
      refine gf_X5_10 (pc := 222) hC dX5_member_222 ?_
      refine gf_X5_169 (pc := 225) (by decide) hC dX5_member_225 ?_
      refine V_iload_n (pc := 228) hC 1 dX5_member_228 rfl rfl ?_
      obtain ⟨h31, hf⟩ := if_some hf
      refine V_iald (pc := 229) hC (ia_st (by decide) (by decide) (by decide)) (inB_of h31) dX5_member_229 ?_
      have hf := Option.some.inj hf; subst hf
      exact V_ireturn (pc := 230) hR rfl dX5_member_230
    have hf := ite_f hf c30
    refine V_tableOut (pc := 14) (tgt := 231) hC dX5_member_14 (by have zc2 := lv_neT c2 (a := 0) (by decide); have zc4 := lv_neT c4 (a := 1) (by decide); have zc5 := lv_neT c5 (a := 2) (by decide); have zc7 := lv_neT c7 (a := 3) (by decide); have zc10 := lv_neT c10 (a := 4) (by decide); have zc12 := lv_neT c12 (a := 5) (by decide); have zc15 := lv_neT c15 (a := 6) (by decide); have zc18 := lv_neT c18 (a := 7) (by decide); have zc21 := lv_neT c21 (a := 8) (by decide); have zc24 := lv_neT c24 (a := 9) (by decide); have zc27 := lv_neT c27 (a := 10) (by decide); have zc30 := lv_neT c30 (a := 11) (by decide); omega) (by decide) ?_
    refine V_bipush (pc := 231) hC dX5_member_231 (v := (-2 : Int32)) (by decide) ?_
    have hf := Option.some.inj hf; subst hf
    exact V_ireturn (pc := 233) hR rfl dX5_member_233
  · have hf := ite_t hf c1
    refine V_iconst (pc := 11) hC dX5_member_11 (v := (-1 : Int32)) (by decide) ?_
    have hf := Option.some.inj hf; subst hf
    exact V_ireturn (pc := 12) hR rfl dX5_member_12
def f_X5_greatestDivisor_34 (k : Nat) (v2 : Int32) : Option (Int32) := some (if v2 < (nI 1) then (nI 1) else v2)
set_option maxHeartbeats 4000000 in
set_option maxRecDepth 100000 in
theorem b_X5_greatestDivisor_34 {X : XT} {E : EN} {k : Nat} {I : Mem} {v2 : Int32} {r : Int32} (hC : Cx X E cX5_greatestDivisor 6 RX5 1 21) (hR : Rt X E cX5_greatestDivisor (some .int) (some (.int r)) I) (hf : f_X5_greatestDivisor_34 k v2 = some r) : V X E 6 34 [(2, .int v2)] [] I := by
  unfold f_X5_greatestDivisor_34 at hf
  refine V_iload_n (pc := 34) hC 0 dX5_greatestDivisor_34 rfl rfl ?_
  refine V_iconst (pc := 35) hC dX5_greatestDivisor_35 (v := (nI 1)) (by decide) ?_
  refine V_max (pc := 36) hC lk_X5_241.1.1 lk_X5_241.1.2 lk_X5_241.2.1 lk_X5_241.2.2 (by decide) (Nat.le_of_ble_eq_true rfl) dX5_greatestDivisor_36 ?_
  have hf := Option.some.inj hf; subst hf
  exact V_ireturn (pc := 39) hR rfl dX5_greatestDivisor_39
def f_X5_greatestDivisor_7 (k : Nat) : Nat → Int32 → Int32 → Int32 → Option (Int32)
  | 0, _, _, _ => none
  | n + 1, v2, v3, v4 => (if (nI 64) ≤ v4 then f_X5_greatestDivisor_34 k v2 else (if v3 = 0 then f_X5_greatestDivisor_34 k v2 else (if ¬ v3 = 0 then (f_X5_greatestDivisor_7 k n) v3 (v2 - v2 / v3 * v3) (v4 + (nI 1)) else none)))
set_option maxHeartbeats 4000000 in
set_option maxRecDepth 100000 in
theorem b_X5_greatestDivisor_7 {X : XT} {E : EN} {k : Nat} {I : Mem} {r : Int32} (hC : Cx X E cX5_greatestDivisor 6 RX5 1 21) (hR : Rt X E cX5_greatestDivisor (some .int) (some (.int r)) I) : ∀ (n : Nat) (v2 : Int32) (v3 : Int32) (v4 : Int32), f_X5_greatestDivisor_7 k n v2 v3 v4 = some r → V X E 6 7 [(2, .int v2), (3, .int v3), (4, .int v4)] [] I := by
  intro n
  induction n with
  | zero =>
    intro v2 v3 v4 hf
    rw [f_X5_greatestDivisor_7] at hf
    cases hf
  | succ n ih =>
    intro v2 v3 v4 hf
    rw [f_X5_greatestDivisor_7] at hf
    refine V_iload (pc := 7) hC 2 dX5_greatestDivisor_7 rfl ?_
    refine V_bipush (pc := 9) hC dX5_greatestDivisor_9 (v := (nI 64)) (by decide) ?_
    refine V_icmp_ge (pc := 11) (tgt := 34) hC dX5_greatestDivisor_11 (by decide) (fun c1 => ?_) (fun c1 => ?_)
    · have hf := ite_t hf c1
      refine V_sub (pc := 34) (lv' := [(2, .int v2)]) [0] rfl ?_
      exact b_X5_greatestDivisor_34 hC hR hf
    · have hf := ite_f hf c1
      refine V_iload_n (pc := 14) hC 1 dX5_greatestDivisor_14 rfl rfl ?_
      refine V_if_eq (pc := 15) (tgt := 34) hC dX5_greatestDivisor_15 (by decide) (fun c2 => ?_) (fun c2 => ?_)
      · have hf := ite_t hf c2
        refine V_sub (pc := 34) (lv' := [(2, .int v2)]) [0] rfl ?_
        exact b_X5_greatestDivisor_34 hC hR hf
      · have hf := ite_f hf c2
        refine V_iload_n (pc := 18) hC 0 dX5_greatestDivisor_18 rfl rfl ?_
        refine V_iload_n (pc := 19) hC 1 dX5_greatestDivisor_19 rfl rfl ?_
        obtain ⟨h3, hf⟩ := if_some hf
        refine V_irem (pc := 20) hC h3 dX5_greatestDivisor_20 ?_
        refine V_istore (pc := 21) (lv' := [(5, .int (v2 - v2 / v3 * v3)), (2, .int v2), (3, .int v3), (4, .int v4)]) hC dX5_greatestDivisor_21 (by decide) rfl ?_
        refine V_iload_n (pc := 23) hC 2 dX5_greatestDivisor_23 rfl rfl ?_
        refine V_istore_n (pc := 24) (lv' := [(2, .int v3), (5, .int (v2 - v2 / v3 * v3)), (3, .int v3), (4, .int v4)]) hC dX5_greatestDivisor_24 rfl (by decide) rfl ?_
        refine V_iload (pc := 25) hC 1 dX5_greatestDivisor_25 rfl ?_
        refine V_istore_n (pc := 27) (lv' := [(3, .int (v2 - v2 / v3 * v3)), (2, .int v3), (5, .int (v2 - v2 / v3 * v3)), (4, .int v4)]) hC dX5_greatestDivisor_27 rfl (by decide) rfl ?_
        refine V_iinc (pc := 28) (lv' := [(4, .int (v4 + (nI 1))), (3, .int (v2 - v2 / v3 * v3)), (2, .int v3), (5, .int (v2 - v2 / v3 * v3))]) hC (nI 1) 3 dX5_greatestDivisor_28 rfl (by decide) (by decide) rfl ?_
        refine V_goto (pc := 31) (tgt := 7) hC dX5_greatestDivisor_31 (by decide) ?_
        refine V_sub (pc := 7) (lv' := [(2, .int v3), (3, .int (v2 - v2 / v3 * v3)), (4, .int (v4 + (nI 1)))]) [2, 1, 0] rfl ?_
        exact ih v3 (v2 - v2 / v3 * v3) (v4 + (nI 1)) hf
def f_X5_greatestDivisor (k : Nat) (v0 : Int32) (v1 : Int32) : Option (Int32) := f_X5_greatestDivisor_7 k k v0 v1 (nI 0)
set_option maxHeartbeats 4000000 in
set_option maxRecDepth 100000 in
theorem c_X5_greatestDivisor {E : EN} {k : Nat} {v0 : Int32} {v1 : Int32} {I : Mem} {r : Int32} (hf : f_X5_greatestDivisor k v0 v1 = some r) : Ct E yX5_greatestDivisor cX5_greatestDivisor 6 (some .int) 1 21 [.int v0, .int v1] I (some (.int r)) I := by
  refine Ct_of (by decide) (Nat.le_of_ble_eq_true rfl) (fun X hC0 hR => ?_)
  have hC : Cx X E cX5_greatestDivisor 6 RX5 1 21 := hC0
  change V X E 6 0 [(0, .int v0), (1, .int v1)] [] I
  unfold f_X5_greatestDivisor at hf
  refine V_iload_n (pc := 0) hC 0 dX5_greatestDivisor_0 rfl rfl ?_
  refine V_istore_n (pc := 1) (lv' := [(2, .int v0), (0, .int v0), (1, .int v1)]) hC dX5_greatestDivisor_1 rfl (by decide) rfl ?_
  refine V_iload_n (pc := 2) hC 2 dX5_greatestDivisor_2 rfl rfl ?_
  refine V_istore_n (pc := 3) (lv' := [(3, .int v1), (2, .int v0), (0, .int v0), (1, .int v1)]) hC dX5_greatestDivisor_3 rfl (by decide) rfl ?_
  refine V_iconst (pc := 4) hC dX5_greatestDivisor_4 (v := (nI 0)) (by decide) ?_
  refine V_istore (pc := 5) (lv' := [(4, .int (nI 0)), (3, .int v1), (2, .int v0), (0, .int v0), (1, .int v1)]) hC dX5_greatestDivisor_5 (by decide) rfl ?_
  refine V_sub (pc := 7) (lv' := [(2, .int v0), (3, .int v1), (4, .int (nI 0))]) [2, 1, 0] rfl ?_
  exact b_X5_greatestDivisor_7 hC hR k v0 v1 (nI 0) hf
def f_X5_share_133 (k : Nat) (I : Mem) (v5 : Int32) (v6 : Int32) (w0 : Int32) : Option (Int32 × Mem) := (Option.bind (f_X5_greatestDivisor k v5 v6) (fun r17 => (if ¬ r17 = 0 then some (w0 / r17, I) else none)))
set_option maxHeartbeats 4000000 in
set_option maxRecDepth 100000 in
theorem b_X5_share_133 {X : XT} {E : EN} {k : Nat} {I : Mem} {v5 : Int32} {v6 : Int32} {w0 : Int32} {r : Int32 × Mem} (hC : Cx X E cX5_share 8 RX5 6 128) (hR : Rt X E cX5_share (some .int) (some (.int r.1)) r.2) (hf : f_X5_share_133 k I v5 v6 w0 = some r) : V X E 8 133 [(5, .int v5), (6, .int v6)] [.int w0] I := by
  unfold f_X5_share_133 at hf
  refine V_istore (pc := 133) (lv' := [(7, .int w0), (5, .int v5), (6, .int v6)]) hC dX5_share_133 (by decide) rfl ?_
  refine V_iload (pc := 135) hC 0 dX5_share_135 rfl ?_
  refine V_iload (pc := 137) hC 1 dX5_share_137 rfl ?_
  refine V_iload (pc := 139) hC 2 dX5_share_139 rfl ?_
  obtain ⟨r17, g17, hf⟩ := bind_some hf
  refine V_callS (pc := 141) (rest := [.int w0]) (As := [.int v5, .int v6]) hC lk_X5_185 (c_X5_greatestDivisor  g17) rfl rfl (Nat.le_of_ble_eq_true rfl) (by decide) dX5_share_141 ?_
  change V X E 8 144 [(7, .int w0), (5, .int v5), (6, .int v6)] [.int r17, .int w0] I
  obtain ⟨h18, hf⟩ := if_some hf
  refine V_idiv (pc := 144) hC h18 dX5_share_144 ?_
  have hf := Option.some.inj hf; subst hf
  exact V_ireturn (pc := 145) hR rfl dX5_share_145
def f_X5_share_115 (k : Nat) (I : Mem) (v2 : Int32) (v5 : Int32) (w0 : Int32) : Option (Int32 × Mem) := (if v2 = 0 then f_X5_share_133 k I v5 w0 v5 else (if v2 = (nI 2) then f_X5_share_133 k I v5 w0 v5 else f_X5_share_133 k I v5 w0 w0))
set_option maxHeartbeats 4000000 in
set_option maxRecDepth 100000 in
theorem b_X5_share_115 {X : XT} {E : EN} {k : Nat} {I : Mem} {v2 : Int32} {v5 : Int32} {w0 : Int32} {r : Int32 × Mem} (hC : Cx X E cX5_share 8 RX5 6 128) (hR : Rt X E cX5_share (some .int) (some (.int r.1)) r.2) (hf : f_X5_share_115 k I v2 v5 w0 = some r) : V X E 8 115 [(2, .int v2), (5, .int v5)] [.int w0] I := by
  unfold f_X5_share_115 at hf
  refine V_istore (pc := 115) (lv' := [(6, .int w0), (2, .int v2), (5, .int v5)]) hC dX5_share_115 (by decide) rfl ?_
  refine V_iload_n (pc := 117) hC 1 dX5_share_117 rfl rfl ?_
  refine V_if_eq (pc := 118) (tgt := 126) hC dX5_share_118 (by decide) (fun c15 => ?_) (fun c15 => ?_)
  · have hf := ite_t hf c15
    refine V_iload (pc := 126) hC 2 dX5_share_126 rfl ?_
    refine V_goto (pc := 128) (tgt := 133) hC dX5_share_128 (by decide) ?_
    refine V_sub (pc := 133) (lv' := [(5, .int v5), (6, .int w0)]) [2, 0] rfl ?_
    exact b_X5_share_133 hC hR hf
  · have hf := ite_f hf c15
    refine V_iload_n (pc := 121) hC 1 dX5_share_121 rfl rfl ?_
    refine V_iconst (pc := 122) hC dX5_share_122 (v := (nI 2)) (by decide) ?_
    refine V_icmp_ne (pc := 123) (tgt := 131) hC dX5_share_123 (by decide) (fun c16 => ?_) (fun c16 => ?_)
    · have hf := ite_f hf c16
      refine V_iload (pc := 131) hC 0 dX5_share_131 rfl ?_
      refine V_sub (pc := 133) (lv' := [(5, .int v5), (6, .int w0)]) [2, 0] rfl ?_
      exact b_X5_share_133 hC hR hf
    · have hf := ite_t hf c16
      refine V_iload (pc := 126) hC 2 dX5_share_126 rfl ?_
      refine V_goto (pc := 128) (tgt := 133) hC dX5_share_128 (by decide) ?_
      refine V_sub (pc := 133) (lv' := [(5, .int v5), (6, .int w0)]) [2, 0] rfl ?_
      exact b_X5_share_133 hC hR hf
def f_X5_share_84 (k : Nat) (I : Mem) (v2 : Int32) (v4 : Int32) (w0 : Int32) : Option (Int32 × Mem) := (if v4 = 0 then (Option.bind (f_X3_blocCount k 0 I) (fun r12 => (Option.bind (f_X5_factorial k r12 I) (fun r13 => f_X5_share_115 k I v2 w0 r13)))) else (Option.bind (f_X2_swingsOfAll k (I (8 * 0) 1) I) (fun r14 => f_X5_share_115 k I v2 w0 r14)))
set_option maxHeartbeats 4000000 in
set_option maxRecDepth 100000 in
theorem b_X5_share_84 {X : XT} {E : EN} {k : Nat} {I : Mem} {v2 : Int32} {v4 : Int32} {w0 : Int32} {r : Int32 × Mem} (hC : Cx X E cX5_share 8 RX5 6 128) (hR : Rt X E cX5_share (some .int) (some (.int r.1)) r.2) (hf : f_X5_share_84 k I v2 v4 w0 = some r) : V X E 8 84 [(0, .ref (E.2.1 (48))), (2, .int v2), (3, .ref (E.2.1 (53))), (4, .int v4)] [.int w0] I := by
  unfold f_X5_share_84 at hf
  refine V_istore (pc := 84) (lv' := [(5, .int w0), (0, .ref (E.2.1 (48))), (2, .int v2), (3, .ref (E.2.1 (53))), (4, .int v4)]) hC dX5_share_84 (by decide) rfl ?_
  refine V_iload (pc := 86) hC 4 dX5_share_86 rfl ?_
  refine V_if_eq (pc := 88) (tgt := 105) hC dX5_share_88 (by decide) (fun c11 => ?_) (fun c11 => ?_)
  · have hf := ite_t hf c11
    refine V_aload_n (pc := 105) hC 1 dX5_share_105 rfl rfl ?_
    refine gf_X5_10 (pc := 106) hC dX5_share_106 ?_
    obtain ⟨r12, g12, hf⟩ := bind_some hf
    refine V_callV (pc := 109) (rest := []) (As := []) hC lk_X5_178 (by omega) (cel_State (by decide)) rfl (c_X3_blocCount (by decide) g12) rfl rfl (Nat.le_of_ble_eq_true rfl) (by decide) dX5_share_109 ?_
    change V X E 8 112 [(5, .int w0), (0, .ref (E.2.1 (48))), (2, .int v2), (3, .ref (E.2.1 (53))), (4, .int v4)] [.int r12] I
    obtain ⟨r13, g13, hf⟩ := bind_some hf
    refine V_callS (pc := 112) (rest := []) (As := [.int r12]) hC lk_X5_182 (c_X5_factorial  g13) rfl rfl (Nat.le_of_ble_eq_true rfl) (by decide) dX5_share_112 ?_
    change V X E 8 115 [(5, .int w0), (0, .ref (E.2.1 (48))), (2, .int v2), (3, .ref (E.2.1 (53))), (4, .int v4)] [.int r13] I
    refine V_sub (pc := 115) (lv' := [(2, .int v2), (5, .int w0)]) [2, 0] rfl ?_
    exact b_X5_share_115 hC hR hf
  · have hf := ite_f hf c11
    refine V_aload_n (pc := 91) hC 3 dX5_share_91 rfl rfl ?_
    refine V_aload_n (pc := 92) hC 1 dX5_share_92 rfl rfl ?_
    refine gf_X5_10 (pc := 93) hC dX5_share_93 ?_
    refine gf_X5_80 (pc := 96) (by decide) hC dX5_share_96 ?_
    obtain ⟨r14, g14, hf⟩ := bind_some hf
    refine V_callV (pc := 99) (rest := []) (As := [.int (I (8 * 0) 1)]) hC lk_X5_175 (by decide) cel_X2 rfl (c_X2_swingsOfAll  g14) rfl rfl (Nat.le_of_ble_eq_true rfl) (by decide) dX5_share_99 ?_
    change V X E 8 102 [(5, .int w0), (0, .ref (E.2.1 (48))), (2, .int v2), (3, .ref (E.2.1 (53))), (4, .int v4)] [.int r14] I
    refine V_goto (pc := 102) (tgt := 115) hC dX5_share_102 (by decide) ?_
    refine V_sub (pc := 115) (lv' := [(2, .int v2), (5, .int w0)]) [2, 0] rfl ?_
    exact b_X5_share_115 hC hR hf
def f_X5_share_57 (k : Nat) (I : Mem) (v1 : Int32) (v2 : Int32) (w0 : Int32) : Option (Int32 × Mem) := (if w0 = 0 then (Option.bind (f_X2_orders k v1 I) (fun r9 => f_X5_share_84 k I v2 w0 r9)) else (Option.bind (f_X2_swings k v1 (I (8 * 0) 1) I) (fun r10 => f_X5_share_84 k I v2 w0 r10)))
set_option maxHeartbeats 4000000 in
set_option maxRecDepth 100000 in
theorem b_X5_share_57 {X : XT} {E : EN} {k : Nat} {I : Mem} {v1 : Int32} {v2 : Int32} {w0 : Int32} {r : Int32 × Mem} (hC : Cx X E cX5_share 8 RX5 6 128) (hR : Rt X E cX5_share (some .int) (some (.int r.1)) r.2) (hf : f_X5_share_57 k I v1 v2 w0 = some r) : V X E 8 57 [(0, .ref (E.2.1 (48))), (1, .int v1), (2, .int v2), (3, .ref (E.2.1 (53)))] [.int w0] I := by
  unfold f_X5_share_57 at hf
  refine V_istore (pc := 57) (lv' := [(4, .int w0), (0, .ref (E.2.1 (48))), (1, .int v1), (2, .int v2), (3, .ref (E.2.1 (53)))]) hC dX5_share_57 (by decide) rfl ?_
  refine V_iload (pc := 59) hC 0 dX5_share_59 rfl ?_
  refine V_if_eq (pc := 61) (tgt := 79) hC dX5_share_61 (by decide) (fun c8 => ?_) (fun c8 => ?_)
  · have hf := ite_t hf c8
    refine V_aload_n (pc := 79) hC 4 dX5_share_79 rfl rfl ?_
    refine V_iload_n (pc := 80) hC 2 dX5_share_80 rfl rfl ?_
    obtain ⟨r9, g9, hf⟩ := bind_some hf
    refine V_callV (pc := 81) (rest := []) (As := [.int v1]) hC lk_X5_153 (by decide) cel_X2 rfl (c_X2_orders  g9) rfl rfl (Nat.le_of_ble_eq_true rfl) (by decide) dX5_share_81 ?_
    change V X E 8 84 [(4, .int w0), (0, .ref (E.2.1 (48))), (1, .int v1), (2, .int v2), (3, .ref (E.2.1 (53)))] [.int r9] I
    refine V_sub (pc := 84) (lv' := [(0, .ref (E.2.1 (48))), (2, .int v2), (3, .ref (E.2.1 (53))), (4, .int w0)]) [1, 3, 4, 0] rfl ?_
    exact b_X5_share_84 hC hR hf
  · have hf := ite_f hf c8
    refine V_aload_n (pc := 64) hC 4 dX5_share_64 rfl rfl ?_
    refine V_iload_n (pc := 65) hC 2 dX5_share_65 rfl rfl ?_
    refine V_aload_n (pc := 66) hC 1 dX5_share_66 rfl rfl ?_
    refine gf_X5_10 (pc := 67) hC dX5_share_67 ?_
    refine gf_X5_80 (pc := 70) (by decide) hC dX5_share_70 ?_
    obtain ⟨r10, g10, hf⟩ := bind_some hf
    refine V_callV (pc := 73) (rest := []) (As := [.int v1, .int (I (8 * 0) 1)]) hC lk_X5_149 (by decide) cel_X2 rfl (c_X2_swings  g10) rfl rfl (Nat.le_of_ble_eq_true rfl) (by decide) dX5_share_73 ?_
    change V X E 8 76 [(4, .int w0), (0, .ref (E.2.1 (48))), (1, .int v1), (2, .int v2), (3, .ref (E.2.1 (53)))] [.int r10] I
    refine V_goto (pc := 76) (tgt := 84) hC dX5_share_76 (by decide) ?_
    refine V_sub (pc := 84) (lv' := [(0, .ref (E.2.1 (48))), (2, .int v2), (3, .ref (E.2.1 (53))), (4, .int w0)]) [1, 3, 4, 0] rfl ?_
    exact b_X5_share_84 hC hR hf
def f_X5_share (k : Nat) (v1 : Int32) (v2 : Int32) (I : Mem) : Option (Int32 × Mem) := (if (f_X3_has 0 v1 I) = 0 then some ((-1 : Int32), I) else (if v2 < 0 then some ((-2 : Int32), I) else (if v2 ≤ (nI 3) then (Option.bind (f_X5_currentPower k I) (fun r4 => (Option.bind (f_X2_winningCoalitions k (r4 (8 * 0) 1) r4) (fun r5 => (if r5 = 0 then some ((-5 : Int32), r4) else (if (nI 2) ≤ v2 then f_X5_share_57 k r4 v1 v2 (nI 0) else f_X5_share_57 k r4 v1 v2 (nI 1))))))) else some ((-2 : Int32), I))))
set_option maxHeartbeats 4000000 in
set_option maxRecDepth 100000 in
theorem c_X5_share {E : EN} {k : Nat} {v1 : Int32} {v2 : Int32} {I : Mem} {r : Int32 × Mem} (hf : f_X5_share k v1 v2 I = some r) : Ct E yX5_share cX5_share 8 (some .int) 6 128 [.ref (E.2.1 (48)), .int v1, .int v2] I (some (.int r.1)) r.2 := by
  refine Ct_of (by decide) (Nat.le_of_ble_eq_true rfl) (fun X hC0 hR => ?_)
  have hC : Cx X E cX5_share 8 RX5 6 128 := hC0
  change V X E 8 0 [(0, .ref (E.2.1 (48))), (1, .int v1), (2, .int v2)] [] I
  unfold f_X5_share at hf
  refine V_aload_n (pc := 0) hC 0 dX5_share_0 rfl rfl ?_
  refine gf_X5_10 (pc := 1) hC dX5_share_1 ?_
  refine V_iload_n (pc := 4) hC 1 dX5_share_4 rfl rfl ?_
  refine V_callV (pc := 5) (rest := []) (As := [.int v1]) hC lk_X5_55 (by omega) (cel_State (by decide)) rfl (c_X3_has (by decide) rfl) rfl rfl (Nat.le_of_ble_eq_true rfl) (by decide) dX5_share_5 ?_
  change V X E 8 8 [(0, .ref (E.2.1 (48))), (1, .int v1), (2, .int v2)] [.int (f_X3_has 0 v1 I)] I
  refine V_if_ne (pc := 8) (tgt := 13) hC dX5_share_8 (by decide) (fun c1 => ?_) (fun c1 => ?_)
  · have hf := ite_f hf c1
    refine V_iload_n (pc := 13) hC 2 dX5_share_13 rfl rfl ?_
    refine V_if_lt (pc := 14) (tgt := 22) hC dX5_share_14 (by decide) (fun c2 => ?_) (fun c2 => ?_)
    · have hf := ite_t hf c2
      refine V_bipush (pc := 22) hC dX5_share_22 (v := (-2 : Int32)) (by decide) ?_
      have hf := Option.some.inj hf; subst hf
      exact V_ireturn (pc := 24) hR rfl dX5_share_24
    · have hf := ite_f hf c2
      refine V_iload_n (pc := 17) hC 2 dX5_share_17 rfl rfl ?_
      refine V_iconst (pc := 18) hC dX5_share_18 (v := (nI 3)) (by decide) ?_
      refine V_icmp_le (pc := 19) (tgt := 25) hC dX5_share_19 (by decide) (fun c3 => ?_) (fun c3 => ?_)
      · have hf := ite_t hf c3
        refine V_aload_n (pc := 25) hC 0 dX5_share_25 rfl rfl ?_
        obtain ⟨r4, g4, hf⟩ := bind_some hf
        refine V_callV (pc := 26) (rest := []) (As := []) hC lk_X5_145 (by decide) cel_X5 rfl (c_X5_currentPower  g4) rfl rfl (Nat.le_of_ble_eq_true rfl) (by decide) dX5_share_26 ?_
        change V X E 8 29 [(0, .ref (E.2.1 (48))), (1, .int v1), (2, .int v2)] [.ref (E.2.1 (53))] r4
        refine V_astore_n (pc := 29) (lv' := [(3, .ref (E.2.1 (53))), (0, .ref (E.2.1 (48))), (1, .int v1), (2, .int v2)]) hC dX5_share_29 rfl (by decide) rfl ?_
        refine V_aload_n (pc := 30) hC 0 dX5_share_30 rfl rfl ?_
        refine V_aload_n (pc := 31) hC 1 dX5_share_31 rfl rfl ?_
        refine gf_X5_10 (pc := 32) hC dX5_share_32 ?_
        refine gf_X5_80 (pc := 35) (by decide) hC dX5_share_35 ?_
        obtain ⟨r5, g5, hf⟩ := bind_some hf
        refine V_callV (pc := 38) (rest := []) (As := [.int (r4 (8 * 0) 1)]) hC lk_X5_172 (by decide) cel_X2 rfl (c_X2_winningCoalitions  g5) rfl rfl (Nat.le_of_ble_eq_true rfl) (by decide) dX5_share_38 ?_
        change V X E 8 41 [(3, .ref (E.2.1 (53))), (0, .ref (E.2.1 (48))), (1, .int v1), (2, .int v2)] [.int r5] r4
        refine V_if_ne (pc := 41) (tgt := 47) hC dX5_share_41 (by decide) (fun c6 => ?_) (fun c6 => ?_)
        · have hf := ite_f hf c6
          refine V_iload_n (pc := 47) hC 3 dX5_share_47 rfl rfl ?_
          refine V_iconst (pc := 48) hC dX5_share_48 (v := (nI 2)) (by decide) ?_
          refine V_icmp_ge (pc := 49) (tgt := 56) hC dX5_share_49 (by decide) (fun c7 => ?_) (fun c7 => ?_)
          · have hf := ite_t hf c7
            refine V_iconst (pc := 56) hC dX5_share_56 (v := (nI 0)) (by decide) ?_
            refine V_sub (pc := 57) (lv' := [(0, .ref (E.2.1 (48))), (1, .int v1), (2, .int v2), (3, .ref (E.2.1 (53)))]) [1, 2, 3, 0] rfl ?_
            exact b_X5_share_57 hC hR hf
          · have hf := ite_f hf c7
            refine V_iconst (pc := 52) hC dX5_share_52 (v := (nI 1)) (by decide) ?_
            refine V_goto (pc := 53) (tgt := 57) hC dX5_share_53 (by decide) ?_
            refine V_sub (pc := 57) (lv' := [(0, .ref (E.2.1 (48))), (1, .int v1), (2, .int v2), (3, .ref (E.2.1 (53)))]) [1, 2, 3, 0] rfl ?_
            exact b_X5_share_57 hC hR hf
        · have hf := ite_t hf c6
          refine V_bipush (pc := 44) hC dX5_share_44 (v := (-5 : Int32)) (by decide) ?_
          have hf := Option.some.inj hf; subst hf
          exact V_ireturn (pc := 46) hR rfl dX5_share_46
      · have hf := ite_f hf c3
        refine V_bipush (pc := 22) hC dX5_share_22 (v := (-2 : Int32)) (by decide) ?_
        have hf := Option.some.inj hf; subst hf
        exact V_ireturn (pc := 24) hR rfl dX5_share_24
  · have hf := ite_t hf c1
    refine V_iconst (pc := 11) hC dX5_share_11 (v := (-1 : Int32)) (by decide) ?_
    have hf := Option.some.inj hf; subst hf
    exact V_ireturn (pc := 12) hR rfl dX5_share_12
def f_X5_wins (k : Nat) (v1 : Int32) (I : Mem) : Option (Int32) := (if (v1 &&& ((f_X3_everyone 0 I) ^^^ (-1 : Int32))) = 0 then (Option.bind (f_X3_wholeBlocsIn k 0 v1 I) (fun r2 => (Option.bind (f_X3_isWinning k 0 r2 I) (fun r3 => some (f_X5_oneIf r3))))) else some (-2 : Int32))
set_option maxHeartbeats 4000000 in
set_option maxRecDepth 100000 in
theorem c_X5_wins {E : EN} {k : Nat} {v1 : Int32} {I : Mem} {r : Int32} (hf : f_X5_wins k v1 I = some r) : Ct E yX5_wins cX5_wins 2 (some .int) 4 85 [.ref (E.2.1 (48)), .int v1] I (some (.int r)) I := by
  refine Ct_of (by decide) (Nat.le_of_ble_eq_true rfl) (fun X hC0 hR => ?_)
  have hC : Cx X E cX5_wins 2 RX5 4 85 := hC0
  change V X E 2 0 [(0, .ref (E.2.1 (48))), (1, .int v1)] [] I
  unfold f_X5_wins at hf
  refine V_iload_n (pc := 0) hC 1 dX5_wins_0 rfl rfl ?_
  refine V_aload_n (pc := 1) hC 0 dX5_wins_1 rfl rfl ?_
  refine gf_X5_10 (pc := 2) hC dX5_wins_2 ?_
  refine V_callV (pc := 5) (rest := [.int v1]) (As := []) hC lk_X5_188 (by omega) (cel_State (by decide)) rfl (c_X3_everyone (by decide) rfl) rfl rfl (Nat.le_of_ble_eq_true rfl) (by decide) dX5_wins_5 ?_
  change V X E 2 8 [(0, .ref (E.2.1 (48))), (1, .int v1)] [.int (f_X3_everyone 0 I), .int v1] I
  refine V_iconst (pc := 8) hC dX5_wins_8 (v := (-1 : Int32)) (by decide) ?_
  refine V_ixor (pc := 9) hC dX5_wins_9 ?_
  refine V_iand (pc := 10) hC dX5_wins_10 ?_
  refine V_if_eq (pc := 11) (tgt := 17) hC dX5_wins_11 (by decide) (fun c1 => ?_) (fun c1 => ?_)
  · have hf := ite_t hf c1
    refine V_aload_n (pc := 17) hC 0 dX5_wins_17 rfl rfl ?_
    refine gf_X5_10 (pc := 18) hC dX5_wins_18 ?_
    refine V_aload_n (pc := 21) hC 0 dX5_wins_21 rfl rfl ?_
    refine gf_X5_10 (pc := 22) hC dX5_wins_22 ?_
    refine V_iload_n (pc := 25) hC 1 dX5_wins_25 rfl rfl ?_
    obtain ⟨r2, g2, hf⟩ := bind_some hf
    refine V_callV (pc := 26) (rest := [.ref (E.2.1 (8 * 0))]) (As := [.int v1]) hC lk_X5_191 (by omega) (cel_State (by decide)) rfl (c_X3_wholeBlocsIn (by decide) g2) rfl rfl (Nat.le_of_ble_eq_true rfl) (by decide) dX5_wins_26 ?_
    change V X E 2 29 [(0, .ref (E.2.1 (48))), (1, .int v1)] [.int r2, .ref (E.2.1 (8 * 0))] I
    obtain ⟨r3, g3, hf⟩ := bind_some hf
    refine V_callV (pc := 29) (rest := []) (As := [.int r2]) hC lk_X5_194 (by omega) (cel_State (by decide)) rfl (c_X3_isWinning (by decide) g3) rfl rfl (Nat.le_of_ble_eq_true rfl) (by decide) dX5_wins_29 ?_
    change V X E 2 32 [(0, .ref (E.2.1 (48))), (1, .int v1)] [.int r3] I
    refine V_callS (pc := 32) (rest := []) (As := [.int r3]) hC lk_X5_132 (c_X5_oneIf  rfl) rfl rfl (Nat.le_of_ble_eq_true rfl) (by decide) dX5_wins_32 ?_
    change V X E 2 35 [(0, .ref (E.2.1 (48))), (1, .int v1)] [.int (f_X5_oneIf r3)] I
    have hf := Option.some.inj hf; subst hf
    exact V_ireturn (pc := 35) hR rfl dX5_wins_35
  · have hf := ite_f hf c1
    refine V_bipush (pc := 14) hC dX5_wins_14 (v := (-2 : Int32)) (by decide) ?_
    have hf := Option.some.inj hf; subst hf
    exact V_ireturn (pc := 16) hR rfl dX5_wins_16
def f_X5_leastCoalition (k : Nat) (v1 : Int32) (v2 : Int32) (I : Mem) : Option (Int32 × Mem) := (if v1 < 0 then some ((-2 : Int32), I) else (if v2 < 0 then some ((-2 : Int32), I) else (if v2 ≤ (nI 2) then (Option.bind (f_X5_currentPower k I) (fun r4 => (Option.bind (f_X2_leastCoalitions k r4) (fun r5 => (if r5.1 ≤ v1 then some ((-5 : Int32), r5.2) else (Option.bind (f_X2_ofLeast k v1 v2 r5.2) (fun r7 => some (r7, r5.2)))))))) else some ((-2 : Int32), I))))
set_option maxHeartbeats 4000000 in
set_option maxRecDepth 100000 in
theorem c_X5_leastCoalition {E : EN} {k : Nat} {v1 : Int32} {v2 : Int32} {I : Mem} {r : Int32 × Mem} (hf : f_X5_leastCoalition k v1 v2 I = some r) : Ct E yX5_leastCoalition cX5_leastCoalition 4 (some .int) 6 128 [.ref (E.2.1 (48)), .int v1, .int v2] I (some (.int r.1)) r.2 := by
  refine Ct_of (by decide) (Nat.le_of_ble_eq_true rfl) (fun X hC0 hR => ?_)
  have hC : Cx X E cX5_leastCoalition 4 RX5 6 128 := hC0
  change V X E 4 0 [(0, .ref (E.2.1 (48))), (1, .int v1), (2, .int v2)] [] I
  unfold f_X5_leastCoalition at hf
  refine V_iload_n (pc := 0) hC 1 dX5_leastCoalition_0 rfl rfl ?_
  refine V_if_lt (pc := 1) (tgt := 13) hC dX5_leastCoalition_1 (by decide) (fun c1 => ?_) (fun c1 => ?_)
  · have hf := ite_t hf c1
    refine V_bipush (pc := 13) hC dX5_leastCoalition_13 (v := (-2 : Int32)) (by decide) ?_
    have hf := Option.some.inj hf; subst hf
    exact V_ireturn (pc := 15) hR rfl dX5_leastCoalition_15
  · have hf := ite_f hf c1
    refine V_iload_n (pc := 4) hC 2 dX5_leastCoalition_4 rfl rfl ?_
    refine V_if_lt (pc := 5) (tgt := 13) hC dX5_leastCoalition_5 (by decide) (fun c2 => ?_) (fun c2 => ?_)
    · have hf := ite_t hf c2
      refine V_bipush (pc := 13) hC dX5_leastCoalition_13 (v := (-2 : Int32)) (by decide) ?_
      have hf := Option.some.inj hf; subst hf
      exact V_ireturn (pc := 15) hR rfl dX5_leastCoalition_15
    · have hf := ite_f hf c2
      refine V_iload_n (pc := 8) hC 2 dX5_leastCoalition_8 rfl rfl ?_
      refine V_iconst (pc := 9) hC dX5_leastCoalition_9 (v := (nI 2)) (by decide) ?_
      refine V_icmp_le (pc := 10) (tgt := 16) hC dX5_leastCoalition_10 (by decide) (fun c3 => ?_) (fun c3 => ?_)
      · have hf := ite_t hf c3
        refine V_aload_n (pc := 16) hC 0 dX5_leastCoalition_16 rfl rfl ?_
        obtain ⟨r4, g4, hf⟩ := bind_some hf
        refine V_callV (pc := 17) (rest := []) (As := []) hC lk_X5_145 (by decide) cel_X5 rfl (c_X5_currentPower  g4) rfl rfl (Nat.le_of_ble_eq_true rfl) (by decide) dX5_leastCoalition_17 ?_
        change V X E 4 20 [(0, .ref (E.2.1 (48))), (1, .int v1), (2, .int v2)] [.ref (E.2.1 (53))] r4
        refine V_astore_n (pc := 20) (lv' := [(3, .ref (E.2.1 (53))), (0, .ref (E.2.1 (48))), (1, .int v1), (2, .int v2)]) hC dX5_leastCoalition_20 rfl (by decide) rfl ?_
        refine V_iload_n (pc := 21) hC 2 dX5_leastCoalition_21 rfl rfl ?_
        refine V_aload_n (pc := 22) hC 0 dX5_leastCoalition_22 rfl rfl ?_
        obtain ⟨r5, g5, hf⟩ := bind_some hf
        refine V_callV (pc := 23) (rest := [.int v1]) (As := []) hC lk_X5_197 (by decide) cel_X2 rfl (c_X2_leastCoalitions  g5) rfl rfl (Nat.le_of_ble_eq_true rfl) (by decide) dX5_leastCoalition_23 ?_
        change V X E 4 26 [(3, .ref (E.2.1 (53))), (0, .ref (E.2.1 (48))), (1, .int v1), (2, .int v2)] [.int r5.1, .int v1] r5.2
        refine V_icmp_ge (pc := 26) (tgt := 38) hC dX5_leastCoalition_26 (by decide) (fun c6 => ?_) (fun c6 => ?_)
        · have hf := ite_t hf c6
          refine V_bipush (pc := 38) hC dX5_leastCoalition_38 (v := (-5 : Int32)) (by decide) ?_
          have hf := Option.some.inj hf; subst hf
          exact V_ireturn (pc := 40) hR rfl dX5_leastCoalition_40
        · have hf := ite_f hf c6
          refine V_aload_n (pc := 29) hC 0 dX5_leastCoalition_29 rfl rfl ?_
          refine V_iload_n (pc := 30) hC 2 dX5_leastCoalition_30 rfl rfl ?_
          refine V_iload_n (pc := 31) hC 3 dX5_leastCoalition_31 rfl rfl ?_
          obtain ⟨r7, g7, hf⟩ := bind_some hf
          refine V_callV (pc := 32) (rest := []) (As := [.int v1, .int v2]) hC lk_X5_200 (by decide) cel_X2 rfl (c_X2_ofLeast  g7) rfl rfl (Nat.le_of_ble_eq_true rfl) (by decide) dX5_leastCoalition_32 ?_
          change V X E 4 35 [(3, .ref (E.2.1 (53))), (0, .ref (E.2.1 (48))), (1, .int v1), (2, .int v2)] [.int r7] r5.2
          refine V_goto (pc := 35) (tgt := 40) hC dX5_leastCoalition_35 (by decide) ?_
          have hf := Option.some.inj hf; subst hf
          exact V_ireturn (pc := 40) hR rfl dX5_leastCoalition_40
      · have hf := ite_f hf c3
        refine V_bipush (pc := 13) hC dX5_leastCoalition_13 (v := (-2 : Int32)) (by decide) ?_
        have hf := Option.some.inj hf; subst hf
        exact V_ireturn (pc := 15) hR rfl dX5_leastCoalition_15
def f_X5_ranked_14 (k : Nat) (I : Mem) (v1 : Int32) : Nat → Int32 → Option (Int32 × Mem)
  | 0, _ => none
  | n + 1, v3 => (if (I (8 * 0) 0) ≤ v3 then some ((-5 : Int32), I) else (Option.bind (f_X5_rankOf k v3 I) (fun r4 => (if r4 = v1 then some (v3, I) else (f_X5_ranked_14 k I v1 n) (v3 + (nI 1))))))
set_option maxHeartbeats 4000000 in
set_option maxRecDepth 100000 in
theorem b_X5_ranked_14 {X : XT} {E : EN} {k : Nat} {I : Mem} {v1 : Int32} {r : Int32 × Mem} (hC : Cx X E cX5_ranked 4 RX5 6 128) (hR : Rt X E cX5_ranked (some .int) (some (.int r.1)) r.2) : ∀ (n : Nat) (v3 : Int32), f_X5_ranked_14 k I v1 n v3 = some r → V X E 4 14 [(0, .ref (E.2.1 (48))), (1, .int v1), (2, .ref (E.2.1 (53))), (3, .int v3)] [] I := by
  intro n
  induction n with
  | zero =>
    intro v3 hf
    rw [f_X5_ranked_14] at hf
    cases hf
  | succ n ih =>
    intro v3 hf
    rw [f_X5_ranked_14] at hf
    refine V_iload_n (pc := 14) hC 3 dX5_ranked_14 rfl rfl ?_
    refine V_aload_n (pc := 15) hC 0 dX5_ranked_15 rfl rfl ?_
    refine gf_X5_10 (pc := 16) hC dX5_ranked_16 ?_
    refine gf_X5_44 (pc := 19) (by decide) hC dX5_ranked_19 ?_
    refine V_icmp_ge (pc := 22) (tgt := 43) hC dX5_ranked_22 (by decide) (fun c3 => ?_) (fun c3 => ?_)
    · have hf := ite_t hf c3
      refine V_bipush (pc := 43) hC dX5_ranked_43 (v := (-5 : Int32)) (by decide) ?_
      have hf := Option.some.inj hf; subst hf
      exact V_ireturn (pc := 45) hR rfl dX5_ranked_45
    · have hf := ite_f hf c3
      refine V_aload_n (pc := 25) hC 0 dX5_ranked_25 rfl rfl ?_
      refine V_iload_n (pc := 26) hC 3 dX5_ranked_26 rfl rfl ?_
      refine V_aload_n (pc := 27) hC 2 dX5_ranked_27 rfl rfl ?_
      obtain ⟨r4, g4, hf⟩ := bind_some hf
      refine V_callV (pc := 28) (rest := []) (As := [.int v3, .ref (E.2.1 (53))]) hC lk_X5_165 (by decide) cel_X5 rfl (c_X5_rankOf  g4) rfl rfl (Nat.le_of_ble_eq_true rfl) (by decide) dX5_ranked_28 ?_
      change V X E 4 31 [(0, .ref (E.2.1 (48))), (1, .int v1), (2, .ref (E.2.1 (53))), (3, .int v3)] [.int r4] I
      refine V_iload_n (pc := 31) hC 1 dX5_ranked_31 rfl rfl ?_
      refine V_icmp_ne (pc := 32) (tgt := 37) hC dX5_ranked_32 (by decide) (fun c5 => ?_) (fun c5 => ?_)
      · have hf := ite_f hf c5
        refine V_iinc (pc := 37) (lv' := [(3, .int (v3 + (nI 1))), (0, .ref (E.2.1 (48))), (1, .int v1), (2, .ref (E.2.1 (53)))]) hC (nI 1) 3 dX5_ranked_37 rfl (by decide) (by decide) rfl ?_
        refine V_goto (pc := 40) (tgt := 14) hC dX5_ranked_40 (by decide) ?_
        refine V_sub (pc := 14) (lv' := [(0, .ref (E.2.1 (48))), (1, .int v1), (2, .ref (E.2.1 (53))), (3, .int (v3 + (nI 1)))]) [1, 2, 3, 0] rfl ?_
        exact ih (v3 + (nI 1)) hf
      · have hf := ite_t hf c5
        refine V_iload_n (pc := 35) hC 3 dX5_ranked_35 rfl rfl ?_
        have hf := Option.some.inj hf; subst hf
        exact V_ireturn (pc := 36) hR rfl dX5_ranked_36
def f_X5_ranked (k : Nat) (v1 : Int32) (I : Mem) : Option (Int32 × Mem) := (if 0 ≤ v1 then (Option.bind (f_X5_currentPower k I) (fun r2 => f_X5_ranked_14 k r2 v1 k (nI 0))) else some ((-2 : Int32), I))
set_option maxHeartbeats 4000000 in
set_option maxRecDepth 100000 in
theorem c_X5_ranked {E : EN} {k : Nat} {v1 : Int32} {I : Mem} {r : Int32 × Mem} (hf : f_X5_ranked k v1 I = some r) : Ct E yX5_ranked cX5_ranked 4 (some .int) 6 128 [.ref (E.2.1 (48)), .int v1] I (some (.int r.1)) r.2 := by
  refine Ct_of (by decide) (Nat.le_of_ble_eq_true rfl) (fun X hC0 hR => ?_)
  have hC : Cx X E cX5_ranked 4 RX5 6 128 := hC0
  change V X E 4 0 [(0, .ref (E.2.1 (48))), (1, .int v1)] [] I
  unfold f_X5_ranked at hf
  refine V_iload_n (pc := 0) hC 1 dX5_ranked_0 rfl rfl ?_
  refine V_if_ge (pc := 1) (tgt := 7) hC dX5_ranked_1 (by decide) (fun c1 => ?_) (fun c1 => ?_)
  · have hf := ite_t hf c1
    refine V_aload_n (pc := 7) hC 0 dX5_ranked_7 rfl rfl ?_
    obtain ⟨r2, g2, hf⟩ := bind_some hf
    refine V_callV (pc := 8) (rest := []) (As := []) hC lk_X5_145 (by decide) cel_X5 rfl (c_X5_currentPower  g2) rfl rfl (Nat.le_of_ble_eq_true rfl) (by decide) dX5_ranked_8 ?_
    change V X E 4 11 [(0, .ref (E.2.1 (48))), (1, .int v1)] [.ref (E.2.1 (53))] r2
    refine V_astore_n (pc := 11) (lv' := [(2, .ref (E.2.1 (53))), (0, .ref (E.2.1 (48))), (1, .int v1)]) hC dX5_ranked_11 rfl (by decide) rfl ?_
    refine V_iconst (pc := 12) hC dX5_ranked_12 (v := (nI 0)) (by decide) ?_
    refine V_istore_n (pc := 13) (lv' := [(3, .int (nI 0)), (2, .ref (E.2.1 (53))), (0, .ref (E.2.1 (48))), (1, .int v1)]) hC dX5_ranked_13 rfl (by decide) rfl ?_
    refine V_sub (pc := 14) (lv' := [(0, .ref (E.2.1 (48))), (1, .int v1), (2, .ref (E.2.1 (53))), (3, .int (nI 0))]) [2, 3, 1, 0] rfl ?_
    exact b_X5_ranked_14 hC hR k (nI 0) hf
  · have hf := ite_f hf c1
    refine V_bipush (pc := 4) hC dX5_ranked_4 (v := (-2 : Int32)) (by decide) ?_
    have hf := Option.some.inj hf; subst hf
    exact V_ireturn (pc := 6) hR rfl dX5_ranked_6
def f_X5_withQuota (k : Nat) (v1 : Int32) (v2 : Int32) (I : Mem) : Option (Int32 × Mem) := (if (f_X5_isQuota v1) = 0 then some ((-2 : Int32), I) else (if v2 = (nI 0) then (Option.bind (f_X5_currentPower k I) (fun r3 => (Option.bind (f_X2_dummies k v1 r3) (fun r4 => some (r4, r3))))) else (if v2 = (nI 1) then (Option.bind (f_X5_currentPower k I) (fun r6 => (Option.bind (f_X2_blockers k v1 r6) (fun r7 => some (r7, r6))))) else (if v2 = (nI 2) then (Option.bind (f_X5_currentPower k I) (fun r9 => (Option.bind (f_X2_swingsOfAll k v1 r9) (fun r10 => some (r10, r9))))) else (if v2 = (nI 3) then (Option.bind (f_X5_currentPower k I) (fun r12 => (Option.bind (f_X2_winningCoalitions k v1 r12) (fun r13 => some (r13, r12))))) else some ((-2 : Int32), I))))))
set_option maxHeartbeats 4000000 in
set_option maxRecDepth 100000 in
theorem c_X5_withQuota {E : EN} {k : Nat} {v1 : Int32} {v2 : Int32} {I : Mem} {r : Int32 × Mem} (hf : f_X5_withQuota k v1 v2 I = some r) : Ct E yX5_withQuota cX5_withQuota 3 (some .int) 6 128 [.ref (E.2.1 (48)), .int v1, .int v2] I (some (.int r.1)) r.2 := by
  refine Ct_of (by decide) (Nat.le_of_ble_eq_true rfl) (fun X hC0 hR => ?_)
  have hC : Cx X E cX5_withQuota 3 RX5 6 128 := hC0
  change V X E 3 0 [(0, .ref (E.2.1 (48))), (1, .int v1), (2, .int v2)] [] I
  unfold f_X5_withQuota at hf
  refine V_iload_n (pc := 0) hC 1 dX5_withQuota_0 rfl rfl ?_
  refine V_callS (pc := 1) (rest := []) (As := [.int v1]) hC lk_X5_77 (c_X5_isQuota  rfl) rfl rfl (Nat.le_of_ble_eq_true rfl) (by decide) dX5_withQuota_1 ?_
  change V X E 3 4 [(0, .ref (E.2.1 (48))), (1, .int v1), (2, .int v2)] [.int (f_X5_isQuota v1)] I
  refine V_if_ne (pc := 4) (tgt := 10) hC dX5_withQuota_4 (by decide) (fun c1 => ?_) (fun c1 => ?_)
  · have hf := ite_f hf c1
    refine V_iload_n (pc := 10) hC 2 dX5_withQuota_10 rfl rfl ?_
    by_cases c2 : v2 = (nI 0)
    · have hf := ite_t hf c2
      refine V_tableIn (pc := 11) (tgt := 40) (off := 29) hC dX5_withQuota_11 (by rw [c2]; decide) (by rw [c2]; decide) (by rw [c2]; decide) (by decide) ?_
      refine V_aload_n (pc := 40) hC 0 dX5_withQuota_40 rfl rfl ?_
      obtain ⟨r3, g3, hf⟩ := bind_some hf
      refine V_callV (pc := 41) (rest := []) (As := []) hC lk_X5_145 (by decide) cel_X5 rfl (c_X5_currentPower  g3) rfl rfl (Nat.le_of_ble_eq_true rfl) (by decide) dX5_withQuota_41 ?_
      change V X E 3 44 [(0, .ref (E.2.1 (48))), (1, .int v1), (2, .int v2)] [.ref (E.2.1 (53))] r3
      refine V_iload_n (pc := 44) hC 1 dX5_withQuota_44 rfl rfl ?_
      obtain ⟨r4, g4, hf⟩ := bind_some hf
      refine V_callV (pc := 45) (rest := []) (As := [.int v1]) hC lk_X5_203 (by decide) cel_X2 rfl (c_X2_dummies  g4) rfl rfl (Nat.le_of_ble_eq_true rfl) (by decide) dX5_withQuota_45 ?_
      change V X E 3 48 [(0, .ref (E.2.1 (48))), (1, .int v1), (2, .int v2)] [.int r4] r3
      have hf := Option.some.inj hf; subst hf
      exact V_ireturn (pc := 48) hR rfl dX5_withQuota_48
    have hf := ite_f hf c2
    by_cases c5 : v2 = (nI 1)
    · have hf := ite_t hf c5
      refine V_tableIn (pc := 11) (tgt := 49) (off := 38) hC dX5_withQuota_11 (by rw [c5]; decide) (by rw [c5]; decide) (by rw [c5]; decide) (by decide) ?_
      refine V_aload_n (pc := 49) hC 0 dX5_withQuota_49 rfl rfl ?_
      obtain ⟨r6, g6, hf⟩ := bind_some hf
      refine V_callV (pc := 50) (rest := []) (As := []) hC lk_X5_145 (by decide) cel_X5 rfl (c_X5_currentPower  g6) rfl rfl (Nat.le_of_ble_eq_true rfl) (by decide) dX5_withQuota_50 ?_
      change V X E 3 53 [(0, .ref (E.2.1 (48))), (1, .int v1), (2, .int v2)] [.ref (E.2.1 (53))] r6
      refine V_iload_n (pc := 53) hC 1 dX5_withQuota_53 rfl rfl ?_
      obtain ⟨r7, g7, hf⟩ := bind_some hf
      refine V_callV (pc := 54) (rest := []) (As := [.int v1]) hC lk_X5_206 (by decide) cel_X2 rfl (c_X2_blockers  g7) rfl rfl (Nat.le_of_ble_eq_true rfl) (by decide) dX5_withQuota_54 ?_
      change V X E 3 57 [(0, .ref (E.2.1 (48))), (1, .int v1), (2, .int v2)] [.int r7] r6
      have hf := Option.some.inj hf; subst hf
      exact V_ireturn (pc := 57) hR rfl dX5_withQuota_57
    have hf := ite_f hf c5
    by_cases c8 : v2 = (nI 2)
    · have hf := ite_t hf c8
      refine V_tableIn (pc := 11) (tgt := 58) (off := 47) hC dX5_withQuota_11 (by rw [c8]; decide) (by rw [c8]; decide) (by rw [c8]; decide) (by decide) ?_
      refine V_aload_n (pc := 58) hC 0 dX5_withQuota_58 rfl rfl ?_
      obtain ⟨r9, g9, hf⟩ := bind_some hf
      refine V_callV (pc := 59) (rest := []) (As := []) hC lk_X5_145 (by decide) cel_X5 rfl (c_X5_currentPower  g9) rfl rfl (Nat.le_of_ble_eq_true rfl) (by decide) dX5_withQuota_59 ?_
      change V X E 3 62 [(0, .ref (E.2.1 (48))), (1, .int v1), (2, .int v2)] [.ref (E.2.1 (53))] r9
      refine V_iload_n (pc := 62) hC 1 dX5_withQuota_62 rfl rfl ?_
      obtain ⟨r10, g10, hf⟩ := bind_some hf
      refine V_callV (pc := 63) (rest := []) (As := [.int v1]) hC lk_X5_175 (by decide) cel_X2 rfl (c_X2_swingsOfAll  g10) rfl rfl (Nat.le_of_ble_eq_true rfl) (by decide) dX5_withQuota_63 ?_
      change V X E 3 66 [(0, .ref (E.2.1 (48))), (1, .int v1), (2, .int v2)] [.int r10] r9
      have hf := Option.some.inj hf; subst hf
      exact V_ireturn (pc := 66) hR rfl dX5_withQuota_66
    have hf := ite_f hf c8
    by_cases c11 : v2 = (nI 3)
    · have hf := ite_t hf c11
      refine V_tableIn (pc := 11) (tgt := 67) (off := 56) hC dX5_withQuota_11 (by rw [c11]; decide) (by rw [c11]; decide) (by rw [c11]; decide) (by decide) ?_
      refine V_aload_n (pc := 67) hC 0 dX5_withQuota_67 rfl rfl ?_
      obtain ⟨r12, g12, hf⟩ := bind_some hf
      refine V_callV (pc := 68) (rest := []) (As := []) hC lk_X5_145 (by decide) cel_X5 rfl (c_X5_currentPower  g12) rfl rfl (Nat.le_of_ble_eq_true rfl) (by decide) dX5_withQuota_68 ?_
      change V X E 3 71 [(0, .ref (E.2.1 (48))), (1, .int v1), (2, .int v2)] [.ref (E.2.1 (53))] r12
      refine V_iload_n (pc := 71) hC 1 dX5_withQuota_71 rfl rfl ?_
      obtain ⟨r13, g13, hf⟩ := bind_some hf
      refine V_callV (pc := 72) (rest := []) (As := [.int v1]) hC lk_X5_172 (by decide) cel_X2 rfl (c_X2_winningCoalitions  g13) rfl rfl (Nat.le_of_ble_eq_true rfl) (by decide) dX5_withQuota_72 ?_
      change V X E 3 75 [(0, .ref (E.2.1 (48))), (1, .int v1), (2, .int v2)] [.int r13] r12
      have hf := Option.some.inj hf; subst hf
      exact V_ireturn (pc := 75) hR rfl dX5_withQuota_75
    have hf := ite_f hf c11
    refine V_tableOut (pc := 11) (tgt := 76) hC dX5_withQuota_11 (by have zc2 := lv_neT c2 (a := 0) (by decide); have zc5 := lv_neT c5 (a := 1) (by decide); have zc8 := lv_neT c8 (a := 2) (by decide); have zc11 := lv_neT c11 (a := 3) (by decide); omega) (by decide) ?_
    refine V_bipush (pc := 76) hC dX5_withQuota_76 (v := (-2 : Int32)) (by decide) ?_
    have hf := Option.some.inj hf; subst hf
    exact V_ireturn (pc := 78) hR rfl dX5_withQuota_78
  · have hf := ite_t hf c1
    refine V_bipush (pc := 7) hC dX5_withQuota_7 (v := (-2 : Int32)) (by decide) ?_
    have hf := Option.some.inj hf; subst hf
    exact V_ireturn (pc := 9) hR rfl dX5_withQuota_9
def f_X5_leavesOut_47 (k : Nat) (I : Mem) (v1 : Int32) (v4 : Int32) : Nat → Int32 → Option (Int32 × Mem)
  | 0, _ => none
  | n + 1, v5 => (if v4 < v5 then some ((-5 : Int32), I) else (Option.bind (f_X2_isDummy k v1 v5 I) (fun r6 => (if r6 = 0 then (f_X5_leavesOut_47 k I v1 v4 n) (v5 + (nI 1)) else some (v5, I)))))
set_option maxHeartbeats 4000000 in
set_option maxRecDepth 100000 in
theorem b_X5_leavesOut_47 {X : XT} {E : EN} {k : Nat} {I : Mem} {v1 : Int32} {v4 : Int32} {r : Int32 × Mem} (hC : Cx X E cX5_leavesOut 6 RX5 6 128) (hR : Rt X E cX5_leavesOut (some .int) (some (.int r.1)) r.2) : ∀ (n : Nat) (v5 : Int32), f_X5_leavesOut_47 k I v1 v4 n v5 = some r → V X E 6 47 [(1, .int v1), (3, .ref (E.2.1 (53))), (4, .int v4), (5, .int v5)] [] I := by
  intro n
  induction n with
  | zero =>
    intro v5 hf
    rw [f_X5_leavesOut_47] at hf
    cases hf
  | succ n ih =>
    intro v5 hf
    rw [f_X5_leavesOut_47] at hf
    refine V_iload (pc := 47) hC 3 dX5_leavesOut_47 rfl ?_
    refine V_iload (pc := 49) hC 2 dX5_leavesOut_49 rfl ?_
    refine V_icmp_gt (pc := 51) (tgt := 73) hC dX5_leavesOut_51 (by decide) (fun c5 => ?_) (fun c5 => ?_)
    · have hf := ite_t hf c5
      refine V_bipush (pc := 73) hC dX5_leavesOut_73 (v := (-5 : Int32)) (by decide) ?_
      have hf := Option.some.inj hf; subst hf
      exact V_ireturn (pc := 75) hR rfl dX5_leavesOut_75
    · have hf := ite_f hf c5
      refine V_aload_n (pc := 54) hC 1 dX5_leavesOut_54 rfl rfl ?_
      refine V_iload_n (pc := 55) hC 0 dX5_leavesOut_55 rfl rfl ?_
      refine V_iload (pc := 56) hC 3 dX5_leavesOut_56 rfl ?_
      obtain ⟨r6, g6, hf⟩ := bind_some hf
      refine V_callV (pc := 58) (rest := []) (As := [.int v1, .int v5]) hC lk_X5_156 (by decide) cel_X2 rfl (c_X2_isDummy  g6) rfl rfl (Nat.le_of_ble_eq_true rfl) (by decide) dX5_leavesOut_58 ?_
      change V X E 6 61 [(1, .int v1), (3, .ref (E.2.1 (53))), (4, .int v4), (5, .int v5)] [.int r6] I
      refine V_if_eq (pc := 61) (tgt := 67) hC dX5_leavesOut_61 (by decide) (fun c7 => ?_) (fun c7 => ?_)
      · have hf := ite_t hf c7
        refine V_iinc (pc := 67) (lv' := [(5, .int (v5 + (nI 1))), (1, .int v1), (3, .ref (E.2.1 (53))), (4, .int v4)]) hC (nI 1) 3 dX5_leavesOut_67 rfl (by decide) (by decide) rfl ?_
        refine V_goto (pc := 70) (tgt := 47) hC dX5_leavesOut_70 (by decide) ?_
        refine V_sub (pc := 47) (lv' := [(1, .int v1), (3, .ref (E.2.1 (53))), (4, .int v4), (5, .int (v5 + (nI 1)))]) [1, 2, 3, 0] rfl ?_
        exact ih (v5 + (nI 1)) hf
      · have hf := ite_f hf c7
        refine V_iload (pc := 64) hC 3 dX5_leavesOut_64 rfl ?_
        have hf := Option.some.inj hf; subst hf
        exact V_ireturn (pc := 66) hR rfl dX5_leavesOut_66
def f_X5_leavesOut (k : Nat) (v1 : Int32) (v2 : Int32) (I : Mem) : Option (Int32 × Mem) := (if (f_X3_has 0 v1 I) = 0 then some ((-1 : Int32), I) else (if (f_X5_isQuota v2) = 0 then some ((-2 : Int32), I) else (Option.bind (f_X5_currentPower k I) (fun r3 => (Option.bind (f_X3_weightOf k 0 (f_X3_everyone 0 r3) r3) (fun r4 => f_X5_leavesOut_47 k r3 v1 r4 k v2))))))
set_option maxHeartbeats 4000000 in
set_option maxRecDepth 100000 in
theorem c_X5_leavesOut {E : EN} {k : Nat} {v1 : Int32} {v2 : Int32} {I : Mem} {r : Int32 × Mem} (hf : f_X5_leavesOut k v1 v2 I = some r) : Ct E yX5_leavesOut cX5_leavesOut 6 (some .int) 6 128 [.ref (E.2.1 (48)), .int v1, .int v2] I (some (.int r.1)) r.2 := by
  refine Ct_of (by decide) (Nat.le_of_ble_eq_true rfl) (fun X hC0 hR => ?_)
  have hC : Cx X E cX5_leavesOut 6 RX5 6 128 := hC0
  change V X E 6 0 [(0, .ref (E.2.1 (48))), (1, .int v1), (2, .int v2)] [] I
  unfold f_X5_leavesOut at hf
  refine V_aload_n (pc := 0) hC 0 dX5_leavesOut_0 rfl rfl ?_
  refine gf_X5_10 (pc := 1) hC dX5_leavesOut_1 ?_
  refine V_iload_n (pc := 4) hC 1 dX5_leavesOut_4 rfl rfl ?_
  refine V_callV (pc := 5) (rest := []) (As := [.int v1]) hC lk_X5_55 (by omega) (cel_State (by decide)) rfl (c_X3_has (by decide) rfl) rfl rfl (Nat.le_of_ble_eq_true rfl) (by decide) dX5_leavesOut_5 ?_
  change V X E 6 8 [(0, .ref (E.2.1 (48))), (1, .int v1), (2, .int v2)] [.int (f_X3_has 0 v1 I)] I
  refine V_if_ne (pc := 8) (tgt := 13) hC dX5_leavesOut_8 (by decide) (fun c1 => ?_) (fun c1 => ?_)
  · have hf := ite_f hf c1
    refine V_iload_n (pc := 13) hC 2 dX5_leavesOut_13 rfl rfl ?_
    refine V_callS (pc := 14) (rest := []) (As := [.int v2]) hC lk_X5_77 (c_X5_isQuota  rfl) rfl rfl (Nat.le_of_ble_eq_true rfl) (by decide) dX5_leavesOut_14 ?_
    change V X E 6 17 [(0, .ref (E.2.1 (48))), (1, .int v1), (2, .int v2)] [.int (f_X5_isQuota v2)] I
    refine V_if_ne (pc := 17) (tgt := 23) hC dX5_leavesOut_17 (by decide) (fun c2 => ?_) (fun c2 => ?_)
    · have hf := ite_f hf c2
      refine V_aload_n (pc := 23) hC 0 dX5_leavesOut_23 rfl rfl ?_
      obtain ⟨r3, g3, hf⟩ := bind_some hf
      refine V_callV (pc := 24) (rest := []) (As := []) hC lk_X5_145 (by decide) cel_X5 rfl (c_X5_currentPower  g3) rfl rfl (Nat.le_of_ble_eq_true rfl) (by decide) dX5_leavesOut_24 ?_
      change V X E 6 27 [(0, .ref (E.2.1 (48))), (1, .int v1), (2, .int v2)] [.ref (E.2.1 (53))] r3
      refine V_astore_n (pc := 27) (lv' := [(3, .ref (E.2.1 (53))), (0, .ref (E.2.1 (48))), (1, .int v1), (2, .int v2)]) hC dX5_leavesOut_27 rfl (by decide) rfl ?_
      refine V_aload_n (pc := 28) hC 1 dX5_leavesOut_28 rfl rfl ?_
      refine gf_X5_10 (pc := 29) hC dX5_leavesOut_29 ?_
      refine V_aload_n (pc := 32) hC 1 dX5_leavesOut_32 rfl rfl ?_
      refine gf_X5_10 (pc := 33) hC dX5_leavesOut_33 ?_
      refine V_callV (pc := 36) (rest := [.ref (E.2.1 (8 * 0))]) (As := []) hC lk_X5_188 (by omega) (cel_State (by decide)) rfl (c_X3_everyone (by decide) rfl) rfl rfl (Nat.le_of_ble_eq_true rfl) (by decide) dX5_leavesOut_36 ?_
      change V X E 6 39 [(3, .ref (E.2.1 (53))), (0, .ref (E.2.1 (48))), (1, .int v1), (2, .int v2)] [.int (f_X3_everyone 0 r3), .ref (E.2.1 (8 * 0))] r3
      obtain ⟨r4, g4, hf⟩ := bind_some hf
      refine V_callV (pc := 39) (rest := []) (As := [.int (f_X3_everyone 0 r3)]) hC lk_X5_139 (by omega) (cel_State (by decide)) rfl (c_X3_weightOf (by decide) g4) rfl rfl (Nat.le_of_ble_eq_true rfl) (by decide) dX5_leavesOut_39 ?_
      change V X E 6 42 [(3, .ref (E.2.1 (53))), (0, .ref (E.2.1 (48))), (1, .int v1), (2, .int v2)] [.int r4] r3
      refine V_istore (pc := 42) (lv' := [(4, .int r4), (3, .ref (E.2.1 (53))), (0, .ref (E.2.1 (48))), (1, .int v1), (2, .int v2)]) hC dX5_leavesOut_42 (by decide) rfl ?_
      refine V_iload_n (pc := 44) hC 4 dX5_leavesOut_44 rfl rfl ?_
      refine V_istore (pc := 45) (lv' := [(5, .int v2), (4, .int r4), (3, .ref (E.2.1 (53))), (0, .ref (E.2.1 (48))), (1, .int v1), (2, .int v2)]) hC dX5_leavesOut_45 (by decide) rfl ?_
      refine V_sub (pc := 47) (lv' := [(1, .int v1), (3, .ref (E.2.1 (53))), (4, .int r4), (5, .int v2)]) [4, 2, 1, 0] rfl ?_
      exact b_X5_leavesOut_47 hC hR k v2 hf
    · have hf := ite_t hf c2
      refine V_bipush (pc := 20) hC dX5_leavesOut_20 (v := (-2 : Int32)) (by decide) ?_
      have hf := Option.some.inj hf; subst hf
      exact V_ireturn (pc := 22) hR rfl dX5_leavesOut_22
  · have hf := ite_t hf c1
    refine V_iconst (pc := 11) hC dX5_leavesOut_11 (v := (-1 : Int32)) (by decide) ?_
    have hf := Option.some.inj hf; subst hf
    exact V_ireturn (pc := 12) hR rfl dX5_leavesOut_12
def f_X5_fairest_47 (k : Nat) (I : Mem) (v1 : Int32) : Nat → Int32 → Int64 → Int64 → Int32 → Option (Int32 × Mem)
  | 0, _, _, _, _ => none
  | n + 1, v3, v4, v6, v8 => (if v1 < v8 then some (v3, I) else (Option.bind (f_X2_distance k v8 I) (fun r7 => (Option.bind (f_X2_swingsOfAll k v8 I) (fun r8 => (if 0 ≤ (lg_cmp (r7 * v6) (v4 * (Int32.toInt64 r8))) then (f_X5_fairest_47 k I v1 n) v3 v4 v6 (v8 + (nI 1)) else (f_X5_fairest_47 k I v1 n) v8 r7 (Int32.toInt64 r8) (v8 + (nI 1))))))))
set_option maxHeartbeats 4000000 in
set_option maxRecDepth 100000 in
theorem b_X5_fairest_47 {X : XT} {E : EN} {k : Nat} {I : Mem} {v1 : Int32} {r : Int32 × Mem} (hC : Cx X E cX5_fairest 13 RX5 6 128) (hR : Rt X E cX5_fairest (some .int) (some (.int r.1)) r.2) : ∀ (n : Nat) (v3 : Int32) (v4 : Int64) (v6 : Int64) (v8 : Int32), f_X5_fairest_47 k I v1 n v3 v4 v6 v8 = some r → V X E 13 47 [(1, .int v1), (2, .ref (E.2.1 (53))), (3, .int v3), (4, .long v4), (6, .long v6), (8, .int v8)] [] I := by
  intro n
  induction n with
  | zero =>
    intro v3 v4 v6 v8 hf
    rw [f_X5_fairest_47] at hf
    cases hf
  | succ n ih =>
    intro v3 v4 v6 v8 hf
    rw [f_X5_fairest_47] at hf
    refine V_iload (pc := 47) hC 5 dX5_fairest_47 rfl ?_
    refine V_iload_n (pc := 49) hC 0 dX5_fairest_49 rfl rfl ?_
    refine V_icmp_gt (pc := 50) (tgt := 101) hC dX5_fairest_50 (by decide) (fun c6 => ?_) (fun c6 => ?_)
    · have hf := ite_t hf c6
      refine V_iload_n (pc := 101) hC 2 dX5_fairest_101 rfl rfl ?_
      have hf := Option.some.inj hf; subst hf
      exact V_ireturn (pc := 102) hR rfl dX5_fairest_102
    · have hf := ite_f hf c6
      refine V_aload_n (pc := 53) hC 1 dX5_fairest_53 rfl rfl ?_
      refine V_iload (pc := 54) hC 5 dX5_fairest_54 rfl ?_
      obtain ⟨r7, g7, hf⟩ := bind_some hf
      refine V_callV (pc := 56) (rest := []) (As := [.int v8]) hC lk_X5_209 (by decide) cel_X2 rfl (c_X2_distance  g7) rfl rfl (Nat.le_of_ble_eq_true rfl) (by decide) dX5_fairest_56 ?_
      change V X E 13 59 [(1, .int v1), (2, .ref (E.2.1 (53))), (3, .int v3), (4, .long v4), (6, .long v6), (8, .int v8)] [.long r7] I
      refine V_lstore (pc := 59) (lv' := [(9, .long r7), (1, .int v1), (2, .ref (E.2.1 (53))), (3, .int v3), (4, .long v4), (6, .long v6), (8, .int v8)]) hC dX5_fairest_59 (by decide) rfl ?_
      refine V_aload_n (pc := 61) hC 2 dX5_fairest_61 rfl rfl ?_
      refine V_iload (pc := 62) hC 6 dX5_fairest_62 rfl ?_
      obtain ⟨r8, g8, hf⟩ := bind_some hf
      refine V_callV (pc := 64) (rest := []) (As := [.int v8]) hC lk_X5_175 (by decide) cel_X2 rfl (c_X2_swingsOfAll  g8) rfl rfl (Nat.le_of_ble_eq_true rfl) (by decide) dX5_fairest_64 ?_
      change V X E 13 67 [(9, .long r7), (1, .int v1), (2, .ref (E.2.1 (53))), (3, .int v3), (4, .long v4), (6, .long v6), (8, .int v8)] [.int r8] I
      refine V_i2l (pc := 67) hC dX5_fairest_67 ?_
      refine V_lstore (pc := 68) (lv' := [(11, .long (Int32.toInt64 r8)), (9, .long r7), (1, .int v1), (2, .ref (E.2.1 (53))), (3, .int v3), (4, .long v4), (6, .long v6), (8, .int v8)]) hC dX5_fairest_68 (by decide) rfl ?_
      refine V_lload (pc := 70) hC 1 dX5_fairest_70 rfl ?_
      refine V_lload (pc := 72) hC 6 dX5_fairest_72 rfl ?_
      refine V_lmul (pc := 74) hC dX5_fairest_74 ?_
      refine V_lload (pc := 75) hC 5 dX5_fairest_75 rfl ?_
      refine V_lload (pc := 77) hC 0 dX5_fairest_77 rfl ?_
      refine V_lmul (pc := 79) hC dX5_fairest_79 ?_
      refine V_lcmp (pc := 80) hC dX5_fairest_80 ?_
      refine V_if_ge (pc := 81) (tgt := 95) hC dX5_fairest_81 (by decide) (fun c9 => ?_) (fun c9 => ?_)
      · have hf := ite_t hf c9
        refine V_iinc (pc := 95) (lv' := [(8, .int (v8 + (nI 1))), (11, .long (Int32.toInt64 r8)), (9, .long r7), (1, .int v1), (2, .ref (E.2.1 (53))), (3, .int v3), (4, .long v4), (6, .long v6)]) hC (nI 1) 7 dX5_fairest_95 rfl (by decide) (by decide) rfl ?_
        refine V_goto (pc := 98) (tgt := 47) hC dX5_fairest_98 (by decide) ?_
        refine V_sub (pc := 47) (lv' := [(1, .int v1), (2, .ref (E.2.1 (53))), (3, .int v3), (4, .long v4), (6, .long v6), (8, .int (v8 + (nI 1)))]) [3, 4, 5, 6, 7, 0] rfl ?_
        exact ih v3 v4 v6 (v8 + (nI 1)) hf
      · have hf := ite_f hf c9
        refine V_iload (pc := 84) hC 7 dX5_fairest_84 rfl ?_
        refine V_istore_n (pc := 86) (lv' := [(3, .int v8), (11, .long (Int32.toInt64 r8)), (9, .long r7), (1, .int v1), (2, .ref (E.2.1 (53))), (4, .long v4), (6, .long v6), (8, .int v8)]) hC dX5_fairest_86 rfl (by decide) rfl ?_
        refine V_lload (pc := 87) hC 2 dX5_fairest_87 rfl ?_
        refine V_lstore (pc := 89) (lv' := [(4, .long r7), (3, .int v8), (11, .long (Int32.toInt64 r8)), (9, .long r7), (1, .int v1), (2, .ref (E.2.1 (53))), (6, .long v6), (8, .int v8)]) hC dX5_fairest_89 (by decide) rfl ?_
        refine V_lload (pc := 91) hC 2 dX5_fairest_91 rfl ?_
        refine V_lstore (pc := 93) (lv' := [(6, .long (Int32.toInt64 r8)), (4, .long r7), (3, .int v8), (11, .long (Int32.toInt64 r8)), (9, .long r7), (1, .int v1), (2, .ref (E.2.1 (53))), (8, .int v8)]) hC dX5_fairest_93 (by decide) rfl ?_
        refine V_iinc (pc := 95) (lv' := [(8, .int (v8 + (nI 1))), (6, .long (Int32.toInt64 r8)), (4, .long r7), (3, .int v8), (11, .long (Int32.toInt64 r8)), (9, .long r7), (1, .int v1), (2, .ref (E.2.1 (53)))]) hC (nI 1) 7 dX5_fairest_95 rfl (by decide) (by decide) rfl ?_
        refine V_goto (pc := 98) (tgt := 47) hC dX5_fairest_98 (by decide) ?_
        refine V_sub (pc := 47) (lv' := [(1, .int v1), (2, .ref (E.2.1 (53))), (3, .int v8), (4, .long r7), (6, .long (Int32.toInt64 r8)), (8, .int (v8 + (nI 1)))]) [6, 7, 3, 2, 1, 0] rfl ?_
        exact ih v8 r7 (Int32.toInt64 r8) (v8 + (nI 1)) hf
def f_X5_fairest (k : Nat) (I : Mem) : Option (Int32 × Mem) := (Option.bind (f_X3_weightOf k 0 (f_X3_everyone 0 I) I) (fun r1 => (if r1 = 0 then some ((-5 : Int32), I) else (Option.bind (f_X5_currentPower k I) (fun r3 => (Option.bind (f_X2_distance k (nI 1) r3) (fun r4 => (Option.bind (f_X2_swingsOfAll k (nI 1) r3) (fun r5 => f_X5_fairest_47 k r3 r1 k (nI 1) r4 (Int32.toInt64 r5) (nI 2))))))))))
set_option maxHeartbeats 4000000 in
set_option maxRecDepth 100000 in
theorem c_X5_fairest {E : EN} {k : Nat} {I : Mem} {r : Int32 × Mem} (hf : f_X5_fairest k I = some r) : Ct E yX5_fairest cX5_fairest 13 (some .int) 6 128 [.ref (E.2.1 (48))] I (some (.int r.1)) r.2 := by
  refine Ct_of (by decide) (Nat.le_of_ble_eq_true rfl) (fun X hC0 hR => ?_)
  have hC : Cx X E cX5_fairest 13 RX5 6 128 := hC0
  change V X E 13 0 [(0, .ref (E.2.1 (48)))] [] I
  unfold f_X5_fairest at hf
  refine V_aload_n (pc := 0) hC 0 dX5_fairest_0 rfl rfl ?_
  refine gf_X5_10 (pc := 1) hC dX5_fairest_1 ?_
  refine V_aload_n (pc := 4) hC 0 dX5_fairest_4 rfl rfl ?_
  refine gf_X5_10 (pc := 5) hC dX5_fairest_5 ?_
  refine V_callV (pc := 8) (rest := [.ref (E.2.1 (8 * 0))]) (As := []) hC lk_X5_188 (by omega) (cel_State (by decide)) rfl (c_X3_everyone (by decide) rfl) rfl rfl (Nat.le_of_ble_eq_true rfl) (by decide) dX5_fairest_8 ?_
  change V X E 13 11 [(0, .ref (E.2.1 (48)))] [.int (f_X3_everyone 0 I), .ref (E.2.1 (8 * 0))] I
  obtain ⟨r1, g1, hf⟩ := bind_some hf
  refine V_callV (pc := 11) (rest := []) (As := [.int (f_X3_everyone 0 I)]) hC lk_X5_139 (by omega) (cel_State (by decide)) rfl (c_X3_weightOf (by decide) g1) rfl rfl (Nat.le_of_ble_eq_true rfl) (by decide) dX5_fairest_11 ?_
  change V X E 13 14 [(0, .ref (E.2.1 (48)))] [.int r1] I
  refine V_istore_n (pc := 14) (lv' := [(1, .int r1), (0, .ref (E.2.1 (48)))]) hC dX5_fairest_14 rfl (by decide) rfl ?_
  refine V_iload_n (pc := 15) hC 0 dX5_fairest_15 rfl rfl ?_
  refine V_if_ne (pc := 16) (tgt := 22) hC dX5_fairest_16 (by decide) (fun c2 => ?_) (fun c2 => ?_)
  · have hf := ite_f hf c2
    refine V_aload_n (pc := 22) hC 1 dX5_fairest_22 rfl rfl ?_
    obtain ⟨r3, g3, hf⟩ := bind_some hf
    refine V_callV (pc := 23) (rest := []) (As := []) hC lk_X5_145 (by decide) cel_X5 rfl (c_X5_currentPower  g3) rfl rfl (Nat.le_of_ble_eq_true rfl) (by decide) dX5_fairest_23 ?_
    change V X E 13 26 [(1, .int r1), (0, .ref (E.2.1 (48)))] [.ref (E.2.1 (53))] r3
    refine V_astore_n (pc := 26) (lv' := [(2, .ref (E.2.1 (53))), (1, .int r1), (0, .ref (E.2.1 (48)))]) hC dX5_fairest_26 rfl (by decide) rfl ?_
    refine V_iconst (pc := 27) hC dX5_fairest_27 (v := (nI 1)) (by decide) ?_
    refine V_istore_n (pc := 28) (lv' := [(3, .int (nI 1)), (2, .ref (E.2.1 (53))), (1, .int r1), (0, .ref (E.2.1 (48)))]) hC dX5_fairest_28 rfl (by decide) rfl ?_
    refine V_aload_n (pc := 29) hC 1 dX5_fairest_29 rfl rfl ?_
    refine V_iload_n (pc := 30) hC 0 dX5_fairest_30 rfl rfl ?_
    obtain ⟨r4, g4, hf⟩ := bind_some hf
    refine V_callV (pc := 31) (rest := []) (As := [.int (nI 1)]) hC lk_X5_209 (by decide) cel_X2 rfl (c_X2_distance  g4) rfl rfl (Nat.le_of_ble_eq_true rfl) (by decide) dX5_fairest_31 ?_
    change V X E 13 34 [(3, .int (nI 1)), (2, .ref (E.2.1 (53))), (1, .int r1), (0, .ref (E.2.1 (48)))] [.long r4] r3
    refine V_lstore (pc := 34) (lv' := [(4, .long r4), (3, .int (nI 1)), (2, .ref (E.2.1 (53))), (1, .int r1), (0, .ref (E.2.1 (48)))]) hC dX5_fairest_34 (by decide) rfl ?_
    refine V_aload_n (pc := 36) hC 2 dX5_fairest_36 rfl rfl ?_
    refine V_iload_n (pc := 37) hC 1 dX5_fairest_37 rfl rfl ?_
    obtain ⟨r5, g5, hf⟩ := bind_some hf
    refine V_callV (pc := 38) (rest := []) (As := [.int (nI 1)]) hC lk_X5_175 (by decide) cel_X2 rfl (c_X2_swingsOfAll  g5) rfl rfl (Nat.le_of_ble_eq_true rfl) (by decide) dX5_fairest_38 ?_
    change V X E 13 41 [(4, .long r4), (3, .int (nI 1)), (2, .ref (E.2.1 (53))), (1, .int r1), (0, .ref (E.2.1 (48)))] [.int r5] r3
    refine V_i2l (pc := 41) hC dX5_fairest_41 ?_
    refine V_lstore (pc := 42) (lv' := [(6, .long (Int32.toInt64 r5)), (4, .long r4), (3, .int (nI 1)), (2, .ref (E.2.1 (53))), (1, .int r1), (0, .ref (E.2.1 (48)))]) hC dX5_fairest_42 (by decide) rfl ?_
    refine V_iconst (pc := 44) hC dX5_fairest_44 (v := (nI 2)) (by decide) ?_
    refine V_istore (pc := 45) (lv' := [(8, .int (nI 2)), (6, .long (Int32.toInt64 r5)), (4, .long r4), (3, .int (nI 1)), (2, .ref (E.2.1 (53))), (1, .int r1), (0, .ref (E.2.1 (48)))]) hC dX5_fairest_45 (by decide) rfl ?_
    refine V_sub (pc := 47) (lv' := [(1, .int r1), (2, .ref (E.2.1 (53))), (3, .int (nI 1)), (4, .long r4), (6, .long (Int32.toInt64 r5)), (8, .int (nI 2))]) [5, 4, 3, 2, 1, 0] rfl ?_
    exact b_X5_fairest_47 hC hR k (nI 1) r4 (Int32.toInt64 r5) (nI 2) hf
  · have hf := ite_t hf c2
    refine V_bipush (pc := 19) hC dX5_fairest_19 (v := (-5 : Int32)) (by decide) ?_
    have hf := Option.some.inj hf; subst hf
    exact V_ireturn (pc := 21) hR rfl dX5_fairest_21
def f_X5_ballot (k : Nat) (v1 : Int32) (v2 : Int32) (I : Mem) : Option (Int32) := (if v1 < 0 then some (-2 : Int32) else (if v2 < 0 then some (-2 : Int32) else (if v2 ≤ (nI 2) then (if (nI 8) ≤ v1 then some (-5 : Int32) else (if v1 < (I (8 * 0 + 4) 0) then (if v2 = (nI 0) then (if inB v1 8 = true then some (I (8 * 0 + 5) (Int32.toNatClampNeg v1)) else none) else (if v2 = (nI 1) then (if inB v1 8 = true then some (I (8 * 0 + 6) (Int32.toNatClampNeg v1)) else none) else (if inB v1 8 = true then some (I (8 * 0 + 7) (Int32.toNatClampNeg v1)) else none))) else some (-5 : Int32))) else some (-2 : Int32))))
set_option maxHeartbeats 4000000 in
set_option maxRecDepth 100000 in
theorem c_X5_ballot {E : EN} {k : Nat} {v1 : Int32} {v2 : Int32} {I : Mem} {r : Int32} (hf : f_X5_ballot k v1 v2 I = some r) : Ct E yX5_ballot cX5_ballot 3 (some .int) 0 0 [.ref (E.2.1 (48)), .int v1, .int v2] I (some (.int r)) I := by
  refine Ct_of (by decide) (Nat.le_of_ble_eq_true rfl) (fun X hC0 hR => ?_)
  have hC : Cx X E cX5_ballot 3 RX5 0 0 := hC0
  change V X E 3 0 [(0, .ref (E.2.1 (48))), (1, .int v1), (2, .int v2)] [] I
  unfold f_X5_ballot at hf
  refine V_iload_n (pc := 0) hC 1 dX5_ballot_0 rfl rfl ?_
  refine V_if_lt (pc := 1) (tgt := 13) hC dX5_ballot_1 (by decide) (fun c1 => ?_) (fun c1 => ?_)
  · have hf := ite_t hf c1
    refine V_bipush (pc := 13) hC dX5_ballot_13 (v := (-2 : Int32)) (by decide) ?_
    have hf := Option.some.inj hf; subst hf
    exact V_ireturn (pc := 15) hR rfl dX5_ballot_15
  · have hf := ite_f hf c1
    refine V_iload_n (pc := 4) hC 2 dX5_ballot_4 rfl rfl ?_
    refine V_if_lt (pc := 5) (tgt := 13) hC dX5_ballot_5 (by decide) (fun c2 => ?_) (fun c2 => ?_)
    · have hf := ite_t hf c2
      refine V_bipush (pc := 13) hC dX5_ballot_13 (v := (-2 : Int32)) (by decide) ?_
      have hf := Option.some.inj hf; subst hf
      exact V_ireturn (pc := 15) hR rfl dX5_ballot_15
    · have hf := ite_f hf c2
      refine V_iload_n (pc := 8) hC 2 dX5_ballot_8 rfl rfl ?_
      refine V_iconst (pc := 9) hC dX5_ballot_9 (v := (nI 2)) (by decide) ?_
      refine V_icmp_le (pc := 10) (tgt := 16) hC dX5_ballot_10 (by decide) (fun c3 => ?_) (fun c3 => ?_)
      · have hf := ite_t hf c3
        refine V_iload_n (pc := 16) hC 1 dX5_ballot_16 rfl rfl ?_
        refine V_bipush (pc := 17) hC dX5_ballot_17 (v := (nI 8)) (by decide) ?_
        refine V_icmp_ge (pc := 19) (tgt := 36) hC dX5_ballot_19 (by decide) (fun c4 => ?_) (fun c4 => ?_)
        · have hf := ite_t hf c4
          refine V_bipush (pc := 36) hC dX5_ballot_36 (v := (-5 : Int32)) (by decide) ?_
          have hf := Option.some.inj hf; subst hf
          exact V_ireturn (pc := 38) hR rfl dX5_ballot_38
        · have hf := ite_f hf c4
          refine V_iload_n (pc := 22) hC 1 dX5_ballot_22 rfl rfl ?_
          refine V_aload_n (pc := 23) hC 0 dX5_ballot_23 rfl rfl ?_
          refine gf_X5_10 (pc := 24) hC dX5_ballot_24 ?_
          refine gf_X5_102 (pc := 27) (by decide) hC dX5_ballot_27 ?_
          refine gf_X5_213 (pc := 30) (by decide) hC dX5_ballot_30 ?_
          refine V_icmp_lt (pc := 33) (tgt := 39) hC dX5_ballot_33 (by decide) (fun c5 => ?_) (fun c5 => ?_)
          · have hf := ite_t hf c5
            refine V_iload_n (pc := 39) hC 2 dX5_ballot_39 rfl rfl ?_
            by_cases c6 : v2 = (nI 0)
            · have hf := ite_t hf c6
              refine V_lookup (pc := 40) (tgt := 68) (off := 28) hC dX5_ballot_40 (by decide) (by rw [c6]; decide) (by decide) ?_
              refine V_aload_n (pc := 68) hC 0 dX5_ballot_68 rfl rfl ?_
              refine gf_X5_10 (pc := 69) hC dX5_ballot_69 ?_
              refine gf_X5_102 (pc := 72) (by decide) hC dX5_ballot_72 ?_
              refine gf_X5_216 (pc := 75) (by decide) hC dX5_ballot_75 ?_
              refine V_iload_n (pc := 78) hC 1 dX5_ballot_78 rfl rfl ?_
              obtain ⟨h7, hf⟩ := if_some hf
              refine V_iald (pc := 79) hC (ia_ba (by decide) (by decide) (by decide)) (inB_of h7) dX5_ballot_79 ?_
              have hf := Option.some.inj hf; subst hf
              exact V_ireturn (pc := 80) hR rfl dX5_ballot_80
            have hf := ite_f hf c6
            by_cases c8 : v2 = (nI 1)
            · have hf := ite_t hf c8
              refine V_lookup (pc := 40) (tgt := 81) (off := 41) hC dX5_ballot_40 (by decide) (by rw [c8]; decide) (by decide) ?_
              refine V_aload_n (pc := 81) hC 0 dX5_ballot_81 rfl rfl ?_
              refine gf_X5_10 (pc := 82) hC dX5_ballot_82 ?_
              refine gf_X5_102 (pc := 85) (by decide) hC dX5_ballot_85 ?_
              refine gf_X5_219 (pc := 88) (by decide) hC dX5_ballot_88 ?_
              refine V_iload_n (pc := 91) hC 1 dX5_ballot_91 rfl rfl ?_
              obtain ⟨h9, hf⟩ := if_some hf
              refine V_iald (pc := 92) hC (ia_ba (by decide) (by decide) (by decide)) (inB_of h9) dX5_ballot_92 ?_
              have hf := Option.some.inj hf; subst hf
              exact V_ireturn (pc := 93) hR rfl dX5_ballot_93
            have hf := ite_f hf c8
            refine V_lookup (pc := 40) (tgt := 94) (off := 54) hC dX5_ballot_40 (by decide) (by show Op.lookupswitch.offset [(0, 28), (1, 41)] 54 _ = _; rw [lv_osw c6 (by decide), lv_osw c8 (by decide)]; rfl) (by decide) ?_
            refine V_aload_n (pc := 94) hC 0 dX5_ballot_94 rfl rfl ?_
            refine gf_X5_10 (pc := 95) hC dX5_ballot_95 ?_
            refine gf_X5_102 (pc := 98) (by decide) hC dX5_ballot_98 ?_
            refine gf_X5_222 (pc := 101) (by decide) hC dX5_ballot_101 ?_
            refine V_iload_n (pc := 104) hC 1 dX5_ballot_104 rfl rfl ?_
            obtain ⟨h10, hf⟩ := if_some hf
            refine V_iald (pc := 105) hC (ia_ba (by decide) (by decide) (by decide)) (inB_of h10) dX5_ballot_105 ?_
            have hf := Option.some.inj hf; subst hf
            exact V_ireturn (pc := 106) hR rfl dX5_ballot_106
          · have hf := ite_f hf c5
            refine V_bipush (pc := 36) hC dX5_ballot_36 (v := (-5 : Int32)) (by decide) ?_
            have hf := Option.some.inj hf; subst hf
            exact V_ireturn (pc := 38) hR rfl dX5_ballot_38
      · have hf := ite_f hf c3
        refine V_bipush (pc := 13) hC dX5_ballot_13 (v := (-2 : Int32)) (by decide) ?_
        have hf := Option.some.inj hf; subst hf
        exact V_ireturn (pc := 15) hR rfl dX5_ballot_15
def f_X5_count (k : Nat) (v1 : Int32) (I : Mem) : Option (Int32 × Mem) := (if v1 = (nI 0) then some (I (8 * 0) 0, I) else (if v1 = (nI 1) then (Option.bind (f_X3_blocCount k 0 I) (fun r3 => some (r3, I))) else (if v1 = (nI 2) then some (I (8 * 0) 1, I) else (if v1 = (nI 3) then (Option.bind (f_X3_weightOf k 0 (f_X3_everyone 0 I) I) (fun r6 => some (r6, I))) else (if v1 = (nI 4) then (Option.bind (f_X5_currentPower k I) (fun r8 => (Option.bind (f_X2_winningCoalitions k (r8 (8 * 0) 1) r8) (fun r9 => some (r9, r8))))) else (if v1 = (nI 5) then (Option.bind (f_X5_currentPower k I) (fun r11 => (Option.bind (f_X2_leastCoalitions k r11) (fun r12 => some (r12.1, r12.2))))) else (if v1 = (nI 6) then (Option.bind (f_X5_currentPower k I) (fun r14 => (Option.bind (f_X2_swingsOfAll k (r14 (8 * 0) 1) r14) (fun r15 => some (r15, r14))))) else (if v1 = (nI 7) then (Option.bind (f_X5_currentPower k I) (fun r17 => (Option.bind (f_X2_dummies k (r17 (8 * 0) 1) r17) (fun r18 => some (r18, r17))))) else (if v1 = (nI 8) then some ((f_J6_bitCount_0f7a4 (I (8 * 0) 2)), I) else (if v1 = (nI 9) then some (I (8 * 0 + 4) 0, I) else (if v1 = (nI 10) then some (I (8 * 0 + 4) 1, I) else (if v1 = (nI 11) then some (I (49) 1, I) else (if v1 = (nI 12) then some (I (51) 1, I) else some ((-2 : Int32), I))))))))))))))
set_option maxHeartbeats 4000000 in
set_option maxRecDepth 100000 in
theorem c_X5_count {E : EN} {k : Nat} {v1 : Int32} {I : Mem} {r : Int32 × Mem} (hf : f_X5_count k v1 I = some r) : Ct E yX5_count cX5_count 2 (some .int) 6 128 [.ref (E.2.1 (48)), .int v1] I (some (.int r.1)) r.2 := by
  refine Ct_of (by decide) (Nat.le_of_ble_eq_true rfl) (fun X hC0 hR => ?_)
  have hC : Cx X E cX5_count 2 RX5 6 128 := hC0
  change V X E 2 0 [(0, .ref (E.2.1 (48))), (1, .int v1)] [] I
  unfold f_X5_count at hf
  refine V_iload_n (pc := 0) hC 1 dX5_count_0 rfl rfl ?_
  by_cases c1 : v1 = (nI 0)
  · have hf := ite_t hf c1
    refine V_tableIn (pc := 1) (tgt := 68) (off := 67) hC dX5_count_1 (by rw [c1]; decide) (by rw [c1]; decide) (by rw [c1]; decide) (by decide) ?_
    refine V_aload_n (pc := 68) hC 0 dX5_count_68 rfl rfl ?_
    refine gf_X5_10 (pc := 69) hC dX5_count_69 ?_
    refine gf_X5_44 (pc := 72) (by decide) hC dX5_count_72 ?_
    have hf := Option.some.inj hf; subst hf
    exact V_ireturn (pc := 75) hR rfl dX5_count_75
  have hf := ite_f hf c1
  by_cases c2 : v1 = (nI 1)
  · have hf := ite_t hf c2
    refine V_tableIn (pc := 1) (tgt := 76) (off := 75) hC dX5_count_1 (by rw [c2]; decide) (by rw [c2]; decide) (by rw [c2]; decide) (by decide) ?_
    refine V_aload_n (pc := 76) hC 0 dX5_count_76 rfl rfl ?_
    refine gf_X5_10 (pc := 77) hC dX5_count_77 ?_
    obtain ⟨r3, g3, hf⟩ := bind_some hf
    refine V_callV (pc := 80) (rest := []) (As := []) hC lk_X5_178 (by omega) (cel_State (by decide)) rfl (c_X3_blocCount (by decide) g3) rfl rfl (Nat.le_of_ble_eq_true rfl) (by decide) dX5_count_80 ?_
    change V X E 2 83 [(0, .ref (E.2.1 (48))), (1, .int v1)] [.int r3] I
    have hf := Option.some.inj hf; subst hf
    exact V_ireturn (pc := 83) hR rfl dX5_count_83
  have hf := ite_f hf c2
  by_cases c4 : v1 = (nI 2)
  · have hf := ite_t hf c4
    refine V_tableIn (pc := 1) (tgt := 84) (off := 83) hC dX5_count_1 (by rw [c4]; decide) (by rw [c4]; decide) (by rw [c4]; decide) (by decide) ?_
    refine V_aload_n (pc := 84) hC 0 dX5_count_84 rfl rfl ?_
    refine gf_X5_10 (pc := 85) hC dX5_count_85 ?_
    refine gf_X5_80 (pc := 88) (by decide) hC dX5_count_88 ?_
    have hf := Option.some.inj hf; subst hf
    exact V_ireturn (pc := 91) hR rfl dX5_count_91
  have hf := ite_f hf c4
  by_cases c5 : v1 = (nI 3)
  · have hf := ite_t hf c5
    refine V_tableIn (pc := 1) (tgt := 92) (off := 91) hC dX5_count_1 (by rw [c5]; decide) (by rw [c5]; decide) (by rw [c5]; decide) (by decide) ?_
    refine V_aload_n (pc := 92) hC 0 dX5_count_92 rfl rfl ?_
    refine gf_X5_10 (pc := 93) hC dX5_count_93 ?_
    refine V_aload_n (pc := 96) hC 0 dX5_count_96 rfl rfl ?_
    refine gf_X5_10 (pc := 97) hC dX5_count_97 ?_
    refine V_callV (pc := 100) (rest := [.ref (E.2.1 (8 * 0))]) (As := []) hC lk_X5_188 (by omega) (cel_State (by decide)) rfl (c_X3_everyone (by decide) rfl) rfl rfl (Nat.le_of_ble_eq_true rfl) (by decide) dX5_count_100 ?_
    change V X E 2 103 [(0, .ref (E.2.1 (48))), (1, .int v1)] [.int (f_X3_everyone 0 I), .ref (E.2.1 (8 * 0))] I
    obtain ⟨r6, g6, hf⟩ := bind_some hf
    refine V_callV (pc := 103) (rest := []) (As := [.int (f_X3_everyone 0 I)]) hC lk_X5_139 (by omega) (cel_State (by decide)) rfl (c_X3_weightOf (by decide) g6) rfl rfl (Nat.le_of_ble_eq_true rfl) (by decide) dX5_count_103 ?_
    change V X E 2 106 [(0, .ref (E.2.1 (48))), (1, .int v1)] [.int r6] I
    have hf := Option.some.inj hf; subst hf
    exact V_ireturn (pc := 106) hR rfl dX5_count_106
  have hf := ite_f hf c5
  by_cases c7 : v1 = (nI 4)
  · have hf := ite_t hf c7
    refine V_tableIn (pc := 1) (tgt := 107) (off := 106) hC dX5_count_1 (by rw [c7]; decide) (by rw [c7]; decide) (by rw [c7]; decide) (by decide) ?_
    refine V_aload_n (pc := 107) hC 0 dX5_count_107 rfl rfl ?_
    obtain ⟨r8, g8, hf⟩ := bind_some hf
    refine V_callV (pc := 108) (rest := []) (As := []) hC lk_X5_145 (by decide) cel_X5 rfl (c_X5_currentPower  g8) rfl rfl (Nat.le_of_ble_eq_true rfl) (by decide) dX5_count_108 ?_
    change V X E 2 111 [(0, .ref (E.2.1 (48))), (1, .int v1)] [.ref (E.2.1 (53))] r8
    refine V_aload_n (pc := 111) hC 0 dX5_count_111 rfl rfl ?_
    refine gf_X5_10 (pc := 112) hC dX5_count_112 ?_
    refine gf_X5_80 (pc := 115) (by decide) hC dX5_count_115 ?_
    obtain ⟨r9, g9, hf⟩ := bind_some hf
    refine V_callV (pc := 118) (rest := []) (As := [.int (r8 (8 * 0) 1)]) hC lk_X5_172 (by decide) cel_X2 rfl (c_X2_winningCoalitions  g9) rfl rfl (Nat.le_of_ble_eq_true rfl) (by decide) dX5_count_118 ?_
    change V X E 2 121 [(0, .ref (E.2.1 (48))), (1, .int v1)] [.int r9] r8
    have hf := Option.some.inj hf; subst hf
    exact V_ireturn (pc := 121) hR rfl dX5_count_121
  have hf := ite_f hf c7
  by_cases c10 : v1 = (nI 5)
  · have hf := ite_t hf c10
    refine V_tableIn (pc := 1) (tgt := 122) (off := 121) hC dX5_count_1 (by rw [c10]; decide) (by rw [c10]; decide) (by rw [c10]; decide) (by decide) ?_
    refine V_aload_n (pc := 122) hC 0 dX5_count_122 rfl rfl ?_
    obtain ⟨r11, g11, hf⟩ := bind_some hf
    refine V_callV (pc := 123) (rest := []) (As := []) hC lk_X5_145 (by decide) cel_X5 rfl (c_X5_currentPower  g11) rfl rfl (Nat.le_of_ble_eq_true rfl) (by decide) dX5_count_123 ?_
    change V X E 2 126 [(0, .ref (E.2.1 (48))), (1, .int v1)] [.ref (E.2.1 (53))] r11
    obtain ⟨r12, g12, hf⟩ := bind_some hf
    refine V_callV (pc := 126) (rest := []) (As := []) hC lk_X5_197 (by decide) cel_X2 rfl (c_X2_leastCoalitions  g12) rfl rfl (Nat.le_of_ble_eq_true rfl) (by decide) dX5_count_126 ?_
    change V X E 2 129 [(0, .ref (E.2.1 (48))), (1, .int v1)] [.int r12.1] r12.2
    have hf := Option.some.inj hf; subst hf
    exact V_ireturn (pc := 129) hR rfl dX5_count_129
  have hf := ite_f hf c10
  by_cases c13 : v1 = (nI 6)
  · have hf := ite_t hf c13
    refine V_tableIn (pc := 1) (tgt := 130) (off := 129) hC dX5_count_1 (by rw [c13]; decide) (by rw [c13]; decide) (by rw [c13]; decide) (by decide) ?_
    refine V_aload_n (pc := 130) hC 0 dX5_count_130 rfl rfl ?_
    obtain ⟨r14, g14, hf⟩ := bind_some hf
    refine V_callV (pc := 131) (rest := []) (As := []) hC lk_X5_145 (by decide) cel_X5 rfl (c_X5_currentPower  g14) rfl rfl (Nat.le_of_ble_eq_true rfl) (by decide) dX5_count_131 ?_
    change V X E 2 134 [(0, .ref (E.2.1 (48))), (1, .int v1)] [.ref (E.2.1 (53))] r14
    refine V_aload_n (pc := 134) hC 0 dX5_count_134 rfl rfl ?_
    refine gf_X5_10 (pc := 135) hC dX5_count_135 ?_
    refine gf_X5_80 (pc := 138) (by decide) hC dX5_count_138 ?_
    obtain ⟨r15, g15, hf⟩ := bind_some hf
    refine V_callV (pc := 141) (rest := []) (As := [.int (r14 (8 * 0) 1)]) hC lk_X5_175 (by decide) cel_X2 rfl (c_X2_swingsOfAll  g15) rfl rfl (Nat.le_of_ble_eq_true rfl) (by decide) dX5_count_141 ?_
    change V X E 2 144 [(0, .ref (E.2.1 (48))), (1, .int v1)] [.int r15] r14
    have hf := Option.some.inj hf; subst hf
    exact V_ireturn (pc := 144) hR rfl dX5_count_144
  have hf := ite_f hf c13
  by_cases c16 : v1 = (nI 7)
  · have hf := ite_t hf c16
    refine V_tableIn (pc := 1) (tgt := 145) (off := 144) hC dX5_count_1 (by rw [c16]; decide) (by rw [c16]; decide) (by rw [c16]; decide) (by decide) ?_
    refine V_aload_n (pc := 145) hC 0 dX5_count_145 rfl rfl ?_
    obtain ⟨r17, g17, hf⟩ := bind_some hf
    refine V_callV (pc := 146) (rest := []) (As := []) hC lk_X5_145 (by decide) cel_X5 rfl (c_X5_currentPower  g17) rfl rfl (Nat.le_of_ble_eq_true rfl) (by decide) dX5_count_146 ?_
    change V X E 2 149 [(0, .ref (E.2.1 (48))), (1, .int v1)] [.ref (E.2.1 (53))] r17
    refine V_aload_n (pc := 149) hC 0 dX5_count_149 rfl rfl ?_
    refine gf_X5_10 (pc := 150) hC dX5_count_150 ?_
    refine gf_X5_80 (pc := 153) (by decide) hC dX5_count_153 ?_
    obtain ⟨r18, g18, hf⟩ := bind_some hf
    refine V_callV (pc := 156) (rest := []) (As := [.int (r17 (8 * 0) 1)]) hC lk_X5_203 (by decide) cel_X2 rfl (c_X2_dummies  g18) rfl rfl (Nat.le_of_ble_eq_true rfl) (by decide) dX5_count_156 ?_
    change V X E 2 159 [(0, .ref (E.2.1 (48))), (1, .int v1)] [.int r18] r17
    have hf := Option.some.inj hf; subst hf
    exact V_ireturn (pc := 159) hR rfl dX5_count_159
  have hf := ite_f hf c16
  by_cases c19 : v1 = (nI 8)
  · have hf := ite_t hf c19
    refine V_tableIn (pc := 1) (tgt := 160) (off := 159) hC dX5_count_1 (by rw [c19]; decide) (by rw [c19]; decide) (by rw [c19]; decide) (by decide) ?_
    refine V_aload_n (pc := 160) hC 0 dX5_count_160 rfl rfl ?_
    refine gf_X5_10 (pc := 161) hC dX5_count_161 ?_
    refine gf_X5_66 (pc := 164) (by decide) hC dX5_count_164 ?_
    refine V_callS (pc := 167) (rest := []) (As := [.int (I (8 * 0) 2)]) hC lk_X5_72 (c_J6_bitCount_0f7a4  rfl) rfl rfl (Nat.le_of_ble_eq_true rfl) (by decide) dX5_count_167 ?_
    change V X E 2 170 [(0, .ref (E.2.1 (48))), (1, .int v1)] [.int (f_J6_bitCount_0f7a4 (I (8 * 0) 2))] I
    have hf := Option.some.inj hf; subst hf
    exact V_ireturn (pc := 170) hR rfl dX5_count_170
  have hf := ite_f hf c19
  by_cases c20 : v1 = (nI 9)
  · have hf := ite_t hf c20
    refine V_tableIn (pc := 1) (tgt := 171) (off := 170) hC dX5_count_1 (by rw [c20]; decide) (by rw [c20]; decide) (by rw [c20]; decide) (by decide) ?_
    refine V_aload_n (pc := 171) hC 0 dX5_count_171 rfl rfl ?_
    refine gf_X5_10 (pc := 172) hC dX5_count_172 ?_
    refine gf_X5_102 (pc := 175) (by decide) hC dX5_count_175 ?_
    refine gf_X5_213 (pc := 178) (by decide) hC dX5_count_178 ?_
    have hf := Option.some.inj hf; subst hf
    exact V_ireturn (pc := 181) hR rfl dX5_count_181
  have hf := ite_f hf c20
  by_cases c21 : v1 = (nI 10)
  · have hf := ite_t hf c21
    refine V_tableIn (pc := 1) (tgt := 182) (off := 181) hC dX5_count_1 (by rw [c21]; decide) (by rw [c21]; decide) (by rw [c21]; decide) (by decide) ?_
    refine V_aload_n (pc := 182) hC 0 dX5_count_182 rfl rfl ?_
    refine gf_X5_10 (pc := 183) hC dX5_count_183 ?_
    refine gf_X5_102 (pc := 186) (by decide) hC dX5_count_186 ?_
    refine gf_X5_106 (pc := 189) (by decide) hC dX5_count_189 ?_
    have hf := Option.some.inj hf; subst hf
    exact V_ireturn (pc := 192) hR rfl dX5_count_192
  have hf := ite_f hf c21
  by_cases c22 : v1 = (nI 11)
  · have hf := ite_t hf c22
    refine V_tableIn (pc := 1) (tgt := 193) (off := 192) hC dX5_count_1 (by rw [c22]; decide) (by rw [c22]; decide) (by rw [c22]; decide) (by decide) ?_
    refine V_aload_n (pc := 193) hC 0 dX5_count_193 rfl rfl ?_
    refine gf_X5_22 (pc := 194) hC dX5_count_194 ?_
    refine gf_X5_115 (pc := 197) hC dX5_count_197 ?_
    have hf := Option.some.inj hf; subst hf
    exact V_ireturn (pc := 200) hR rfl dX5_count_200
  have hf := ite_f hf c22
  by_cases c23 : v1 = (nI 12)
  · have hf := ite_t hf c23
    refine V_tableIn (pc := 1) (tgt := 201) (off := 200) hC dX5_count_1 (by rw [c23]; decide) (by rw [c23]; decide) (by rw [c23]; decide) (by decide) ?_
    refine V_aload_n (pc := 201) hC 0 dX5_count_201 rfl rfl ?_
    refine gf_X5_29 (pc := 202) hC dX5_count_202 ?_
    refine gf_X5_93 (pc := 205) hC dX5_count_205 ?_
    have hf := Option.some.inj hf; subst hf
    exact V_ireturn (pc := 208) hR rfl dX5_count_208
  have hf := ite_f hf c23
  refine V_tableOut (pc := 1) (tgt := 209) hC dX5_count_1 (by have zc1 := lv_neT c1 (a := 0) (by decide); have zc2 := lv_neT c2 (a := 1) (by decide); have zc4 := lv_neT c4 (a := 2) (by decide); have zc5 := lv_neT c5 (a := 3) (by decide); have zc7 := lv_neT c7 (a := 4) (by decide); have zc10 := lv_neT c10 (a := 5) (by decide); have zc13 := lv_neT c13 (a := 6) (by decide); have zc16 := lv_neT c16 (a := 7) (by decide); have zc19 := lv_neT c19 (a := 8) (by decide); have zc20 := lv_neT c20 (a := 9) (by decide); have zc21 := lv_neT c21 (a := 10) (by decide); have zc22 := lv_neT c22 (a := 11) (by decide); have zc23 := lv_neT c23 (a := 12) (by decide); omega) (by decide) ?_
  refine V_bipush (pc := 209) hC dX5_count_209 (v := (-2 : Int32)) (by decide) ?_
  have hf := Option.some.inj hf; subst hf
  exact V_ireturn (pc := 211) hR rfl dX5_count_211
