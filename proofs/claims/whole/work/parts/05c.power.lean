def f_X2_countAtWeight_27 (k : Nat) (v1 : Int32) (v2 : Int32) : Nat → Int32 → Mem → Option (Mem)
  | 0, _, _ => none
  | n + 1, v3, I => (if (I (53) 0) ≤ v3 then some I else (if (f_X5_holds v1 v3) = 0 then (f_X2_countAtWeight_27 k v1 v2 n) (v3 + (nI 1)) I else (if inB v3 11 = true then (if inB v2 501 = true then (if inB v2 501 = true then (Option.bind (some (up2 I (60 + Int32.toNatClampNeg v3) (Int32.toNatClampNeg v2) ((I (60 + Int32.toNatClampNeg v3) (Int32.toNatClampNeg v2)) + (nI 1)))) (fun J11 => (f_X2_countAtWeight_27 k v1 v2 n) (v3 + (nI 1)) J11)) else none) else none) else none)))
set_option maxHeartbeats 4000000 in
set_option maxRecDepth 100000 in
theorem b_X2_countAtWeight_27 {X : XT} {E : EN} {k : Nat} {v1 : Int32} {v2 : Int32} {r : Mem} (hC : Cx X E cX2_countAtWeight 4 RX2 2 41) (hR : Rt X E cX2_countAtWeight none none r) : ∀ (n : Nat) (v3 : Int32) (I : Mem), f_X2_countAtWeight_27 k v1 v2 n v3 I = some r → V X E 4 27 [(0, .ref (E.2.1 (53))), (1, .int v1), (2, .int v2), (3, .int v3)] [] I := by
  intro n
  induction n with
  | zero =>
    intro v3 I hf
    rw [f_X2_countAtWeight_27] at hf
    cases hf
  | succ n ih =>
    intro v3 I hf
    rw [f_X2_countAtWeight_27] at hf
    refine V_iload_n (pc := 27) hC 3 dX2_countAtWeight_27 rfl rfl ?_
    refine V_aload_n (pc := 28) hC 0 dX2_countAtWeight_28 rfl rfl ?_
    refine gf_X2_38 (pc := 29) hC dX2_countAtWeight_29 ?_
    refine V_icmp_ge (pc := 32) (tgt := 61) hC dX2_countAtWeight_32 (by decide) (fun c6 => ?_) (fun c6 => ?_)
    · have hf := ite_t hf c6
      have hf := Option.some.inj hf; subst hf
      exact V_return (pc := 61) hR trivial dX2_countAtWeight_61
    · have hf := ite_f hf c6
      refine V_iload_n (pc := 35) hC 1 dX2_countAtWeight_35 rfl rfl ?_
      refine V_iload_n (pc := 36) hC 3 dX2_countAtWeight_36 rfl rfl ?_
      refine V_callN (pc := 37) (rest := []) (As := [.int v1, .int v3]) hC lk_X2_82 (c_X5_holds  rfl) rfl rfl (Nat.le_of_ble_eq_true rfl) (by decide) dX2_countAtWeight_37 ?_
      change V X E 4 40 [(0, .ref (E.2.1 (53))), (1, .int v1), (2, .int v2), (3, .int v3)] [.int (f_X5_holds v1 v3)] I
      refine V_if_eq (pc := 40) (tgt := 55) hC dX2_countAtWeight_40 (by decide) (fun c7 => ?_) (fun c7 => ?_)
      · have hf := ite_t hf c7
        refine V_iinc (pc := 55) (lv' := [(3, .int (v3 + (nI 1))), (0, .ref (E.2.1 (53))), (1, .int v1), (2, .int v2)]) hC (nI 1) 3 dX2_countAtWeight_55 rfl (by decide) (by decide) rfl ?_
        refine V_goto (pc := 58) (tgt := 27) hC dX2_countAtWeight_58 (by decide) ?_
        refine V_sub (pc := 27) (lv' := [(0, .ref (E.2.1 (53))), (1, .int v1), (2, .int v2), (3, .int (v3 + (nI 1)))]) [1, 2, 3, 0] rfl ?_
        exact ih (v3 + (nI 1)) I hf
      · have hf := ite_f hf c7
        refine V_aload_n (pc := 43) hC 0 dX2_countAtWeight_43 rfl rfl ?_
        refine gf_X2_26 (pc := 44) hC dX2_countAtWeight_44 ?_
        refine V_iload_n (pc := 47) hC 3 dX2_countAtWeight_47 rfl rfl ?_
        obtain ⟨h8, hf⟩ := if_some hf
        refine V_ald58 (pc := 48) hC (inB_of h8) dX2_countAtWeight_48 ?_
        refine V_iload_n (pc := 49) hC 2 dX2_countAtWeight_49 rfl rfl ?_
        refine V_dup2 (pc := 50) hC dX2_countAtWeight_50 rfl rfl ?_
        obtain ⟨h9, hf⟩ := if_some hf
        refine V_iald (pc := 51) hC (ia_winI (inB_of h8)) (inB_of h9) dX2_countAtWeight_51 ?_
        refine V_iconst (pc := 52) hC dX2_countAtWeight_52 (v := (nI 1)) (by decide) ?_
        refine V_iadd (pc := 53) hC dX2_countAtWeight_53 ?_
        obtain ⟨h10, hf⟩ := if_some hf
        obtain ⟨J11, eJ11, hf⟩ := bind_some hf
        have eJ11 := Option.some.inj eJ11
        refine V_iast (pc := 54) hC (ia_winI (inB_of h8)) (inB_of h10) dX2_countAtWeight_54 ?_
        rw [eJ11]
        refine V_iinc (pc := 55) (lv' := [(3, .int (v3 + (nI 1))), (0, .ref (E.2.1 (53))), (1, .int v1), (2, .int v2)]) hC (nI 1) 3 dX2_countAtWeight_55 rfl (by decide) (by decide) rfl ?_
        refine V_goto (pc := 58) (tgt := 27) hC dX2_countAtWeight_58 (by decide) ?_
        refine V_sub (pc := 27) (lv' := [(0, .ref (E.2.1 (53))), (1, .int v1), (2, .int v2), (3, .int (v3 + (nI 1)))]) [1, 2, 3, 0] rfl ?_
        exact ih (v3 + (nI 1)) J11 hf
def f_X2_countAtWeight (k : Nat) (v1 : Int32) (v2 : Int32) (I : Mem) : Option (Mem) := (if v2 < 0 then some I else (if v2 ≤ (nI 500) then (if inB v2 501 = true then (if inB v2 501 = true then (Option.bind (some (up2 I (60 + Int32.toNatClampNeg (nI 10)) (Int32.toNatClampNeg v2) ((I (60 + Int32.toNatClampNeg (nI 10)) (Int32.toNatClampNeg v2)) + (nI 1)))) (fun J5 => f_X2_countAtWeight_27 k v1 v2 k (nI 0) J5)) else none) else none) else some I))
set_option maxHeartbeats 4000000 in
set_option maxRecDepth 100000 in
theorem c_X2_countAtWeight {E : EN} {k : Nat} {v1 : Int32} {v2 : Int32} {I : Mem} {r : Mem} (hf : f_X2_countAtWeight k v1 v2 I = some r) : Ct E yX2_countAtWeight cX2_countAtWeight 4 none 2 41 [.ref (E.2.1 (53)), .int v1, .int v2] I none r := by
  refine Ct_of (by decide) (Nat.le_of_ble_eq_true rfl) (fun X hC0 hR => ?_)
  have hC : Cx X E cX2_countAtWeight 4 RX2 2 41 := hC0
  change V X E 4 0 [(0, .ref (E.2.1 (53))), (1, .int v1), (2, .int v2)] [] I
  unfold f_X2_countAtWeight at hf
  refine V_iload_n (pc := 0) hC 2 dX2_countAtWeight_0 rfl rfl ?_
  refine V_if_lt (pc := 1) (tgt := 11) hC dX2_countAtWeight_1 (by decide) (fun c1 => ?_) (fun c1 => ?_)
  · have hf := ite_t hf c1
    have hf := Option.some.inj hf; subst hf
    exact V_return (pc := 11) hR trivial dX2_countAtWeight_11
  · have hf := ite_f hf c1
    refine V_iload_n (pc := 4) hC 2 dX2_countAtWeight_4 rfl rfl ?_
    refine V_sipush (pc := 5) hC dX2_countAtWeight_5 (v := (nI 500)) (by decide) ?_
    refine V_icmp_le (pc := 8) (tgt := 12) hC dX2_countAtWeight_8 (by decide) (fun c2 => ?_) (fun c2 => ?_)
    · have hf := ite_t hf c2
      refine V_aload_n (pc := 12) hC 0 dX2_countAtWeight_12 rfl rfl ?_
      refine gf_X2_26 (pc := 13) hC dX2_countAtWeight_13 ?_
      refine V_bipush (pc := 16) hC dX2_countAtWeight_16 (v := (nI 10)) (by decide) ?_
      refine V_ald58 (pc := 18) hC (inB_of (by decide)) dX2_countAtWeight_18 ?_
      refine V_iload_n (pc := 19) hC 2 dX2_countAtWeight_19 rfl rfl ?_
      refine V_dup2 (pc := 20) hC dX2_countAtWeight_20 rfl rfl ?_
      obtain ⟨h3, hf⟩ := if_some hf
      refine V_iald (pc := 21) hC (ia_winI (inB_of (by decide))) (inB_of h3) dX2_countAtWeight_21 ?_
      refine V_iconst (pc := 22) hC dX2_countAtWeight_22 (v := (nI 1)) (by decide) ?_
      refine V_iadd (pc := 23) hC dX2_countAtWeight_23 ?_
      obtain ⟨h4, hf⟩ := if_some hf
      obtain ⟨J5, eJ5, hf⟩ := bind_some hf
      have eJ5 := Option.some.inj eJ5
      refine V_iast (pc := 24) hC (ia_winI (inB_of (by decide))) (inB_of h4) dX2_countAtWeight_24 ?_
      rw [eJ5]
      refine V_iconst (pc := 25) hC dX2_countAtWeight_25 (v := (nI 0)) (by decide) ?_
      refine V_istore_n (pc := 26) (lv' := [(3, .int (nI 0)), (0, .ref (E.2.1 (53))), (1, .int v1), (2, .int v2)]) hC dX2_countAtWeight_26 rfl (by decide) rfl ?_
      refine V_sub (pc := 27) (lv' := [(0, .ref (E.2.1 (53))), (1, .int v1), (2, .int v2), (3, .int (nI 0))]) [1, 2, 3, 0] rfl ?_
      exact b_X2_countAtWeight_27 hC hR k (nI 0) J5 hf
    · have hf := ite_f hf c2
      have hf := Option.some.inj hf; subst hf
      exact V_return (pc := 11) hR trivial dX2_countAtWeight_11
def f_X2_hasAllVetoes (v1 : Int32) (I : Mem) : Int32 := (if ((I (53) 2) &&& (v1 ^^^ (-1 : Int32))) = 0 then (nI 1) else (nI 0))
set_option maxHeartbeats 4000000 in
set_option maxRecDepth 100000 in
theorem c_X2_hasAllVetoes {E : EN} {v1 : Int32} {I : Mem} {r : Int32} (hf : f_X2_hasAllVetoes v1 I = r) : Ct E yX2_hasAllVetoes cX2_hasAllVetoes 2 (some .boolean) 0 0 [.ref (E.2.1 (53)), .int v1] I (some (.int r)) I := by
  refine Ct_of (by decide) (Nat.le_of_ble_eq_true rfl) (fun X hC0 hR => ?_)
  have hC : Cx X E cX2_hasAllVetoes 2 RX2 0 0 := hC0
  change V X E 2 0 [(0, .ref (E.2.1 (53))), (1, .int v1)] [] I
  unfold f_X2_hasAllVetoes at hf
  refine V_aload_n (pc := 0) hC 0 dX2_hasAllVetoes_0 rfl rfl ?_
  refine gf_X2_46 (pc := 1) hC dX2_hasAllVetoes_1 ?_
  refine V_iload_n (pc := 4) hC 1 dX2_hasAllVetoes_4 rfl rfl ?_
  refine V_iconst (pc := 5) hC dX2_hasAllVetoes_5 (v := (-1 : Int32)) (by decide) ?_
  refine V_ixor (pc := 6) hC dX2_hasAllVetoes_6 ?_
  refine V_iand (pc := 7) hC dX2_hasAllVetoes_7 ?_
  refine V_if_ne (pc := 8) (tgt := 15) hC dX2_hasAllVetoes_8 (by decide) (fun c1 => ?_) (fun c1 => ?_)
  · have hf := ite_f hf c1
    refine V_iconst (pc := 15) hC dX2_hasAllVetoes_15 (v := (nI 0)) (by decide) ?_
    subst hf
    exact V_ireturn (pc := 16) hR (nar_z (by decide)) dX2_hasAllVetoes_16
  · have hf := ite_t hf c1
    refine V_iconst (pc := 11) hC dX2_hasAllVetoes_11 (v := (nI 1)) (by decide) ?_
    refine V_goto (pc := 12) (tgt := 16) hC dX2_hasAllVetoes_12 (by decide) ?_
    subst hf
    exact V_ireturn (pc := 16) hR (nar_z (by decide)) dX2_hasAllVetoes_16
def f_X2_countWinning_81 (k : Nat) (v1 : Int32) (sh71 : Int32 → Mem → Option (Mem)) : Nat → Int32 → Mem → Option (Mem)
  | 0, _, _ => none
  | n + 1, v2, I => (if v2 < 0 then sh71 (v1 + (nI 1)) I else (if inB v1 11 = true then (if inB v2 501 = true then (if inB v1 11 = true then (if inB (v2 + (nI 1)) 501 = true then (if inB v2 501 = true then (Option.bind (some (up2 I (60 + Int32.toNatClampNeg v1) (Int32.toNatClampNeg v2) ((I (60 + Int32.toNatClampNeg v1) (Int32.toNatClampNeg v2)) + (I (60 + Int32.toNatClampNeg v1) (Int32.toNatClampNeg (v2 + (nI 1))))))) (fun J17 => (f_X2_countWinning_81 k v1 sh71 n) (v2 + (-1 : Int32)) J17)) else none) else none) else none) else none) else none))
set_option maxHeartbeats 4000000 in
set_option maxRecDepth 100000 in
theorem b_X2_countWinning_81 {X : XT} {E : EN} {k : Nat} {v1 : Int32} {sh71 : Int32 → Mem → Option (Mem)} {r : Mem} (hC : Cx X E cX2_countWinning 3 RX2 3 64) (hs71 : ∀ (v1 : Int32) (J : Mem), sh71 v1 J = some r → V X E 3 71 [(0, .ref (E.2.1 (53))), (1, .int v1)] [] J) (hR : Rt X E cX2_countWinning none none r) : ∀ (n : Nat) (v2 : Int32) (I : Mem), f_X2_countWinning_81 k v1 sh71 n v2 I = some r → V X E 3 81 [(0, .ref (E.2.1 (53))), (1, .int v1), (2, .int v2)] [] I := by
  intro n
  induction n with
  | zero =>
    intro v2 I hf
    rw [f_X2_countWinning_81] at hf
    cases hf
  | succ n ih =>
    intro v2 I hf
    rw [f_X2_countWinning_81] at hf
    refine V_iload_n (pc := 81) hC 2 dX2_countWinning_81 rfl rfl ?_
    refine V_if_lt (pc := 82) (tgt := 112) hC dX2_countWinning_82 (by decide) (fun c11 => ?_) (fun c11 => ?_)
    · have hf := ite_t hf c11
      refine V_iinc (pc := 112) (lv' := [(1, .int (v1 + (nI 1))), (0, .ref (E.2.1 (53))), (2, .int v2)]) hC (nI 1) 1 dX2_countWinning_112 rfl (by decide) (by decide) rfl ?_
      refine V_goto (pc := 115) (tgt := 71) hC dX2_countWinning_115 (by decide) ?_
      refine V_sub (pc := 71) (lv' := [(0, .ref (E.2.1 (53))), (1, .int (v1 + (nI 1)))]) [1, 0] rfl ?_
      exact hs71 (v1 + (nI 1)) I hf
    · have hf := ite_f hf c11
      refine V_aload_n (pc := 85) hC 0 dX2_countWinning_85 rfl rfl ?_
      refine gf_X2_26 (pc := 86) hC dX2_countWinning_86 ?_
      refine V_iload_n (pc := 89) hC 1 dX2_countWinning_89 rfl rfl ?_
      obtain ⟨h12, hf⟩ := if_some hf
      refine V_ald58 (pc := 90) hC (inB_of h12) dX2_countWinning_90 ?_
      refine V_iload_n (pc := 91) hC 2 dX2_countWinning_91 rfl rfl ?_
      refine V_dup2 (pc := 92) hC dX2_countWinning_92 rfl rfl ?_
      obtain ⟨h13, hf⟩ := if_some hf
      refine V_iald (pc := 93) hC (ia_winI (inB_of h12)) (inB_of h13) dX2_countWinning_93 ?_
      refine V_aload_n (pc := 94) hC 0 dX2_countWinning_94 rfl rfl ?_
      refine gf_X2_26 (pc := 95) hC dX2_countWinning_95 ?_
      refine V_iload_n (pc := 98) hC 1 dX2_countWinning_98 rfl rfl ?_
      obtain ⟨h14, hf⟩ := if_some hf
      refine V_ald58 (pc := 99) hC (inB_of h14) dX2_countWinning_99 ?_
      refine V_iload_n (pc := 100) hC 2 dX2_countWinning_100 rfl rfl ?_
      refine V_iconst (pc := 101) hC dX2_countWinning_101 (v := (nI 1)) (by decide) ?_
      refine V_iadd (pc := 102) hC dX2_countWinning_102 ?_
      obtain ⟨h15, hf⟩ := if_some hf
      refine V_iald (pc := 103) hC (ia_winI (inB_of h14)) (inB_of h15) dX2_countWinning_103 ?_
      refine V_iadd (pc := 104) hC dX2_countWinning_104 ?_
      obtain ⟨h16, hf⟩ := if_some hf
      obtain ⟨J17, eJ17, hf⟩ := bind_some hf
      have eJ17 := Option.some.inj eJ17
      refine V_iast (pc := 105) hC (ia_winI (inB_of h12)) (inB_of h16) dX2_countWinning_105 ?_
      rw [eJ17]
      refine V_iinc (pc := 106) (lv' := [(2, .int (v2 + (-1 : Int32))), (0, .ref (E.2.1 (53))), (1, .int v1)]) hC (-1 : Int32) 2 dX2_countWinning_106 rfl (by decide) (by decide) rfl ?_
      refine V_goto (pc := 109) (tgt := 81) hC dX2_countWinning_109 (by decide) ?_
      refine V_sub (pc := 81) (lv' := [(0, .ref (E.2.1 (53))), (1, .int v1), (2, .int (v2 + (-1 : Int32)))]) [1, 2, 0] rfl ?_
      exact ih (v2 + (-1 : Int32)) J17 hf
def f_X2_countWinning_71 (k : Nat) : Nat → Int32 → Mem → Option (Mem)
  | 0, _, _ => none
  | n + 1, v1, I => (if (nI 10) < v1 then some I else f_X2_countWinning_81 k v1 (f_X2_countWinning_71 k n) k (nI 499) I)
set_option maxHeartbeats 4000000 in
set_option maxRecDepth 100000 in
theorem b_X2_countWinning_71 {X : XT} {E : EN} {k : Nat} {r : Mem} (hC : Cx X E cX2_countWinning 3 RX2 3 64) (hR : Rt X E cX2_countWinning none none r) : ∀ (n : Nat) (v1 : Int32) (I : Mem), f_X2_countWinning_71 k n v1 I = some r → V X E 3 71 [(0, .ref (E.2.1 (53))), (1, .int v1)] [] I := by
  intro n
  induction n with
  | zero =>
    intro v1 I hf
    rw [f_X2_countWinning_71] at hf
    cases hf
  | succ n ih =>
    intro v1 I hf
    rw [f_X2_countWinning_71] at hf
    refine V_iload_n (pc := 71) hC 1 dX2_countWinning_71 rfl rfl ?_
    refine V_bipush (pc := 72) hC dX2_countWinning_72 (v := (nI 10)) (by decide) ?_
    refine V_icmp_gt (pc := 74) (tgt := 118) hC dX2_countWinning_74 (by decide) (fun c10 => ?_) (fun c10 => ?_)
    · have hf := ite_t hf c10
      have hf := Option.some.inj hf; subst hf
      exact V_return (pc := 118) hR trivial dX2_countWinning_118
    · have hf := ite_f hf c10
      refine V_sipush (pc := 77) hC dX2_countWinning_77 (v := (nI 499)) (by decide) ?_
      refine V_istore_n (pc := 80) (lv' := [(2, .int (nI 499)), (0, .ref (E.2.1 (53))), (1, .int v1)]) hC dX2_countWinning_80 rfl (by decide) rfl ?_
      refine V_sub (pc := 81) (lv' := [(0, .ref (E.2.1 (53))), (1, .int v1), (2, .int (nI 499))]) [1, 2, 0] rfl ?_
      exact b_X2_countWinning_81 hC ih hR k (nI 499) I hf
def f_X2_countWinning_26 (k : Nat) : Nat → Int32 → Mem → Option (Mem)
  | 0, _, _ => none
  | n + 1, v1, I => (if (I (53) 9) ≤ v1 then f_X2_countWinning_71 k k (nI 0) I else (if inB v1 1024 = true then (if (f_X2_hasAllVetoes (I (56) (Int32.toNatClampNeg v1)) I) = 0 then (f_X2_countWinning_26 k n) (v1 + (nI 1)) I else (if inB v1 1024 = true then (if inB v1 1024 = true then (Option.bind (f_X2_countAtWeight k (I (56) (Int32.toNatClampNeg v1)) (I (57) (Int32.toNatClampNeg v1)) I) (fun r9 => (f_X2_countWinning_26 k n) (v1 + (nI 1)) r9)) else none) else none)) else none))
set_option maxHeartbeats 4000000 in
set_option maxRecDepth 100000 in
theorem b_X2_countWinning_26 {X : XT} {E : EN} {k : Nat} {r : Mem} (hC : Cx X E cX2_countWinning 3 RX2 3 64) (hR : Rt X E cX2_countWinning none none r) : ∀ (n : Nat) (v1 : Int32) (I : Mem), f_X2_countWinning_26 k n v1 I = some r → V X E 3 26 [(0, .ref (E.2.1 (53))), (1, .int v1)] [] I := by
  intro n
  induction n with
  | zero =>
    intro v1 I hf
    rw [f_X2_countWinning_26] at hf
    cases hf
  | succ n ih =>
    intro v1 I hf
    rw [f_X2_countWinning_26] at hf
    refine V_iload_n (pc := 26) hC 1 dX2_countWinning_26 rfl rfl ?_
    refine V_aload_n (pc := 27) hC 0 dX2_countWinning_27 rfl rfl ?_
    refine gf_X2_79 (pc := 28) hC dX2_countWinning_28 ?_
    refine V_icmp_ge (pc := 31) (tgt := 69) hC dX2_countWinning_31 (by decide) (fun c4 => ?_) (fun c4 => ?_)
    · have hf := ite_t hf c4
      refine V_iconst (pc := 69) hC dX2_countWinning_69 (v := (nI 0)) (by decide) ?_
      refine V_istore_n (pc := 70) (lv' := [(1, .int (nI 0)), (0, .ref (E.2.1 (53)))]) hC dX2_countWinning_70 rfl (by decide) rfl ?_
      refine V_sub (pc := 71) (lv' := [(0, .ref (E.2.1 (53))), (1, .int (nI 0))]) [1, 0] rfl ?_
      exact b_X2_countWinning_71 hC hR k (nI 0) I hf
    · have hf := ite_f hf c4
      refine V_aload_n (pc := 34) hC 0 dX2_countWinning_34 rfl rfl ?_
      refine V_aload_n (pc := 35) hC 0 dX2_countWinning_35 rfl rfl ?_
      refine gf_X2_18 (pc := 36) hC dX2_countWinning_36 ?_
      refine V_iload_n (pc := 39) hC 1 dX2_countWinning_39 rfl rfl ?_
      obtain ⟨h5, hf⟩ := if_some hf
      refine V_iald (pc := 40) hC ia_56 (inB_of h5) dX2_countWinning_40 ?_
      refine V_callV (pc := 41) (rest := []) (As := [.int (I (56) (Int32.toNatClampNeg v1))]) hC lk_X2_96 (by decide) cel_X2 rfl (c_X2_hasAllVetoes  rfl) rfl rfl (Nat.le_of_ble_eq_true rfl) (by decide) dX2_countWinning_41 ?_
      change V X E 3 44 [(0, .ref (E.2.1 (53))), (1, .int v1)] [.int (f_X2_hasAllVetoes (I (56) (Int32.toNatClampNeg v1)) I)] I
      refine V_if_eq (pc := 44) (tgt := 63) hC dX2_countWinning_44 (by decide) (fun c6 => ?_) (fun c6 => ?_)
      · have hf := ite_t hf c6
        refine V_iinc (pc := 63) (lv' := [(1, .int (v1 + (nI 1))), (0, .ref (E.2.1 (53)))]) hC (nI 1) 1 dX2_countWinning_63 rfl (by decide) (by decide) rfl ?_
        refine V_goto (pc := 66) (tgt := 26) hC dX2_countWinning_66 (by decide) ?_
        refine V_sub (pc := 26) (lv' := [(0, .ref (E.2.1 (53))), (1, .int (v1 + (nI 1)))]) [1, 0] rfl ?_
        exact ih (v1 + (nI 1)) I hf
      · have hf := ite_f hf c6
        refine V_aload_n (pc := 47) hC 0 dX2_countWinning_47 rfl rfl ?_
        refine V_aload_n (pc := 48) hC 0 dX2_countWinning_48 rfl rfl ?_
        refine gf_X2_18 (pc := 49) hC dX2_countWinning_49 ?_
        refine V_iload_n (pc := 52) hC 1 dX2_countWinning_52 rfl rfl ?_
        obtain ⟨h7, hf⟩ := if_some hf
        refine V_iald (pc := 53) hC ia_56 (inB_of h7) dX2_countWinning_53 ?_
        refine V_aload_n (pc := 54) hC 0 dX2_countWinning_54 rfl rfl ?_
        refine gf_X2_21 (pc := 55) hC dX2_countWinning_55 ?_
        refine V_iload_n (pc := 58) hC 1 dX2_countWinning_58 rfl rfl ?_
        obtain ⟨h8, hf⟩ := if_some hf
        refine V_iald (pc := 59) hC ia_57 (inB_of h8) dX2_countWinning_59 ?_
        obtain ⟨r9, g9, hf⟩ := bind_some hf
        refine V_callV (pc := 60) (rest := []) (As := [.int (I (56) (Int32.toNatClampNeg v1)), .int (I (57) (Int32.toNatClampNeg v1))]) hC lk_X2_99 (by decide) cel_X2 rfl (c_X2_countAtWeight  g9) rfl rfl (Nat.le_of_ble_eq_true rfl) (by decide) dX2_countWinning_60 ?_
        change V X E 3 63 [(0, .ref (E.2.1 (53))), (1, .int v1)] [] r9
        refine V_iinc (pc := 63) (lv' := [(1, .int (v1 + (nI 1))), (0, .ref (E.2.1 (53)))]) hC (nI 1) 1 dX2_countWinning_63 rfl (by decide) (by decide) rfl ?_
        refine V_goto (pc := 66) (tgt := 26) hC dX2_countWinning_66 (by decide) ?_
        refine V_sub (pc := 26) (lv' := [(0, .ref (E.2.1 (53))), (1, .int (v1 + (nI 1)))]) [1, 0] rfl ?_
        exact ih (v1 + (nI 1)) r9 hf
def f_X2_countWinning_2 (k : Nat) : Nat → Int32 → Mem → Option (Mem)
  | 0, _, _ => none
  | n + 1, v1, I => (if (nI 10) < v1 then f_X2_countWinning_26 k k (nI 0) I else (if inB v1 11 = true then (Option.bind (f_J7_fill_53178 k (60 + Int32.toNatClampNeg v1) (nI 0) I) (fun r3 => (f_X2_countWinning_2 k n) (v1 + (nI 1)) r3)) else none))
set_option maxHeartbeats 4000000 in
set_option maxRecDepth 100000 in
theorem b_X2_countWinning_2 {X : XT} {E : EN} {k : Nat} {r : Mem} (hC : Cx X E cX2_countWinning 3 RX2 3 64) (hR : Rt X E cX2_countWinning none none r) : ∀ (n : Nat) (v1 : Int32) (I : Mem), f_X2_countWinning_2 k n v1 I = some r → V X E 3 2 [(0, .ref (E.2.1 (53))), (1, .int v1)] [] I := by
  intro n
  induction n with
  | zero =>
    intro v1 I hf
    rw [f_X2_countWinning_2] at hf
    cases hf
  | succ n ih =>
    intro v1 I hf
    rw [f_X2_countWinning_2] at hf
    refine V_iload_n (pc := 2) hC 1 dX2_countWinning_2 rfl rfl ?_
    refine V_bipush (pc := 3) hC dX2_countWinning_3 (v := (nI 10)) (by decide) ?_
    refine V_icmp_gt (pc := 5) (tgt := 24) hC dX2_countWinning_5 (by decide) (fun c1 => ?_) (fun c1 => ?_)
    · have hf := ite_t hf c1
      refine V_iconst (pc := 24) hC dX2_countWinning_24 (v := (nI 0)) (by decide) ?_
      refine V_istore_n (pc := 25) (lv' := [(1, .int (nI 0)), (0, .ref (E.2.1 (53)))]) hC dX2_countWinning_25 rfl (by decide) rfl ?_
      refine V_sub (pc := 26) (lv' := [(0, .ref (E.2.1 (53))), (1, .int (nI 0))]) [1, 0] rfl ?_
      exact b_X2_countWinning_26 hC hR k (nI 0) I hf
    · have hf := ite_f hf c1
      refine V_aload_n (pc := 8) hC 0 dX2_countWinning_8 rfl rfl ?_
      refine gf_X2_26 (pc := 9) hC dX2_countWinning_9 ?_
      refine V_iload_n (pc := 12) hC 1 dX2_countWinning_12 rfl rfl ?_
      obtain ⟨h2, hf⟩ := if_some hf
      refine V_ald58 (pc := 13) hC (inB_of h2) dX2_countWinning_13 ?_
      refine V_iconst (pc := 14) hC dX2_countWinning_14 (v := (nI 0)) (by decide) ?_
      obtain ⟨r3, g3, hf⟩ := bind_some hf
      refine V_callS (pc := 15) (rest := []) (As := [.ref (E.2.1 (60 + Int32.toNatClampNeg v1)), .int (nI 0)]) hC lk_X2_90 (c_J7_fill_53178 (ia_winI (inB_of h2)) g3) rfl rfl (Nat.le_of_ble_eq_true rfl) (by decide) dX2_countWinning_15 ?_
      change V X E 3 18 [(0, .ref (E.2.1 (53))), (1, .int v1)] [] r3
      refine V_iinc (pc := 18) (lv' := [(1, .int (v1 + (nI 1))), (0, .ref (E.2.1 (53)))]) hC (nI 1) 1 dX2_countWinning_18 rfl (by decide) (by decide) rfl ?_
      refine V_goto (pc := 21) (tgt := 2) hC dX2_countWinning_21 (by decide) ?_
      refine V_sub (pc := 2) (lv' := [(0, .ref (E.2.1 (53))), (1, .int (v1 + (nI 1)))]) [1, 0] rfl ?_
      exact ih (v1 + (nI 1)) r3 hf
def f_X2_countWinning (k : Nat) (I : Mem) : Option (Mem) := f_X2_countWinning_2 k k (nI 0) I
set_option maxHeartbeats 4000000 in
set_option maxRecDepth 100000 in
theorem c_X2_countWinning {E : EN} {k : Nat} {I : Mem} {r : Mem} (hf : f_X2_countWinning k I = some r) : Ct E yX2_countWinning cX2_countWinning 3 none 3 64 [.ref (E.2.1 (53))] I none r := by
  refine Ct_of (by decide) (Nat.le_of_ble_eq_true rfl) (fun X hC0 hR => ?_)
  have hC : Cx X E cX2_countWinning 3 RX2 3 64 := hC0
  change V X E 3 0 [(0, .ref (E.2.1 (53)))] [] I
  unfold f_X2_countWinning at hf
  refine V_iconst (pc := 0) hC dX2_countWinning_0 (v := (nI 0)) (by decide) ?_
  refine V_istore_n (pc := 1) (lv' := [(1, .int (nI 0)), (0, .ref (E.2.1 (53)))]) hC dX2_countWinning_1 rfl (by decide) rfl ?_
  refine V_sub (pc := 2) (lv' := [(0, .ref (E.2.1 (53))), (1, .int (nI 0))]) [1, 0] rfl ?_
  exact b_X2_countWinning_2 hC hR k (nI 0) I hf
def f_X2_repeatCoalitionsWith_7 (k : Nat) (v1 : Int32) (v2 : Int32) : Nat → Int32 → Mem → Option (Mem)
  | 0, _, _ => none
  | n + 1, v3, I => (if v2 ≤ v3 then some I else (if (nI 1024) ≤ (v2 + v3) then some I else (if inB v3 1024 = true then (if inB v1 10 = true then (if inB (v2 + v3) 1024 = true then (Option.bind (some (up2 I (56) (Int32.toNatClampNeg (v2 + v3)) ((I (56) (Int32.toNatClampNeg v3)) ||| (I (54) (Int32.toNatClampNeg v1))))) (fun J6 => (if inB v3 1024 = true then (if inB v1 10 = true then (if inB (v2 + v3) 1024 = true then (Option.bind (some (up2 J6 (57) (Int32.toNatClampNeg (v2 + v3)) ((J6 (57) (Int32.toNatClampNeg v3)) + (J6 (55) (Int32.toNatClampNeg v1))))) (fun J10 => (f_X2_repeatCoalitionsWith_7 k v1 v2 n) (v3 + (nI 1)) (up2 J10 (53) 9 ((J10 (53) 9) + (nI 1))))) else none) else none) else none))) else none) else none) else none)))
set_option maxHeartbeats 4000000 in
set_option maxRecDepth 100000 in
theorem b_X2_repeatCoalitionsWith_7 {X : XT} {E : EN} {k : Nat} {v1 : Int32} {v2 : Int32} {r : Mem} (hC : Cx X E cX2_repeatCoalitionsWith 4 RX2 0 0) (hR : Rt X E cX2_repeatCoalitionsWith none none r) : ∀ (n : Nat) (v3 : Int32) (I : Mem), f_X2_repeatCoalitionsWith_7 k v1 v2 n v3 I = some r → V X E 4 7 [(0, .ref (E.2.1 (53))), (1, .int v1), (2, .int v2), (3, .int v3)] [] I := by
  intro n
  induction n with
  | zero =>
    intro v3 I hf
    rw [f_X2_repeatCoalitionsWith_7] at hf
    cases hf
  | succ n ih =>
    intro v3 I hf
    rw [f_X2_repeatCoalitionsWith_7] at hf
    refine V_iload_n (pc := 7) hC 3 dX2_repeatCoalitionsWith_7 rfl rfl ?_
    refine V_iload_n (pc := 8) hC 2 dX2_repeatCoalitionsWith_8 rfl rfl ?_
    refine V_icmp_ge (pc := 9) (tgt := 81) hC dX2_repeatCoalitionsWith_9 (by decide) (fun c1 => ?_) (fun c1 => ?_)
    · have hf := ite_t hf c1
      have hf := Option.some.inj hf; subst hf
      exact V_return (pc := 81) hR trivial dX2_repeatCoalitionsWith_81
    · have hf := ite_f hf c1
      refine V_iload_n (pc := 12) hC 2 dX2_repeatCoalitionsWith_12 rfl rfl ?_
      refine V_iload_n (pc := 13) hC 3 dX2_repeatCoalitionsWith_13 rfl rfl ?_
      refine V_iadd (pc := 14) hC dX2_repeatCoalitionsWith_14 ?_
      refine V_aload_n (pc := 15) hC 0 dX2_repeatCoalitionsWith_15 rfl rfl ?_
      refine gf_X2_18 (pc := 16) hC dX2_repeatCoalitionsWith_16 ?_
      refine V_ialen (pc := 19) (v := (nI 1024)) hC ia_56 (by decide) dX2_repeatCoalitionsWith_19 ?_
      refine V_icmp_ge (pc := 20) (tgt := 81) hC dX2_repeatCoalitionsWith_20 (by decide) (fun c2 => ?_) (fun c2 => ?_)
      · have hf := ite_t hf c2
        have hf := Option.some.inj hf; subst hf
        exact V_return (pc := 81) hR trivial dX2_repeatCoalitionsWith_81
      · have hf := ite_f hf c2
        refine V_aload_n (pc := 23) hC 0 dX2_repeatCoalitionsWith_23 rfl rfl ?_
        refine gf_X2_18 (pc := 24) hC dX2_repeatCoalitionsWith_24 ?_
        refine V_iload_n (pc := 27) hC 2 dX2_repeatCoalitionsWith_27 rfl rfl ?_
        refine V_iload_n (pc := 28) hC 3 dX2_repeatCoalitionsWith_28 rfl rfl ?_
        refine V_iadd (pc := 29) hC dX2_repeatCoalitionsWith_29 ?_
        refine V_aload_n (pc := 30) hC 0 dX2_repeatCoalitionsWith_30 rfl rfl ?_
        refine gf_X2_18 (pc := 31) hC dX2_repeatCoalitionsWith_31 ?_
        refine V_iload_n (pc := 34) hC 3 dX2_repeatCoalitionsWith_34 rfl rfl ?_
        obtain ⟨h3, hf⟩ := if_some hf
        refine V_iald (pc := 35) hC ia_56 (inB_of h3) dX2_repeatCoalitionsWith_35 ?_
        refine V_aload_n (pc := 36) hC 0 dX2_repeatCoalitionsWith_36 rfl rfl ?_
        refine gf_X2_9 (pc := 37) hC dX2_repeatCoalitionsWith_37 ?_
        refine V_iload_n (pc := 40) hC 1 dX2_repeatCoalitionsWith_40 rfl rfl ?_
        obtain ⟨h4, hf⟩ := if_some hf
        refine V_iald (pc := 41) hC ia_54 (inB_of h4) dX2_repeatCoalitionsWith_41 ?_
        refine V_ior (pc := 42) hC dX2_repeatCoalitionsWith_42 ?_
        obtain ⟨h5, hf⟩ := if_some hf
        obtain ⟨J6, eJ6, hf⟩ := bind_some hf
        have eJ6 := Option.some.inj eJ6
        refine V_iast (pc := 43) hC ia_56 (inB_of h5) dX2_repeatCoalitionsWith_43 ?_
        rw [eJ6]
        refine V_aload_n (pc := 44) hC 0 dX2_repeatCoalitionsWith_44 rfl rfl ?_
        refine gf_X2_21 (pc := 45) hC dX2_repeatCoalitionsWith_45 ?_
        refine V_iload_n (pc := 48) hC 2 dX2_repeatCoalitionsWith_48 rfl rfl ?_
        refine V_iload_n (pc := 49) hC 3 dX2_repeatCoalitionsWith_49 rfl rfl ?_
        refine V_iadd (pc := 50) hC dX2_repeatCoalitionsWith_50 ?_
        refine V_aload_n (pc := 51) hC 0 dX2_repeatCoalitionsWith_51 rfl rfl ?_
        refine gf_X2_21 (pc := 52) hC dX2_repeatCoalitionsWith_52 ?_
        refine V_iload_n (pc := 55) hC 3 dX2_repeatCoalitionsWith_55 rfl rfl ?_
        obtain ⟨h7, hf⟩ := if_some hf
        refine V_iald (pc := 56) hC ia_57 (inB_of h7) dX2_repeatCoalitionsWith_56 ?_
        refine V_aload_n (pc := 57) hC 0 dX2_repeatCoalitionsWith_57 rfl rfl ?_
        refine gf_X2_15 (pc := 58) hC dX2_repeatCoalitionsWith_58 ?_
        refine V_iload_n (pc := 61) hC 1 dX2_repeatCoalitionsWith_61 rfl rfl ?_
        obtain ⟨h8, hf⟩ := if_some hf
        refine V_iald (pc := 62) hC ia_55 (inB_of h8) dX2_repeatCoalitionsWith_62 ?_
        refine V_iadd (pc := 63) hC dX2_repeatCoalitionsWith_63 ?_
        obtain ⟨h9, hf⟩ := if_some hf
        obtain ⟨J10, eJ10, hf⟩ := bind_some hf
        have eJ10 := Option.some.inj eJ10
        refine V_iast (pc := 64) hC ia_57 (inB_of h9) dX2_repeatCoalitionsWith_64 ?_
        rw [eJ10]
        refine V_aload_n (pc := 65) hC 0 dX2_repeatCoalitionsWith_65 rfl rfl ?_
        refine V_dup (pc := 66) hC dX2_repeatCoalitionsWith_66 rfl ?_
        refine gf_X2_79 (pc := 67) hC dX2_repeatCoalitionsWith_67 ?_
        refine V_iconst (pc := 70) hC dX2_repeatCoalitionsWith_70 (v := (nI 1)) (by decide) ?_
        refine V_iadd (pc := 71) hC dX2_repeatCoalitionsWith_71 ?_
        refine pf_X2_79 (pc := 72) hC dX2_repeatCoalitionsWith_72 ?_
        refine V_iinc (pc := 75) (lv' := [(3, .int (v3 + (nI 1))), (0, .ref (E.2.1 (53))), (1, .int v1), (2, .int v2)]) hC (nI 1) 3 dX2_repeatCoalitionsWith_75 rfl (by decide) (by decide) rfl ?_
        refine V_goto (pc := 78) (tgt := 7) hC dX2_repeatCoalitionsWith_78 (by decide) ?_
        refine V_sub (pc := 7) (lv' := [(0, .ref (E.2.1 (53))), (1, .int v1), (2, .int v2), (3, .int (v3 + (nI 1)))]) [1, 2, 3, 0] rfl ?_
        exact ih (v3 + (nI 1)) (up2 J10 (53) 9 ((J10 (53) 9) + (nI 1))) hf
def f_X2_repeatCoalitionsWith (k : Nat) (v1 : Int32) (I : Mem) : Option (Mem) := f_X2_repeatCoalitionsWith_7 k v1 (I (53) 9) k (nI 0) I
set_option maxHeartbeats 4000000 in
set_option maxRecDepth 100000 in
theorem c_X2_repeatCoalitionsWith {E : EN} {k : Nat} {v1 : Int32} {I : Mem} {r : Mem} (hf : f_X2_repeatCoalitionsWith k v1 I = some r) : Ct E yX2_repeatCoalitionsWith cX2_repeatCoalitionsWith 4 none 0 0 [.ref (E.2.1 (53)), .int v1] I none r := by
  refine Ct_of (by decide) (Nat.le_of_ble_eq_true rfl) (fun X hC0 hR => ?_)
  have hC : Cx X E cX2_repeatCoalitionsWith 4 RX2 0 0 := hC0
  change V X E 4 0 [(0, .ref (E.2.1 (53))), (1, .int v1)] [] I
  unfold f_X2_repeatCoalitionsWith at hf
  refine V_aload_n (pc := 0) hC 0 dX2_repeatCoalitionsWith_0 rfl rfl ?_
  refine gf_X2_79 (pc := 1) hC dX2_repeatCoalitionsWith_1 ?_
  refine V_istore_n (pc := 4) (lv' := [(2, .int (I (53) 9)), (0, .ref (E.2.1 (53))), (1, .int v1)]) hC dX2_repeatCoalitionsWith_4 rfl (by decide) rfl ?_
  refine V_iconst (pc := 5) hC dX2_repeatCoalitionsWith_5 (v := (nI 0)) (by decide) ?_
  refine V_istore_n (pc := 6) (lv' := [(3, .int (nI 0)), (2, .int (I (53) 9)), (0, .ref (E.2.1 (53))), (1, .int v1)]) hC dX2_repeatCoalitionsWith_6 rfl (by decide) rfl ?_
  refine V_sub (pc := 7) (lv' := [(0, .ref (E.2.1 (53))), (1, .int v1), (2, .int (I (53) 9)), (3, .int (nI 0))]) [2, 3, 1, 0] rfl ?_
  exact b_X2_repeatCoalitionsWith_7 hC hR k (nI 0) I hf
def f_X2_listCoalitions_21 (k : Nat) : Nat → Int32 → Mem → Option (Mem)
  | 0, _, _ => none
  | n + 1, v1, I => (if (I (53) 0) ≤ v1 then some I else (if (f_X5_holds (I (53) 4) v1) = 0 then (f_X2_listCoalitions_21 k n) (v1 + (nI 1)) I else (Option.bind (f_X2_repeatCoalitionsWith k v1 I) (fun r4 => (f_X2_listCoalitions_21 k n) (v1 + (nI 1)) r4))))
set_option maxHeartbeats 4000000 in
set_option maxRecDepth 100000 in
theorem b_X2_listCoalitions_21 {X : XT} {E : EN} {k : Nat} {r : Mem} (hC : Cx X E cX2_listCoalitions 2 RX2 2 41) (hR : Rt X E cX2_listCoalitions none none r) : ∀ (n : Nat) (v1 : Int32) (I : Mem), f_X2_listCoalitions_21 k n v1 I = some r → V X E 2 21 [(0, .ref (E.2.1 (53))), (1, .int v1)] [] I := by
  intro n
  induction n with
  | zero =>
    intro v1 I hf
    rw [f_X2_listCoalitions_21] at hf
    cases hf
  | succ n ih =>
    intro v1 I hf
    rw [f_X2_listCoalitions_21] at hf
    refine V_iload_n (pc := 21) hC 1 dX2_listCoalitions_21 rfl rfl ?_
    refine V_aload_n (pc := 22) hC 0 dX2_listCoalitions_22 rfl rfl ?_
    refine gf_X2_38 (pc := 23) hC dX2_listCoalitions_23 ?_
    refine V_icmp_ge (pc := 26) (tgt := 51) hC dX2_listCoalitions_26 (by decide) (fun c2 => ?_) (fun c2 => ?_)
    · have hf := ite_t hf c2
      have hf := Option.some.inj hf; subst hf
      exact V_return (pc := 51) hR trivial dX2_listCoalitions_51
    · have hf := ite_f hf c2
      refine V_aload_n (pc := 29) hC 0 dX2_listCoalitions_29 rfl rfl ?_
      refine gf_X2_47 (pc := 30) hC dX2_listCoalitions_30 ?_
      refine V_iload_n (pc := 33) hC 1 dX2_listCoalitions_33 rfl rfl ?_
      refine V_callN (pc := 34) (rest := []) (As := [.int (I (53) 4), .int v1]) hC lk_X2_82 (c_X5_holds  rfl) rfl rfl (Nat.le_of_ble_eq_true rfl) (by decide) dX2_listCoalitions_34 ?_
      change V X E 2 37 [(0, .ref (E.2.1 (53))), (1, .int v1)] [.int (f_X5_holds (I (53) 4) v1)] I
      refine V_if_eq (pc := 37) (tgt := 45) hC dX2_listCoalitions_37 (by decide) (fun c3 => ?_) (fun c3 => ?_)
      · have hf := ite_t hf c3
        refine V_iinc (pc := 45) (lv' := [(1, .int (v1 + (nI 1))), (0, .ref (E.2.1 (53)))]) hC (nI 1) 1 dX2_listCoalitions_45 rfl (by decide) (by decide) rfl ?_
        refine V_goto (pc := 48) (tgt := 21) hC dX2_listCoalitions_48 (by decide) ?_
        refine V_sub (pc := 21) (lv' := [(0, .ref (E.2.1 (53))), (1, .int (v1 + (nI 1)))]) [1, 0] rfl ?_
        exact ih (v1 + (nI 1)) I hf
      · have hf := ite_f hf c3
        refine V_aload_n (pc := 40) hC 0 dX2_listCoalitions_40 rfl rfl ?_
        refine V_iload_n (pc := 41) hC 1 dX2_listCoalitions_41 rfl rfl ?_
        obtain ⟨r4, g4, hf⟩ := bind_some hf
        refine V_callV (pc := 42) (rest := []) (As := [.int v1]) hC lk_X2_86 (by decide) cel_X2 rfl (c_X2_repeatCoalitionsWith  g4) rfl rfl (Nat.le_of_ble_eq_true rfl) (by decide) dX2_listCoalitions_42 ?_
        change V X E 2 45 [(0, .ref (E.2.1 (53))), (1, .int v1)] [] r4
        refine V_iinc (pc := 45) (lv' := [(1, .int (v1 + (nI 1))), (0, .ref (E.2.1 (53)))]) hC (nI 1) 1 dX2_listCoalitions_45 rfl (by decide) (by decide) rfl ?_
        refine V_goto (pc := 48) (tgt := 21) hC dX2_listCoalitions_48 (by decide) ?_
        refine V_sub (pc := 21) (lv' := [(0, .ref (E.2.1 (53))), (1, .int (v1 + (nI 1)))]) [1, 0] rfl ?_
        exact ih (v1 + (nI 1)) r4 hf
def f_X2_listCoalitions (k : Nat) (I : Mem) : Option (Mem) := (Option.bind (some (up2 (up2 I (56) (Int32.toNatClampNeg (nI 0)) (nI 0)) (57) (Int32.toNatClampNeg (nI 0)) (nI 0))) (fun J1 => f_X2_listCoalitions_21 k k (nI 0) (up2 J1 (53) 9 (nI 1))))
set_option maxHeartbeats 4000000 in
set_option maxRecDepth 100000 in
theorem c_X2_listCoalitions {E : EN} {k : Nat} {I : Mem} {r : Mem} (hf : f_X2_listCoalitions k I = some r) : Ct E yX2_listCoalitions cX2_listCoalitions 2 none 2 41 [.ref (E.2.1 (53))] I none r := by
  refine Ct_of (by decide) (Nat.le_of_ble_eq_true rfl) (fun X hC0 hR => ?_)
  have hC : Cx X E cX2_listCoalitions 2 RX2 2 41 := hC0
  change V X E 2 0 [(0, .ref (E.2.1 (53)))] [] I
  unfold f_X2_listCoalitions at hf
  refine V_aload_n (pc := 0) hC 0 dX2_listCoalitions_0 rfl rfl ?_
  refine gf_X2_18 (pc := 1) hC dX2_listCoalitions_1 ?_
  refine V_iconst (pc := 4) hC dX2_listCoalitions_4 (v := (nI 0)) (by decide) ?_
  refine V_iconst (pc := 5) hC dX2_listCoalitions_5 (v := (nI 0)) (by decide) ?_
  refine V_iast (pc := 6) hC ia_56 (inB_of (by decide)) dX2_listCoalitions_6 ?_
  refine V_aload_n (pc := 7) hC 0 dX2_listCoalitions_7 rfl rfl ?_
  refine gf_X2_21 (pc := 8) hC dX2_listCoalitions_8 ?_
  refine V_iconst (pc := 11) hC dX2_listCoalitions_11 (v := (nI 0)) (by decide) ?_
  refine V_iconst (pc := 12) hC dX2_listCoalitions_12 (v := (nI 0)) (by decide) ?_
  obtain ⟨J1, eJ1, hf⟩ := bind_some hf
  have eJ1 := Option.some.inj eJ1
  refine V_iast (pc := 13) hC ia_57 (inB_of (by decide)) dX2_listCoalitions_13 ?_
  rw [eJ1]
  refine V_aload_n (pc := 14) hC 0 dX2_listCoalitions_14 rfl rfl ?_
  refine V_iconst (pc := 15) hC dX2_listCoalitions_15 (v := (nI 1)) (by decide) ?_
  refine pf_X2_79 (pc := 16) hC dX2_listCoalitions_16 ?_
  refine V_iconst (pc := 19) hC dX2_listCoalitions_19 (v := (nI 0)) (by decide) ?_
  refine V_istore_n (pc := 20) (lv' := [(1, .int (nI 0)), (0, .ref (E.2.1 (53)))]) hC dX2_listCoalitions_20 rfl (by decide) rfl ?_
  refine V_sub (pc := 21) (lv' := [(0, .ref (E.2.1 (53))), (1, .int (nI 0))]) [1, 0] rfl ?_
  exact b_X2_listCoalitions_21 hC hR k (nI 0) (up2 J1 (53) 9 (nI 1)) hf
def f_X2_workOut_31 (k : Nat) (s : Nat) : Nat → Int32 → Mem → Option (Mem)
  | 0, _, _ => none
  | n + 1, v2, I => (if (I (53) 0) ≤ v2 then (Option.bind (f_X2_listCoalitions k (up2 I (53) 3 (f_J6_bitCount_0f7a4 (I (53) 4)))) (fun r3 => (Option.bind (f_X2_countWinning k r3) (fun r4 => some (up2 r4 (53) 12 (-1 : Int32)))))) else (if inB v2 10 = true then (if inB v2 10 = true then (if inB v2 10 = true then (Option.bind (f_X3_weightOf k s ((up2 I (54) (Int32.toNatClampNeg v2) (I (8 * s + 2) (Int32.toNatClampNeg v2))) (8 * s + 2) (Int32.toNatClampNeg v2)) (up2 I (54) (Int32.toNatClampNeg v2) (I (8 * s + 2) (Int32.toNatClampNeg v2)))) (fun r8 => (if inB v2 10 = true then (Option.bind (some (up2 (up2 I (54) (Int32.toNatClampNeg v2) (I (8 * s + 2) (Int32.toNatClampNeg v2))) (55) (Int32.toNatClampNeg v2) r8)) (fun J10 => (Option.bind (f_X3_isLowest k s v2 J10) (fun r11 => (if r11 = 0 then (f_X2_workOut_31 k s n) (v2 + (nI 1)) J10 else (f_X2_workOut_31 k s n) (v2 + (nI 1)) (up2 J10 (53) 4 ((J10 (53) 4) ||| (f_X5_bit v2)))))))) else none))) else none) else none) else none))
set_option maxHeartbeats 4000000 in
set_option maxRecDepth 100000 in
theorem b_X2_workOut_31 {X : XT} {E : EN} {k : Nat} {s : Nat} {r : Mem} (hC : Cx X E cX2_workOut 3 RX2 4 86) (hs : s < 6) (hR : Rt X E cX2_workOut none none r) : ∀ (n : Nat) (v2 : Int32) (I : Mem), f_X2_workOut_31 k s n v2 I = some r → V X E 3 31 [(0, .ref (E.2.1 (53))), (1, .ref (E.2.1 (8 * s))), (2, .int v2)] [] I := by
  intro n
  induction n with
  | zero =>
    intro v2 I hf
    rw [f_X2_workOut_31] at hf
    cases hf
  | succ n ih =>
    intro v2 I hf
    rw [f_X2_workOut_31] at hf
    refine V_iload_n (pc := 31) hC 2 dX2_workOut_31 rfl rfl ?_
    refine V_aload_n (pc := 32) hC 0 dX2_workOut_32 rfl rfl ?_
    refine gf_X2_38 (pc := 33) hC dX2_workOut_33 ?_
    refine V_icmp_ge (pc := 36) (tgt := 94) hC dX2_workOut_36 (by decide) (fun c2 => ?_) (fun c2 => ?_)
    · have hf := ite_t hf c2
      refine V_aload_n (pc := 94) hC 0 dX2_workOut_94 rfl rfl ?_
      refine V_aload_n (pc := 95) hC 0 dX2_workOut_95 rfl rfl ?_
      refine gf_X2_47 (pc := 96) hC dX2_workOut_96 ?_
      refine V_callS (pc := 99) (rest := [.ref (E.2.1 (53))]) (As := [.int (I (53) 4)]) hC lk_X2_62 (c_J6_bitCount_0f7a4  rfl) rfl rfl (Nat.le_of_ble_eq_true rfl) (by decide) dX2_workOut_99 ?_
      change V X E 3 102 [(0, .ref (E.2.1 (53))), (1, .ref (E.2.1 (8 * s))), (2, .int v2)] [.int (f_J6_bitCount_0f7a4 (I (53) 4)), .ref (E.2.1 (53))] I
      refine pf_X2_67 (pc := 102) hC dX2_workOut_102 ?_
      refine V_aload_n (pc := 105) hC 0 dX2_workOut_105 rfl rfl ?_
      obtain ⟨r3, g3, hf⟩ := bind_some hf
      refine V_callV (pc := 106) (rest := []) (As := []) hC lk_X2_70 (by decide) cel_X2 rfl (c_X2_listCoalitions  g3) rfl rfl (Nat.le_of_ble_eq_true rfl) (by decide) dX2_workOut_106 ?_
      change V X E 3 109 [(0, .ref (E.2.1 (53))), (1, .ref (E.2.1 (8 * s))), (2, .int v2)] [] r3
      refine V_aload_n (pc := 109) hC 0 dX2_workOut_109 rfl rfl ?_
      obtain ⟨r4, g4, hf⟩ := bind_some hf
      refine V_callV (pc := 110) (rest := []) (As := []) hC lk_X2_73 (by decide) cel_X2 rfl (c_X2_countWinning  g4) rfl rfl (Nat.le_of_ble_eq_true rfl) (by decide) dX2_workOut_110 ?_
      change V X E 3 113 [(0, .ref (E.2.1 (53))), (1, .ref (E.2.1 (8 * s))), (2, .int v2)] [] r4
      refine V_aload_n (pc := 113) hC 0 dX2_workOut_113 rfl rfl ?_
      refine V_iconst (pc := 114) hC dX2_workOut_114 (v := (-1 : Int32)) (by decide) ?_
      refine pf_X2_76 (pc := 115) hC dX2_workOut_115 ?_
      have hf := Option.some.inj hf; subst hf
      exact V_return (pc := 118) hR trivial dX2_workOut_118
    · have hf := ite_f hf c2
      refine V_aload_n (pc := 39) hC 0 dX2_workOut_39 rfl rfl ?_
      refine gf_X2_9 (pc := 40) hC dX2_workOut_40 ?_
      refine V_iload_n (pc := 43) hC 2 dX2_workOut_43 rfl rfl ?_
      refine V_aload_n (pc := 44) hC 1 dX2_workOut_44 rfl rfl ?_
      refine gf_X2_50 (pc := 45) hs hC dX2_workOut_45 ?_
      refine V_iload_n (pc := 48) hC 2 dX2_workOut_48 rfl rfl ?_
      obtain ⟨h5, hf⟩ := if_some hf
      refine V_iald (pc := 49) hC (ia_st hs (by decide) (by decide)) (inB_of h5) dX2_workOut_49 ?_
      obtain ⟨h6, hf⟩ := if_some hf
      refine V_iast (pc := 50) hC ia_54 (inB_of h6) dX2_workOut_50 ?_
      refine V_aload_n (pc := 51) hC 0 dX2_workOut_51 rfl rfl ?_
      refine gf_X2_15 (pc := 52) hC dX2_workOut_52 ?_
      refine V_iload_n (pc := 55) hC 2 dX2_workOut_55 rfl rfl ?_
      refine V_aload_n (pc := 56) hC 1 dX2_workOut_56 rfl rfl ?_
      refine V_aload_n (pc := 57) hC 1 dX2_workOut_57 rfl rfl ?_
      refine gf_X2_50 (pc := 58) hs hC dX2_workOut_58 ?_
      refine V_iload_n (pc := 61) hC 2 dX2_workOut_61 rfl rfl ?_
      obtain ⟨h7, hf⟩ := if_some hf
      refine V_iald (pc := 62) hC (ia_st hs (by decide) (by decide)) (inB_of h7) dX2_workOut_62 ?_
      obtain ⟨r8, g8, hf⟩ := bind_some hf
      refine V_callV (pc := 63) (rest := [.int v2, .ref (E.2.1 (55))]) (As := [.int ((up2 I (54) (Int32.toNatClampNeg v2) (I (8 * s + 2) (Int32.toNatClampNeg v2))) (8 * s + 2) (Int32.toNatClampNeg v2))]) hC lk_X2_51 (by omega) (cel_State hs) rfl (c_X3_weightOf hs g8) rfl rfl (Nat.le_of_ble_eq_true rfl) (by decide) dX2_workOut_63 ?_
      change V X E 3 66 [(0, .ref (E.2.1 (53))), (1, .ref (E.2.1 (8 * s))), (2, .int v2)] [.int r8, .int v2, .ref (E.2.1 (55))] (up2 I (54) (Int32.toNatClampNeg v2) (I (8 * s + 2) (Int32.toNatClampNeg v2)))
      obtain ⟨h9, hf⟩ := if_some hf
      obtain ⟨J10, eJ10, hf⟩ := bind_some hf
      have eJ10 := Option.some.inj eJ10
      refine V_iast (pc := 66) hC ia_55 (inB_of h9) dX2_workOut_66 ?_
      rw [eJ10]
      refine V_aload_n (pc := 67) hC 1 dX2_workOut_67 rfl rfl ?_
      refine V_iload_n (pc := 68) hC 2 dX2_workOut_68 rfl rfl ?_
      obtain ⟨r11, g11, hf⟩ := bind_some hf
      refine V_callV (pc := 69) (rest := []) (As := [.int v2]) hC lk_X2_55 (by omega) (cel_State hs) rfl (c_X3_isLowest hs g11) rfl rfl (Nat.le_of_ble_eq_true rfl) (by decide) dX2_workOut_69 ?_
      change V X E 3 72 [(0, .ref (E.2.1 (53))), (1, .ref (E.2.1 (8 * s))), (2, .int v2)] [.int r11] J10
      refine V_if_eq (pc := 72) (tgt := 88) hC dX2_workOut_72 (by decide) (fun c12 => ?_) (fun c12 => ?_)
      · have hf := ite_t hf c12
        refine V_iinc (pc := 88) (lv' := [(2, .int (v2 + (nI 1))), (0, .ref (E.2.1 (53))), (1, .ref (E.2.1 (8 * s)))]) hC (nI 1) 2 dX2_workOut_88 rfl (by decide) (by decide) rfl ?_
        refine V_goto (pc := 91) (tgt := 31) hC dX2_workOut_91 (by decide) ?_
        refine V_sub (pc := 31) (lv' := [(0, .ref (E.2.1 (53))), (1, .ref (E.2.1 (8 * s))), (2, .int (v2 + (nI 1)))]) [1, 2, 0] rfl ?_
        exact ih (v2 + (nI 1)) J10 hf
      · have hf := ite_f hf c12
        refine V_aload_n (pc := 75) hC 0 dX2_workOut_75 rfl rfl ?_
        refine V_dup (pc := 76) hC dX2_workOut_76 rfl ?_
        refine gf_X2_47 (pc := 77) hC dX2_workOut_77 ?_
        refine V_iload_n (pc := 80) hC 2 dX2_workOut_80 rfl rfl ?_
        refine V_callN (pc := 81) (rest := [.int (J10 (53) 4), .ref (E.2.1 (53))]) (As := [.int v2]) hC lk_X2_59 (c_X5_bit  rfl) rfl rfl (Nat.le_of_ble_eq_true rfl) (by decide) dX2_workOut_81 ?_
        change V X E 3 84 [(0, .ref (E.2.1 (53))), (1, .ref (E.2.1 (8 * s))), (2, .int v2)] [.int (f_X5_bit v2), .int (J10 (53) 4), .ref (E.2.1 (53))] J10
        refine V_ior (pc := 84) hC dX2_workOut_84 ?_
        refine pf_X2_47 (pc := 85) hC dX2_workOut_85 ?_
        refine V_iinc (pc := 88) (lv' := [(2, .int (v2 + (nI 1))), (0, .ref (E.2.1 (53))), (1, .ref (E.2.1 (8 * s)))]) hC (nI 1) 2 dX2_workOut_88 rfl (by decide) (by decide) rfl ?_
        refine V_goto (pc := 91) (tgt := 31) hC dX2_workOut_91 (by decide) ?_
        refine V_sub (pc := 31) (lv' := [(0, .ref (E.2.1 (53))), (1, .ref (E.2.1 (8 * s))), (2, .int (v2 + (nI 1)))]) [1, 2, 0] rfl ?_
        exact ih (v2 + (nI 1)) (up2 J10 (53) 4 ((J10 (53) 4) ||| (f_X5_bit v2))) hf
def f_X2_workOut (k : Nat) (s : Nat) (I : Mem) : Option (Mem) := (Option.bind (some (up2 (up2 (up2 I (53) 0 (I (8 * s) 0)) (53) 1 ((up2 I (53) 0 (I (8 * s) 0)) (8 * s) 1)) (53) 2 ((up2 (up2 I (53) 0 (I (8 * s) 0)) (53) 1 ((up2 I (53) 0 (I (8 * s) 0)) (8 * s) 1)) (8 * s) 2))) (fun J1 => f_X2_workOut_31 k s k (nI 0) (up2 J1 (53) 4 (nI 0))))
set_option maxHeartbeats 4000000 in
set_option maxRecDepth 100000 in
theorem c_X2_workOut {E : EN} {k : Nat} {s : Nat} {I : Mem} {r : Mem} (hs : s < 6) (hf : f_X2_workOut k s I = some r) : Ct E yX2_workOut cX2_workOut 3 none 4 86 [.ref (E.2.1 (53)), .ref (E.2.1 (8 * s))] I none r := by
  refine Ct_of (by decide) (Nat.le_of_ble_eq_true rfl) (fun X hC0 hR => ?_)
  have hC : Cx X E cX2_workOut 3 RX2 4 86 := hC0
  change V X E 3 0 [(0, .ref (E.2.1 (53))), (1, .ref (E.2.1 (8 * s)))] [] I
  unfold f_X2_workOut at hf
  refine V_aload_n (pc := 0) hC 0 dX2_workOut_0 rfl rfl ?_
  refine V_aload_n (pc := 1) hC 1 dX2_workOut_1 rfl rfl ?_
  refine gf_X2_32 (pc := 2) hs hC dX2_workOut_2 ?_
  refine pf_X2_38 (pc := 5) hC dX2_workOut_5 ?_
  refine V_aload_n (pc := 8) hC 0 dX2_workOut_8 rfl rfl ?_
  refine V_aload_n (pc := 9) hC 1 dX2_workOut_9 rfl rfl ?_
  refine gf_X2_39 (pc := 10) hs hC dX2_workOut_10 ?_
  refine pf_X2_42 (pc := 13) hC dX2_workOut_13 ?_
  refine V_aload_n (pc := 16) hC 0 dX2_workOut_16 rfl rfl ?_
  refine V_aload_n (pc := 17) hC 1 dX2_workOut_17 rfl rfl ?_
  refine gf_X2_43 (pc := 18) hs hC dX2_workOut_18 ?_
  obtain ⟨J1, eJ1, hf⟩ := bind_some hf
  have eJ1 := Option.some.inj eJ1
  refine pf_X2_46 (pc := 21) hC dX2_workOut_21 ?_
  rw [eJ1]
  refine V_aload_n (pc := 24) hC 0 dX2_workOut_24 rfl rfl ?_
  refine V_iconst (pc := 25) hC dX2_workOut_25 (v := (nI 0)) (by decide) ?_
  refine pf_X2_47 (pc := 26) hC dX2_workOut_26 ?_
  refine V_iconst (pc := 29) hC dX2_workOut_29 (v := (nI 0)) (by decide) ?_
  refine V_istore_n (pc := 30) (lv' := [(2, .int (nI 0)), (0, .ref (E.2.1 (53))), (1, .ref (E.2.1 (8 * s)))]) hC dX2_workOut_30 rfl (by decide) rfl ?_
  refine V_sub (pc := 31) (lv' := [(0, .ref (E.2.1 (53))), (1, .ref (E.2.1 (8 * s))), (2, .int (nI 0))]) [1, 2, 0] rfl ?_
  exact b_X2_workOut_31 hC hs hR k (nI 0) (up2 J1 (53) 4 (nI 0)) hf
def f_X2_isWinning (v1 : Int32) (v2 : Int32) (I : Mem) : Int32 := (if v2 < (I (53) 1) then (nI 0) else (if (f_X2_hasAllVetoes v1 I) = 0 then (nI 0) else (nI 1)))
set_option maxHeartbeats 4000000 in
set_option maxRecDepth 100000 in
theorem c_X2_isWinning {E : EN} {v1 : Int32} {v2 : Int32} {I : Mem} {r : Int32} (hf : f_X2_isWinning v1 v2 I = r) : Ct E yX2_isWinning cX2_isWinning 3 (some .boolean) 1 21 [.ref (E.2.1 (53)), .int v1, .int v2] I (some (.int r)) I := by
  refine Ct_of (by decide) (Nat.le_of_ble_eq_true rfl) (fun X hC0 hR => ?_)
  have hC : Cx X E cX2_isWinning 3 RX2 1 21 := hC0
  change V X E 3 0 [(0, .ref (E.2.1 (53))), (1, .int v1), (2, .int v2)] [] I
  unfold f_X2_isWinning at hf
  refine V_iload_n (pc := 0) hC 2 dX2_isWinning_0 rfl rfl ?_
  refine V_aload_n (pc := 1) hC 0 dX2_isWinning_1 rfl rfl ?_
  refine gf_X2_42 (pc := 2) hC dX2_isWinning_2 ?_
  refine V_icmp_lt (pc := 5) (tgt := 20) hC dX2_isWinning_5 (by decide) (fun c1 => ?_) (fun c1 => ?_)
  · have hf := ite_t hf c1
    refine V_iconst (pc := 20) hC dX2_isWinning_20 (v := (nI 0)) (by decide) ?_
    subst hf
    exact V_ireturn (pc := 21) hR (nar_z (by decide)) dX2_isWinning_21
  · have hf := ite_f hf c1
    refine V_aload_n (pc := 8) hC 0 dX2_isWinning_8 rfl rfl ?_
    refine V_iload_n (pc := 9) hC 1 dX2_isWinning_9 rfl rfl ?_
    refine V_callV (pc := 10) (rest := []) (As := [.int v1]) hC lk_X2_96 (by decide) cel_X2 rfl (c_X2_hasAllVetoes  rfl) rfl rfl (Nat.le_of_ble_eq_true rfl) (by decide) dX2_isWinning_10 ?_
    change V X E 3 13 [(0, .ref (E.2.1 (53))), (1, .int v1), (2, .int v2)] [.int (f_X2_hasAllVetoes v1 I)] I
    refine V_if_eq (pc := 13) (tgt := 20) hC dX2_isWinning_13 (by decide) (fun c2 => ?_) (fun c2 => ?_)
    · have hf := ite_t hf c2
      refine V_iconst (pc := 20) hC dX2_isWinning_20 (v := (nI 0)) (by decide) ?_
      subst hf
      exact V_ireturn (pc := 21) hR (nar_z (by decide)) dX2_isWinning_21
    · have hf := ite_f hf c2
      refine V_iconst (pc := 16) hC dX2_isWinning_16 (v := (nI 1)) (by decide) ?_
      refine V_goto (pc := 17) (tgt := 21) hC dX2_isWinning_17 (by decide) ?_
      subst hf
      exact V_ireturn (pc := 21) hR (nar_z (by decide)) dX2_isWinning_21
def f_X2_winningCoalitions (k : Nat) (v1 : Int32) (I : Mem) : Option (Int32) := (if inB v1 501 = true then some (I (60 + Int32.toNatClampNeg (nI 10)) (Int32.toNatClampNeg v1)) else none)
set_option maxHeartbeats 4000000 in
set_option maxRecDepth 100000 in
theorem c_X2_winningCoalitions {E : EN} {k : Nat} {v1 : Int32} {I : Mem} {r : Int32} (hf : f_X2_winningCoalitions k v1 I = some r) : Ct E yX2_winningCoalitions cX2_winningCoalitions 2 (some .int) 0 0 [.ref (E.2.1 (53)), .int v1] I (some (.int r)) I := by
  refine Ct_of (by decide) (Nat.le_of_ble_eq_true rfl) (fun X hC0 hR => ?_)
  have hC : Cx X E cX2_winningCoalitions 2 RX2 0 0 := hC0
  change V X E 2 0 [(0, .ref (E.2.1 (53))), (1, .int v1)] [] I
  unfold f_X2_winningCoalitions at hf
  refine V_aload_n (pc := 0) hC 0 dX2_winningCoalitions_0 rfl rfl ?_
  refine gf_X2_26 (pc := 1) hC dX2_winningCoalitions_1 ?_
  refine V_bipush (pc := 4) hC dX2_winningCoalitions_4 (v := (nI 10)) (by decide) ?_
  refine V_ald58 (pc := 6) hC (inB_of (by decide)) dX2_winningCoalitions_6 ?_
  refine V_iload_n (pc := 7) hC 1 dX2_winningCoalitions_7 rfl rfl ?_
  obtain ⟨h1, hf⟩ := if_some hf
  refine V_iald (pc := 8) hC (ia_winI (inB_of (by decide))) (inB_of h1) dX2_winningCoalitions_8 ?_
  have hf := Option.some.inj hf; subst hf
  exact V_ireturn (pc := 9) hR rfl dX2_winningCoalitions_9
def f_X2_swings (k : Nat) (v1 : Int32) (v2 : Int32) (I : Mem) : Option (Int32) := (if inB v1 11 = true then (if inB v2 501 = true then (if inB v2 501 = true then some ((I (60 + Int32.toNatClampNeg v1) (Int32.toNatClampNeg v2)) - ((I (60 + Int32.toNatClampNeg (nI 10)) (Int32.toNatClampNeg v2)) - (I (60 + Int32.toNatClampNeg v1) (Int32.toNatClampNeg v2)))) else none) else none) else none)
set_option maxHeartbeats 4000000 in
set_option maxRecDepth 100000 in
theorem c_X2_swings {E : EN} {k : Nat} {v1 : Int32} {v2 : Int32} {I : Mem} {r : Int32} (hf : f_X2_swings k v1 v2 I = some r) : Ct E yX2_swings cX2_swings 5 (some .int) 0 0 [.ref (E.2.1 (53)), .int v1, .int v2] I (some (.int r)) I := by
  refine Ct_of (by decide) (Nat.le_of_ble_eq_true rfl) (fun X hC0 hR => ?_)
  have hC : Cx X E cX2_swings 5 RX2 0 0 := hC0
  change V X E 5 0 [(0, .ref (E.2.1 (53))), (1, .int v1), (2, .int v2)] [] I
  unfold f_X2_swings at hf
  refine V_aload_n (pc := 0) hC 0 dX2_swings_0 rfl rfl ?_
  refine gf_X2_26 (pc := 1) hC dX2_swings_1 ?_
  refine V_iload_n (pc := 4) hC 1 dX2_swings_4 rfl rfl ?_
  obtain ⟨h1, hf⟩ := if_some hf
  refine V_ald58 (pc := 5) hC (inB_of h1) dX2_swings_5 ?_
  refine V_iload_n (pc := 6) hC 2 dX2_swings_6 rfl rfl ?_
  obtain ⟨h2, hf⟩ := if_some hf
  refine V_iald (pc := 7) hC (ia_winI (inB_of h1)) (inB_of h2) dX2_swings_7 ?_
  refine V_istore_n (pc := 8) (lv' := [(3, .int (I (60 + Int32.toNatClampNeg v1) (Int32.toNatClampNeg v2))), (0, .ref (E.2.1 (53))), (1, .int v1), (2, .int v2)]) hC dX2_swings_8 rfl (by decide) rfl ?_
  refine V_aload_n (pc := 9) hC 1 dX2_swings_9 rfl rfl ?_
  refine gf_X2_26 (pc := 10) hC dX2_swings_10 ?_
  refine V_bipush (pc := 13) hC dX2_swings_13 (v := (nI 10)) (by decide) ?_
  refine V_ald58 (pc := 15) hC (inB_of (by decide)) dX2_swings_15 ?_
  refine V_iload_n (pc := 16) hC 3 dX2_swings_16 rfl rfl ?_
  obtain ⟨h3, hf⟩ := if_some hf
  refine V_iald (pc := 17) hC (ia_winI (inB_of (by decide))) (inB_of h3) dX2_swings_17 ?_
  refine V_iload_n (pc := 18) hC 0 dX2_swings_18 rfl rfl ?_
  refine V_isub (pc := 19) hC dX2_swings_19 ?_
  refine V_istore (pc := 20) (lv' := [(4, .int ((I (60 + Int32.toNatClampNeg (nI 10)) (Int32.toNatClampNeg v2)) - (I (60 + Int32.toNatClampNeg v1) (Int32.toNatClampNeg v2)))), (3, .int (I (60 + Int32.toNatClampNeg v1) (Int32.toNatClampNeg v2))), (0, .ref (E.2.1 (53))), (1, .int v1), (2, .int v2)]) hC dX2_swings_20 (by decide) rfl ?_
  refine V_iload_n (pc := 22) hC 1 dX2_swings_22 rfl rfl ?_
  refine V_iload (pc := 23) hC 0 dX2_swings_23 rfl ?_
  refine V_isub (pc := 25) hC dX2_swings_25 ?_
  have hf := Option.some.inj hf; subst hf
  exact V_ireturn (pc := 26) hR rfl dX2_swings_26
def f_X2_swingsOfAll_4 (k : Nat) (I : Mem) (v1 : Int32) : Nat → Int32 → Int32 → Option (Int32)
  | 0, _, _ => none
  | n + 1, v2, v3 => (if (I (53) 0) ≤ v3 then some v2 else (if (f_X5_holds (I (53) 4) v3) = 0 then (f_X2_swingsOfAll_4 k I v1 n) v2 (v3 + (nI 1)) else (Option.bind (f_X2_swings k v3 v1 I) (fun r3 => (f_X2_swingsOfAll_4 k I v1 n) (v2 + r3) (v3 + (nI 1))))))
set_option maxHeartbeats 4000000 in
set_option maxRecDepth 100000 in
theorem b_X2_swingsOfAll_4 {X : XT} {E : EN} {k : Nat} {I : Mem} {v1 : Int32} {r : Int32} (hC : Cx X E cX2_swingsOfAll 4 RX2 2 41) (hR : Rt X E cX2_swingsOfAll (some .int) (some (.int r)) I) : ∀ (n : Nat) (v2 : Int32) (v3 : Int32), f_X2_swingsOfAll_4 k I v1 n v2 v3 = some r → V X E 4 4 [(0, .ref (E.2.1 (53))), (1, .int v1), (2, .int v2), (3, .int v3)] [] I := by
  intro n
  induction n with
  | zero =>
    intro v2 v3 hf
    rw [f_X2_swingsOfAll_4] at hf
    cases hf
  | succ n ih =>
    intro v2 v3 hf
    rw [f_X2_swingsOfAll_4] at hf
    refine V_iload_n (pc := 4) hC 3 dX2_swingsOfAll_4 rfl rfl ?_
    refine V_aload_n (pc := 5) hC 0 dX2_swingsOfAll_5 rfl rfl ?_
    refine gf_X2_38 (pc := 6) hC dX2_swingsOfAll_6 ?_
    refine V_icmp_ge (pc := 9) (tgt := 38) hC dX2_swingsOfAll_9 (by decide) (fun c1 => ?_) (fun c1 => ?_)
    · have hf := ite_t hf c1
      refine V_iload_n (pc := 38) hC 2 dX2_swingsOfAll_38 rfl rfl ?_
      have hf := Option.some.inj hf; subst hf
      exact V_ireturn (pc := 39) hR rfl dX2_swingsOfAll_39
    · have hf := ite_f hf c1
      refine V_aload_n (pc := 12) hC 0 dX2_swingsOfAll_12 rfl rfl ?_
      refine gf_X2_47 (pc := 13) hC dX2_swingsOfAll_13 ?_
      refine V_iload_n (pc := 16) hC 3 dX2_swingsOfAll_16 rfl rfl ?_
      refine V_callN (pc := 17) (rest := []) (As := [.int (I (53) 4), .int v3]) hC lk_X2_82 (c_X5_holds  rfl) rfl rfl (Nat.le_of_ble_eq_true rfl) (by decide) dX2_swingsOfAll_17 ?_
      change V X E 4 20 [(0, .ref (E.2.1 (53))), (1, .int v1), (2, .int v2), (3, .int v3)] [.int (f_X5_holds (I (53) 4) v3)] I
      refine V_if_eq (pc := 20) (tgt := 32) hC dX2_swingsOfAll_20 (by decide) (fun c2 => ?_) (fun c2 => ?_)
      · have hf := ite_t hf c2
        refine V_iinc (pc := 32) (lv' := [(3, .int (v3 + (nI 1))), (0, .ref (E.2.1 (53))), (1, .int v1), (2, .int v2)]) hC (nI 1) 3 dX2_swingsOfAll_32 rfl (by decide) (by decide) rfl ?_
        refine V_goto (pc := 35) (tgt := 4) hC dX2_swingsOfAll_35 (by decide) ?_
        refine V_sub (pc := 4) (lv' := [(0, .ref (E.2.1 (53))), (1, .int v1), (2, .int v2), (3, .int (v3 + (nI 1)))]) [1, 2, 3, 0] rfl ?_
        exact ih v2 (v3 + (nI 1)) hf
      · have hf := ite_f hf c2
        refine V_iload_n (pc := 23) hC 2 dX2_swingsOfAll_23 rfl rfl ?_
        refine V_aload_n (pc := 24) hC 0 dX2_swingsOfAll_24 rfl rfl ?_
        refine V_iload_n (pc := 25) hC 3 dX2_swingsOfAll_25 rfl rfl ?_
        refine V_iload_n (pc := 26) hC 1 dX2_swingsOfAll_26 rfl rfl ?_
        obtain ⟨r3, g3, hf⟩ := bind_some hf
        refine V_callV (pc := 27) (rest := [.int v2]) (As := [.int v3, .int v1]) hC lk_X2_103 (by decide) cel_X2 rfl (c_X2_swings  g3) rfl rfl (Nat.le_of_ble_eq_true rfl) (by decide) dX2_swingsOfAll_27 ?_
        change V X E 4 30 [(0, .ref (E.2.1 (53))), (1, .int v1), (2, .int v2), (3, .int v3)] [.int r3, .int v2] I
        refine V_iadd (pc := 30) hC dX2_swingsOfAll_30 ?_
        refine V_istore_n (pc := 31) (lv' := [(2, .int (v2 + r3)), (0, .ref (E.2.1 (53))), (1, .int v1), (3, .int v3)]) hC dX2_swingsOfAll_31 rfl (by decide) rfl ?_
        refine V_iinc (pc := 32) (lv' := [(3, .int (v3 + (nI 1))), (2, .int (v2 + r3)), (0, .ref (E.2.1 (53))), (1, .int v1)]) hC (nI 1) 3 dX2_swingsOfAll_32 rfl (by decide) (by decide) rfl ?_
        refine V_goto (pc := 35) (tgt := 4) hC dX2_swingsOfAll_35 (by decide) ?_
        refine V_sub (pc := 4) (lv' := [(0, .ref (E.2.1 (53))), (1, .int v1), (2, .int (v2 + r3)), (3, .int (v3 + (nI 1)))]) [2, 3, 1, 0] rfl ?_
        exact ih (v2 + r3) (v3 + (nI 1)) hf
def f_X2_swingsOfAll (k : Nat) (v1 : Int32) (I : Mem) : Option (Int32) := f_X2_swingsOfAll_4 k I v1 k (nI 0) (nI 0)
set_option maxHeartbeats 4000000 in
set_option maxRecDepth 100000 in
theorem c_X2_swingsOfAll {E : EN} {k : Nat} {v1 : Int32} {I : Mem} {r : Int32} (hf : f_X2_swingsOfAll k v1 I = some r) : Ct E yX2_swingsOfAll cX2_swingsOfAll 4 (some .int) 2 41 [.ref (E.2.1 (53)), .int v1] I (some (.int r)) I := by
  refine Ct_of (by decide) (Nat.le_of_ble_eq_true rfl) (fun X hC0 hR => ?_)
  have hC : Cx X E cX2_swingsOfAll 4 RX2 2 41 := hC0
  change V X E 4 0 [(0, .ref (E.2.1 (53))), (1, .int v1)] [] I
  unfold f_X2_swingsOfAll at hf
  refine V_iconst (pc := 0) hC dX2_swingsOfAll_0 (v := (nI 0)) (by decide) ?_
  refine V_istore_n (pc := 1) (lv' := [(2, .int (nI 0)), (0, .ref (E.2.1 (53))), (1, .int v1)]) hC dX2_swingsOfAll_1 rfl (by decide) rfl ?_
  refine V_iconst (pc := 2) hC dX2_swingsOfAll_2 (v := (nI 0)) (by decide) ?_
  refine V_istore_n (pc := 3) (lv' := [(3, .int (nI 0)), (2, .int (nI 0)), (0, .ref (E.2.1 (53))), (1, .int v1)]) hC dX2_swingsOfAll_3 rfl (by decide) rfl ?_
  refine V_sub (pc := 4) (lv' := [(0, .ref (E.2.1 (53))), (1, .int v1), (2, .int (nI 0)), (3, .int (nI 0))]) [2, 3, 1, 0] rfl ?_
  exact b_X2_swingsOfAll_4 hC hR k (nI 0) (nI 0) hf
def f_X2_isDummy (k : Nat) (v1 : Int32) (v2 : Int32) (I : Mem) : Option (Int32) := (Option.bind (f_X2_swings k v1 v2 I) (fun r1 => (if r1 = 0 then some (nI 1) else some (nI 0))))
set_option maxHeartbeats 4000000 in
set_option maxRecDepth 100000 in
theorem c_X2_isDummy {E : EN} {k : Nat} {v1 : Int32} {v2 : Int32} {I : Mem} {r : Int32} (hf : f_X2_isDummy k v1 v2 I = some r) : Ct E yX2_isDummy cX2_isDummy 3 (some .boolean) 1 24 [.ref (E.2.1 (53)), .int v1, .int v2] I (some (.int r)) I := by
  refine Ct_of (by decide) (Nat.le_of_ble_eq_true rfl) (fun X hC0 hR => ?_)
  have hC : Cx X E cX2_isDummy 3 RX2 1 24 := hC0
  change V X E 3 0 [(0, .ref (E.2.1 (53))), (1, .int v1), (2, .int v2)] [] I
  unfold f_X2_isDummy at hf
  refine V_aload_n (pc := 0) hC 0 dX2_isDummy_0 rfl rfl ?_
  refine V_iload_n (pc := 1) hC 1 dX2_isDummy_1 rfl rfl ?_
  refine V_iload_n (pc := 2) hC 2 dX2_isDummy_2 rfl rfl ?_
  obtain ⟨r1, g1, hf⟩ := bind_some hf
  refine V_callV (pc := 3) (rest := []) (As := [.int v1, .int v2]) hC lk_X2_103 (by decide) cel_X2 rfl (c_X2_swings  g1) rfl rfl (Nat.le_of_ble_eq_true rfl) (by decide) dX2_isDummy_3 ?_
  change V X E 3 6 [(0, .ref (E.2.1 (53))), (1, .int v1), (2, .int v2)] [.int r1] I
  refine V_if_ne (pc := 6) (tgt := 13) hC dX2_isDummy_6 (by decide) (fun c2 => ?_) (fun c2 => ?_)
  · have hf := ite_f hf c2
    refine V_iconst (pc := 13) hC dX2_isDummy_13 (v := (nI 0)) (by decide) ?_
    have hf := Option.some.inj hf; subst hf
    exact V_ireturn (pc := 14) hR (nar_z (by decide)) dX2_isDummy_14
  · have hf := ite_t hf c2
    refine V_iconst (pc := 9) hC dX2_isDummy_9 (v := (nI 1)) (by decide) ?_
    refine V_goto (pc := 10) (tgt := 14) hC dX2_isDummy_10 (by decide) ?_
    have hf := Option.some.inj hf; subst hf
    exact V_ireturn (pc := 14) hR (nar_z (by decide)) dX2_isDummy_14
def f_X2_isBlocker (k : Nat) (v1 : Int32) (v2 : Int32) (I : Mem) : Option (Int32) := (if inB v2 501 = true then (if (I (60 + Int32.toNatClampNeg (nI 10)) (Int32.toNatClampNeg v2)) ≤ 0 then some (nI 0) else (if inB v1 11 = true then (if inB v2 501 = true then (if inB v2 501 = true then (if (I (60 + Int32.toNatClampNeg v1) (Int32.toNatClampNeg v2)) = (I (60 + Int32.toNatClampNeg (nI 10)) (Int32.toNatClampNeg v2)) then some (nI 1) else some (nI 0)) else none) else none) else none)) else none)
set_option maxHeartbeats 4000000 in
set_option maxRecDepth 100000 in
theorem c_X2_isBlocker {E : EN} {k : Nat} {v1 : Int32} {v2 : Int32} {I : Mem} {r : Int32} (hf : f_X2_isBlocker k v1 v2 I = some r) : Ct E yX2_isBlocker cX2_isBlocker 3 (some .boolean) 0 0 [.ref (E.2.1 (53)), .int v1, .int v2] I (some (.int r)) I := by
  refine Ct_of (by decide) (Nat.le_of_ble_eq_true rfl) (fun X hC0 hR => ?_)
  have hC : Cx X E cX2_isBlocker 3 RX2 0 0 := hC0
  change V X E 3 0 [(0, .ref (E.2.1 (53))), (1, .int v1), (2, .int v2)] [] I
  unfold f_X2_isBlocker at hf
  refine V_aload_n (pc := 0) hC 0 dX2_isBlocker_0 rfl rfl ?_
  refine gf_X2_26 (pc := 1) hC dX2_isBlocker_1 ?_
  refine V_bipush (pc := 4) hC dX2_isBlocker_4 (v := (nI 10)) (by decide) ?_
  refine V_ald58 (pc := 6) hC (inB_of (by decide)) dX2_isBlocker_6 ?_
  refine V_iload_n (pc := 7) hC 2 dX2_isBlocker_7 rfl rfl ?_
  obtain ⟨h1, hf⟩ := if_some hf
  refine V_iald (pc := 8) hC (ia_winI (inB_of (by decide))) (inB_of h1) dX2_isBlocker_8 ?_
  refine V_if_le (pc := 9) (tgt := 36) hC dX2_isBlocker_9 (by decide) (fun c2 => ?_) (fun c2 => ?_)
  · have hf := ite_t hf c2
    refine V_iconst (pc := 36) hC dX2_isBlocker_36 (v := (nI 0)) (by decide) ?_
    have hf := Option.some.inj hf; subst hf
    exact V_ireturn (pc := 37) hR (nar_z (by decide)) dX2_isBlocker_37
  · have hf := ite_f hf c2
    refine V_aload_n (pc := 12) hC 0 dX2_isBlocker_12 rfl rfl ?_
    refine gf_X2_26 (pc := 13) hC dX2_isBlocker_13 ?_
    refine V_iload_n (pc := 16) hC 1 dX2_isBlocker_16 rfl rfl ?_
    obtain ⟨h3, hf⟩ := if_some hf
    refine V_ald58 (pc := 17) hC (inB_of h3) dX2_isBlocker_17 ?_
    refine V_iload_n (pc := 18) hC 2 dX2_isBlocker_18 rfl rfl ?_
    obtain ⟨h4, hf⟩ := if_some hf
    refine V_iald (pc := 19) hC (ia_winI (inB_of h3)) (inB_of h4) dX2_isBlocker_19 ?_
    refine V_aload_n (pc := 20) hC 0 dX2_isBlocker_20 rfl rfl ?_
    refine gf_X2_26 (pc := 21) hC dX2_isBlocker_21 ?_
    refine V_bipush (pc := 24) hC dX2_isBlocker_24 (v := (nI 10)) (by decide) ?_
    refine V_ald58 (pc := 26) hC (inB_of (by decide)) dX2_isBlocker_26 ?_
    refine V_iload_n (pc := 27) hC 2 dX2_isBlocker_27 rfl rfl ?_
    obtain ⟨h5, hf⟩ := if_some hf
    refine V_iald (pc := 28) hC (ia_winI (inB_of (by decide))) (inB_of h5) dX2_isBlocker_28 ?_
    refine V_icmp_ne (pc := 29) (tgt := 36) hC dX2_isBlocker_29 (by decide) (fun c6 => ?_) (fun c6 => ?_)
    · have hf := ite_f hf c6
      refine V_iconst (pc := 36) hC dX2_isBlocker_36 (v := (nI 0)) (by decide) ?_
      have hf := Option.some.inj hf; subst hf
      exact V_ireturn (pc := 37) hR (nar_z (by decide)) dX2_isBlocker_37
    · have hf := ite_t hf c6
      refine V_iconst (pc := 32) hC dX2_isBlocker_32 (v := (nI 1)) (by decide) ?_
      refine V_goto (pc := 33) (tgt := 37) hC dX2_isBlocker_33 (by decide) ?_
      have hf := Option.some.inj hf; subst hf
      exact V_ireturn (pc := 37) hR (nar_z (by decide)) dX2_isBlocker_37
def f_X2_isDictator_23 (k : Nat) (I : Mem) (v1 : Int32) : Nat → Int32 → Option (Int32)
  | 0, _ => none
  | n + 1, v2 => (if (I (53) 0) ≤ v2 then some (nI 1) else (if inB v1 10 = true then (if (f_X5_holds (I (54) (Int32.toNatClampNeg v1)) v2) = 0 then (Option.bind (f_X2_isDummy k v2 (I (53) 1) I) (fun r7 => (if r7 = 0 then some (nI 0) else (f_X2_isDictator_23 k I v1 n) (v2 + (nI 1))))) else (f_X2_isDictator_23 k I v1 n) (v2 + (nI 1))) else none))
set_option maxHeartbeats 4000000 in
set_option maxRecDepth 100000 in
theorem b_X2_isDictator_23 {X : XT} {E : EN} {k : Nat} {I : Mem} {v1 : Int32} {r : Int32} (hC : Cx X E cX2_isDictator 3 RX2 2 46) (hR : Rt X E cX2_isDictator (some .boolean) (some (.int r)) I) : ∀ (n : Nat) (v2 : Int32), f_X2_isDictator_23 k I v1 n v2 = some r → V X E 3 23 [(0, .ref (E.2.1 (53))), (1, .int v1), (2, .int v2)] [] I := by
  intro n
  induction n with
  | zero =>
    intro v2 hf
    rw [f_X2_isDictator_23] at hf
    cases hf
  | succ n ih =>
    intro v2 hf
    rw [f_X2_isDictator_23] at hf
    refine V_iload_n (pc := 23) hC 2 dX2_isDictator_23 rfl rfl ?_
    refine V_aload_n (pc := 24) hC 0 dX2_isDictator_24 rfl rfl ?_
    refine gf_X2_38 (pc := 25) hC dX2_isDictator_25 ?_
    refine V_icmp_ge (pc := 28) (tgt := 64) hC dX2_isDictator_28 (by decide) (fun c4 => ?_) (fun c4 => ?_)
    · have hf := ite_t hf c4
      refine V_iconst (pc := 64) hC dX2_isDictator_64 (v := (nI 1)) (by decide) ?_
      have hf := Option.some.inj hf; subst hf
      exact V_ireturn (pc := 65) hR (nar_z (by decide)) dX2_isDictator_65
    · have hf := ite_f hf c4
      refine V_aload_n (pc := 31) hC 0 dX2_isDictator_31 rfl rfl ?_
      refine gf_X2_9 (pc := 32) hC dX2_isDictator_32 ?_
      refine V_iload_n (pc := 35) hC 1 dX2_isDictator_35 rfl rfl ?_
      obtain ⟨h5, hf⟩ := if_some hf
      refine V_iald (pc := 36) hC ia_54 (inB_of h5) dX2_isDictator_36 ?_
      refine V_iload_n (pc := 37) hC 2 dX2_isDictator_37 rfl rfl ?_
      refine V_callN (pc := 38) (rest := []) (As := [.int (I (54) (Int32.toNatClampNeg v1)), .int v2]) hC lk_X2_82 (c_X5_holds  rfl) rfl rfl (Nat.le_of_ble_eq_true rfl) (by decide) dX2_isDictator_38 ?_
      change V X E 3 41 [(0, .ref (E.2.1 (53))), (1, .int v1), (2, .int v2)] [.int (f_X5_holds (I (54) (Int32.toNatClampNeg v1)) v2)] I
      refine V_if_ne (pc := 41) (tgt := 58) hC dX2_isDictator_41 (by decide) (fun c6 => ?_) (fun c6 => ?_)
      · have hf := ite_f hf c6
        refine V_iinc (pc := 58) (lv' := [(2, .int (v2 + (nI 1))), (0, .ref (E.2.1 (53))), (1, .int v1)]) hC (nI 1) 2 dX2_isDictator_58 rfl (by decide) (by decide) rfl ?_
        refine V_goto (pc := 61) (tgt := 23) hC dX2_isDictator_61 (by decide) ?_
        refine V_sub (pc := 23) (lv' := [(0, .ref (E.2.1 (53))), (1, .int v1), (2, .int (v2 + (nI 1)))]) [1, 2, 0] rfl ?_
        exact ih (v2 + (nI 1)) hf
      · have hf := ite_t hf c6
        refine V_aload_n (pc := 44) hC 0 dX2_isDictator_44 rfl rfl ?_
        refine V_iload_n (pc := 45) hC 2 dX2_isDictator_45 rfl rfl ?_
        refine V_aload_n (pc := 46) hC 0 dX2_isDictator_46 rfl rfl ?_
        refine gf_X2_42 (pc := 47) hC dX2_isDictator_47 ?_
        obtain ⟨r7, g7, hf⟩ := bind_some hf
        refine V_callV (pc := 50) (rest := []) (As := [.int v2, .int (I (53) 1)]) hC lk_X2_110 (by decide) cel_X2 rfl (c_X2_isDummy  g7) rfl rfl (Nat.le_of_ble_eq_true rfl) (by decide) dX2_isDictator_50 ?_
        change V X E 3 53 [(0, .ref (E.2.1 (53))), (1, .int v1), (2, .int v2)] [.int r7] I
        refine V_if_ne (pc := 53) (tgt := 58) hC dX2_isDictator_53 (by decide) (fun c8 => ?_) (fun c8 => ?_)
        · have hf := ite_f hf c8
          refine V_iinc (pc := 58) (lv' := [(2, .int (v2 + (nI 1))), (0, .ref (E.2.1 (53))), (1, .int v1)]) hC (nI 1) 2 dX2_isDictator_58 rfl (by decide) (by decide) rfl ?_
          refine V_goto (pc := 61) (tgt := 23) hC dX2_isDictator_61 (by decide) ?_
          refine V_sub (pc := 23) (lv' := [(0, .ref (E.2.1 (53))), (1, .int v1), (2, .int (v2 + (nI 1)))]) [1, 2, 0] rfl ?_
          exact ih (v2 + (nI 1)) hf
        · have hf := ite_t hf c8
          refine V_iconst (pc := 56) hC dX2_isDictator_56 (v := (nI 0)) (by decide) ?_
          have hf := Option.some.inj hf; subst hf
          exact V_ireturn (pc := 57) hR (nar_z (by decide)) dX2_isDictator_57
def f_X2_isDictator (k : Nat) (v1 : Int32) (I : Mem) : Option (Int32) := (if inB v1 10 = true then (if inB v1 10 = true then (if (f_X2_isWinning (I (54) (Int32.toNatClampNeg v1)) (I (55) (Int32.toNatClampNeg v1)) I) = 0 then some (nI 0) else f_X2_isDictator_23 k I v1 k (nI 0)) else none) else none)
set_option maxHeartbeats 4000000 in
set_option maxRecDepth 100000 in
theorem c_X2_isDictator {E : EN} {k : Nat} {v1 : Int32} {I : Mem} {r : Int32} (hf : f_X2_isDictator k v1 I = some r) : Ct E yX2_isDictator cX2_isDictator 3 (some .boolean) 2 46 [.ref (E.2.1 (53)), .int v1] I (some (.int r)) I := by
  refine Ct_of (by decide) (Nat.le_of_ble_eq_true rfl) (fun X hC0 hR => ?_)
  have hC : Cx X E cX2_isDictator 3 RX2 2 46 := hC0
  change V X E 3 0 [(0, .ref (E.2.1 (53))), (1, .int v1)] [] I
  unfold f_X2_isDictator at hf
  refine V_aload_n (pc := 0) hC 0 dX2_isDictator_0 rfl rfl ?_
  refine V_aload_n (pc := 1) hC 0 dX2_isDictator_1 rfl rfl ?_
  refine gf_X2_9 (pc := 2) hC dX2_isDictator_2 ?_
  refine V_iload_n (pc := 5) hC 1 dX2_isDictator_5 rfl rfl ?_
  obtain ⟨h1, hf⟩ := if_some hf
  refine V_iald (pc := 6) hC ia_54 (inB_of h1) dX2_isDictator_6 ?_
  refine V_aload_n (pc := 7) hC 0 dX2_isDictator_7 rfl rfl ?_
  refine gf_X2_15 (pc := 8) hC dX2_isDictator_8 ?_
  refine V_iload_n (pc := 11) hC 1 dX2_isDictator_11 rfl rfl ?_
  obtain ⟨h2, hf⟩ := if_some hf
  refine V_iald (pc := 12) hC ia_55 (inB_of h2) dX2_isDictator_12 ?_
  refine V_callV (pc := 13) (rest := []) (As := [.int (I (54) (Int32.toNatClampNeg v1)), .int (I (55) (Int32.toNatClampNeg v1))]) hC lk_X2_107 (by decide) cel_X2 rfl (c_X2_isWinning  rfl) rfl rfl (Nat.le_of_ble_eq_true rfl) (by decide) dX2_isDictator_13 ?_
  change V X E 3 16 [(0, .ref (E.2.1 (53))), (1, .int v1)] [.int (f_X2_isWinning (I (54) (Int32.toNatClampNeg v1)) (I (55) (Int32.toNatClampNeg v1)) I)] I
  refine V_if_ne (pc := 16) (tgt := 21) hC dX2_isDictator_16 (by decide) (fun c3 => ?_) (fun c3 => ?_)
  · have hf := ite_f hf c3
    refine V_iconst (pc := 21) hC dX2_isDictator_21 (v := (nI 0)) (by decide) ?_
    refine V_istore_n (pc := 22) (lv' := [(2, .int (nI 0)), (0, .ref (E.2.1 (53))), (1, .int v1)]) hC dX2_isDictator_22 rfl (by decide) rfl ?_
    refine V_sub (pc := 23) (lv' := [(0, .ref (E.2.1 (53))), (1, .int v1), (2, .int (nI 0))]) [1, 2, 0] rfl ?_
    exact b_X2_isDictator_23 hC hR k (nI 0) hf
  · have hf := ite_t hf c3
    refine V_iconst (pc := 19) hC dX2_isDictator_19 (v := (nI 0)) (by decide) ?_
    have hf := Option.some.inj hf; subst hf
    exact V_ireturn (pc := 20) hR (nar_z (by decide)) dX2_isDictator_20
def f_X2_dummies_4 (k : Nat) (I : Mem) (v1 : Int32) : Nat → Int32 → Int32 → Option (Int32)
  | 0, _, _ => none
  | n + 1, v2, v3 => (if (I (53) 0) ≤ v3 then some v2 else (if (f_X5_holds (I (53) 4) v3) = 0 then (f_X2_dummies_4 k I v1 n) v2 (v3 + (nI 1)) else (Option.bind (f_X2_isDummy k v3 v1 I) (fun r3 => (if r3 = 0 then (f_X2_dummies_4 k I v1 n) v2 (v3 + (nI 1)) else (f_X2_dummies_4 k I v1 n) (v2 + (nI 1)) (v3 + (nI 1)))))))
set_option maxHeartbeats 4000000 in
set_option maxRecDepth 100000 in
theorem b_X2_dummies_4 {X : XT} {E : EN} {k : Nat} {I : Mem} {v1 : Int32} {r : Int32} (hC : Cx X E cX2_dummies 4 RX2 2 46) (hR : Rt X E cX2_dummies (some .int) (some (.int r)) I) : ∀ (n : Nat) (v2 : Int32) (v3 : Int32), f_X2_dummies_4 k I v1 n v2 v3 = some r → V X E 4 4 [(0, .ref (E.2.1 (53))), (1, .int v1), (2, .int v2), (3, .int v3)] [] I := by
  intro n
  induction n with
  | zero =>
    intro v2 v3 hf
    rw [f_X2_dummies_4] at hf
    cases hf
  | succ n ih =>
    intro v2 v3 hf
    rw [f_X2_dummies_4] at hf
    refine V_iload_n (pc := 4) hC 3 dX2_dummies_4 rfl rfl ?_
    refine V_aload_n (pc := 5) hC 0 dX2_dummies_5 rfl rfl ?_
    refine gf_X2_38 (pc := 6) hC dX2_dummies_6 ?_
    refine V_icmp_ge (pc := 9) (tgt := 41) hC dX2_dummies_9 (by decide) (fun c1 => ?_) (fun c1 => ?_)
    · have hf := ite_t hf c1
      refine V_iload_n (pc := 41) hC 2 dX2_dummies_41 rfl rfl ?_
      have hf := Option.some.inj hf; subst hf
      exact V_ireturn (pc := 42) hR rfl dX2_dummies_42
    · have hf := ite_f hf c1
      refine V_aload_n (pc := 12) hC 0 dX2_dummies_12 rfl rfl ?_
      refine gf_X2_47 (pc := 13) hC dX2_dummies_13 ?_
      refine V_iload_n (pc := 16) hC 3 dX2_dummies_16 rfl rfl ?_
      refine V_callN (pc := 17) (rest := []) (As := [.int (I (53) 4), .int v3]) hC lk_X2_82 (c_X5_holds  rfl) rfl rfl (Nat.le_of_ble_eq_true rfl) (by decide) dX2_dummies_17 ?_
      change V X E 4 20 [(0, .ref (E.2.1 (53))), (1, .int v1), (2, .int v2), (3, .int v3)] [.int (f_X5_holds (I (53) 4) v3)] I
      refine V_if_eq (pc := 20) (tgt := 35) hC dX2_dummies_20 (by decide) (fun c2 => ?_) (fun c2 => ?_)
      · have hf := ite_t hf c2
        refine V_iinc (pc := 35) (lv' := [(3, .int (v3 + (nI 1))), (0, .ref (E.2.1 (53))), (1, .int v1), (2, .int v2)]) hC (nI 1) 3 dX2_dummies_35 rfl (by decide) (by decide) rfl ?_
        refine V_goto (pc := 38) (tgt := 4) hC dX2_dummies_38 (by decide) ?_
        refine V_sub (pc := 4) (lv' := [(0, .ref (E.2.1 (53))), (1, .int v1), (2, .int v2), (3, .int (v3 + (nI 1)))]) [1, 2, 3, 0] rfl ?_
        exact ih v2 (v3 + (nI 1)) hf
      · have hf := ite_f hf c2
        refine V_aload_n (pc := 23) hC 0 dX2_dummies_23 rfl rfl ?_
        refine V_iload_n (pc := 24) hC 3 dX2_dummies_24 rfl rfl ?_
        refine V_iload_n (pc := 25) hC 1 dX2_dummies_25 rfl rfl ?_
        obtain ⟨r3, g3, hf⟩ := bind_some hf
        refine V_callV (pc := 26) (rest := []) (As := [.int v3, .int v1]) hC lk_X2_110 (by decide) cel_X2 rfl (c_X2_isDummy  g3) rfl rfl (Nat.le_of_ble_eq_true rfl) (by decide) dX2_dummies_26 ?_
        change V X E 4 29 [(0, .ref (E.2.1 (53))), (1, .int v1), (2, .int v2), (3, .int v3)] [.int r3] I
        refine V_if_eq (pc := 29) (tgt := 35) hC dX2_dummies_29 (by decide) (fun c4 => ?_) (fun c4 => ?_)
        · have hf := ite_t hf c4
          refine V_iinc (pc := 35) (lv' := [(3, .int (v3 + (nI 1))), (0, .ref (E.2.1 (53))), (1, .int v1), (2, .int v2)]) hC (nI 1) 3 dX2_dummies_35 rfl (by decide) (by decide) rfl ?_
          refine V_goto (pc := 38) (tgt := 4) hC dX2_dummies_38 (by decide) ?_
          refine V_sub (pc := 4) (lv' := [(0, .ref (E.2.1 (53))), (1, .int v1), (2, .int v2), (3, .int (v3 + (nI 1)))]) [1, 2, 3, 0] rfl ?_
          exact ih v2 (v3 + (nI 1)) hf
        · have hf := ite_f hf c4
          refine V_iinc (pc := 32) (lv' := [(2, .int (v2 + (nI 1))), (0, .ref (E.2.1 (53))), (1, .int v1), (3, .int v3)]) hC (nI 1) 2 dX2_dummies_32 rfl (by decide) (by decide) rfl ?_
          refine V_iinc (pc := 35) (lv' := [(3, .int (v3 + (nI 1))), (2, .int (v2 + (nI 1))), (0, .ref (E.2.1 (53))), (1, .int v1)]) hC (nI 1) 3 dX2_dummies_35 rfl (by decide) (by decide) rfl ?_
          refine V_goto (pc := 38) (tgt := 4) hC dX2_dummies_38 (by decide) ?_
          refine V_sub (pc := 4) (lv' := [(0, .ref (E.2.1 (53))), (1, .int v1), (2, .int (v2 + (nI 1))), (3, .int (v3 + (nI 1)))]) [2, 3, 1, 0] rfl ?_
          exact ih (v2 + (nI 1)) (v3 + (nI 1)) hf
def f_X2_dummies (k : Nat) (v1 : Int32) (I : Mem) : Option (Int32) := f_X2_dummies_4 k I v1 k (nI 0) (nI 0)
set_option maxHeartbeats 4000000 in
set_option maxRecDepth 100000 in
theorem c_X2_dummies {E : EN} {k : Nat} {v1 : Int32} {I : Mem} {r : Int32} (hf : f_X2_dummies k v1 I = some r) : Ct E yX2_dummies cX2_dummies 4 (some .int) 2 46 [.ref (E.2.1 (53)), .int v1] I (some (.int r)) I := by
  refine Ct_of (by decide) (Nat.le_of_ble_eq_true rfl) (fun X hC0 hR => ?_)
  have hC : Cx X E cX2_dummies 4 RX2 2 46 := hC0
  change V X E 4 0 [(0, .ref (E.2.1 (53))), (1, .int v1)] [] I
  unfold f_X2_dummies at hf
  refine V_iconst (pc := 0) hC dX2_dummies_0 (v := (nI 0)) (by decide) ?_
  refine V_istore_n (pc := 1) (lv' := [(2, .int (nI 0)), (0, .ref (E.2.1 (53))), (1, .int v1)]) hC dX2_dummies_1 rfl (by decide) rfl ?_
  refine V_iconst (pc := 2) hC dX2_dummies_2 (v := (nI 0)) (by decide) ?_
  refine V_istore_n (pc := 3) (lv' := [(3, .int (nI 0)), (2, .int (nI 0)), (0, .ref (E.2.1 (53))), (1, .int v1)]) hC dX2_dummies_3 rfl (by decide) rfl ?_
  refine V_sub (pc := 4) (lv' := [(0, .ref (E.2.1 (53))), (1, .int v1), (2, .int (nI 0)), (3, .int (nI 0))]) [2, 3, 1, 0] rfl ?_
  exact b_X2_dummies_4 hC hR k (nI 0) (nI 0) hf
def f_X2_blockers_4 (k : Nat) (I : Mem) (v1 : Int32) : Nat → Int32 → Int32 → Option (Int32)
  | 0, _, _ => none
  | n + 1, v2, v3 => (if (I (53) 0) ≤ v3 then some v2 else (if (f_X5_holds (I (53) 4) v3) = 0 then (f_X2_blockers_4 k I v1 n) v2 (v3 + (nI 1)) else (Option.bind (f_X2_isBlocker k v3 v1 I) (fun r3 => (if r3 = 0 then (f_X2_blockers_4 k I v1 n) v2 (v3 + (nI 1)) else (f_X2_blockers_4 k I v1 n) (v2 + (nI 1)) (v3 + (nI 1)))))))
set_option maxHeartbeats 4000000 in
set_option maxRecDepth 100000 in
theorem b_X2_blockers_4 {X : XT} {E : EN} {k : Nat} {I : Mem} {v1 : Int32} {r : Int32} (hC : Cx X E cX2_blockers 4 RX2 2 41) (hR : Rt X E cX2_blockers (some .int) (some (.int r)) I) : ∀ (n : Nat) (v2 : Int32) (v3 : Int32), f_X2_blockers_4 k I v1 n v2 v3 = some r → V X E 4 4 [(0, .ref (E.2.1 (53))), (1, .int v1), (2, .int v2), (3, .int v3)] [] I := by
  intro n
  induction n with
  | zero =>
    intro v2 v3 hf
    rw [f_X2_blockers_4] at hf
    cases hf
  | succ n ih =>
    intro v2 v3 hf
    rw [f_X2_blockers_4] at hf
    refine V_iload_n (pc := 4) hC 3 dX2_blockers_4 rfl rfl ?_
    refine V_aload_n (pc := 5) hC 0 dX2_blockers_5 rfl rfl ?_
    refine gf_X2_38 (pc := 6) hC dX2_blockers_6 ?_
    refine V_icmp_ge (pc := 9) (tgt := 41) hC dX2_blockers_9 (by decide) (fun c1 => ?_) (fun c1 => ?_)
    · have hf := ite_t hf c1
      refine V_iload_n (pc := 41) hC 2 dX2_blockers_41 rfl rfl ?_
      have hf := Option.some.inj hf; subst hf
      exact V_ireturn (pc := 42) hR rfl dX2_blockers_42
    · have hf := ite_f hf c1
      refine V_aload_n (pc := 12) hC 0 dX2_blockers_12 rfl rfl ?_
      refine gf_X2_47 (pc := 13) hC dX2_blockers_13 ?_
      refine V_iload_n (pc := 16) hC 3 dX2_blockers_16 rfl rfl ?_
      refine V_callN (pc := 17) (rest := []) (As := [.int (I (53) 4), .int v3]) hC lk_X2_82 (c_X5_holds  rfl) rfl rfl (Nat.le_of_ble_eq_true rfl) (by decide) dX2_blockers_17 ?_
      change V X E 4 20 [(0, .ref (E.2.1 (53))), (1, .int v1), (2, .int v2), (3, .int v3)] [.int (f_X5_holds (I (53) 4) v3)] I
      refine V_if_eq (pc := 20) (tgt := 35) hC dX2_blockers_20 (by decide) (fun c2 => ?_) (fun c2 => ?_)
      · have hf := ite_t hf c2
        refine V_iinc (pc := 35) (lv' := [(3, .int (v3 + (nI 1))), (0, .ref (E.2.1 (53))), (1, .int v1), (2, .int v2)]) hC (nI 1) 3 dX2_blockers_35 rfl (by decide) (by decide) rfl ?_
        refine V_goto (pc := 38) (tgt := 4) hC dX2_blockers_38 (by decide) ?_
        refine V_sub (pc := 4) (lv' := [(0, .ref (E.2.1 (53))), (1, .int v1), (2, .int v2), (3, .int (v3 + (nI 1)))]) [1, 2, 3, 0] rfl ?_
        exact ih v2 (v3 + (nI 1)) hf
      · have hf := ite_f hf c2
        refine V_aload_n (pc := 23) hC 0 dX2_blockers_23 rfl rfl ?_
        refine V_iload_n (pc := 24) hC 3 dX2_blockers_24 rfl rfl ?_
        refine V_iload_n (pc := 25) hC 1 dX2_blockers_25 rfl rfl ?_
        obtain ⟨r3, g3, hf⟩ := bind_some hf
        refine V_callV (pc := 26) (rest := []) (As := [.int v3, .int v1]) hC lk_X2_113 (by decide) cel_X2 rfl (c_X2_isBlocker  g3) rfl rfl (Nat.le_of_ble_eq_true rfl) (by decide) dX2_blockers_26 ?_
        change V X E 4 29 [(0, .ref (E.2.1 (53))), (1, .int v1), (2, .int v2), (3, .int v3)] [.int r3] I
        refine V_if_eq (pc := 29) (tgt := 35) hC dX2_blockers_29 (by decide) (fun c4 => ?_) (fun c4 => ?_)
        · have hf := ite_t hf c4
          refine V_iinc (pc := 35) (lv' := [(3, .int (v3 + (nI 1))), (0, .ref (E.2.1 (53))), (1, .int v1), (2, .int v2)]) hC (nI 1) 3 dX2_blockers_35 rfl (by decide) (by decide) rfl ?_
          refine V_goto (pc := 38) (tgt := 4) hC dX2_blockers_38 (by decide) ?_
          refine V_sub (pc := 4) (lv' := [(0, .ref (E.2.1 (53))), (1, .int v1), (2, .int v2), (3, .int (v3 + (nI 1)))]) [1, 2, 3, 0] rfl ?_
          exact ih v2 (v3 + (nI 1)) hf
        · have hf := ite_f hf c4
          refine V_iinc (pc := 32) (lv' := [(2, .int (v2 + (nI 1))), (0, .ref (E.2.1 (53))), (1, .int v1), (3, .int v3)]) hC (nI 1) 2 dX2_blockers_32 rfl (by decide) (by decide) rfl ?_
          refine V_iinc (pc := 35) (lv' := [(3, .int (v3 + (nI 1))), (2, .int (v2 + (nI 1))), (0, .ref (E.2.1 (53))), (1, .int v1)]) hC (nI 1) 3 dX2_blockers_35 rfl (by decide) (by decide) rfl ?_
          refine V_goto (pc := 38) (tgt := 4) hC dX2_blockers_38 (by decide) ?_
          refine V_sub (pc := 4) (lv' := [(0, .ref (E.2.1 (53))), (1, .int v1), (2, .int (v2 + (nI 1))), (3, .int (v3 + (nI 1)))]) [2, 3, 1, 0] rfl ?_
          exact ih (v2 + (nI 1)) (v3 + (nI 1)) hf
def f_X2_blockers (k : Nat) (v1 : Int32) (I : Mem) : Option (Int32) := f_X2_blockers_4 k I v1 k (nI 0) (nI 0)
set_option maxHeartbeats 4000000 in
set_option maxRecDepth 100000 in
theorem c_X2_blockers {E : EN} {k : Nat} {v1 : Int32} {I : Mem} {r : Int32} (hf : f_X2_blockers k v1 I = some r) : Ct E yX2_blockers cX2_blockers 4 (some .int) 2 41 [.ref (E.2.1 (53)), .int v1] I (some (.int r)) I := by
  refine Ct_of (by decide) (Nat.le_of_ble_eq_true rfl) (fun X hC0 hR => ?_)
  have hC : Cx X E cX2_blockers 4 RX2 2 41 := hC0
  change V X E 4 0 [(0, .ref (E.2.1 (53))), (1, .int v1)] [] I
  unfold f_X2_blockers at hf
  refine V_iconst (pc := 0) hC dX2_blockers_0 (v := (nI 0)) (by decide) ?_
  refine V_istore_n (pc := 1) (lv' := [(2, .int (nI 0)), (0, .ref (E.2.1 (53))), (1, .int v1)]) hC dX2_blockers_1 rfl (by decide) rfl ?_
  refine V_iconst (pc := 2) hC dX2_blockers_2 (v := (nI 0)) (by decide) ?_
  refine V_istore_n (pc := 3) (lv' := [(3, .int (nI 0)), (2, .int (nI 0)), (0, .ref (E.2.1 (53))), (1, .int v1)]) hC dX2_blockers_3 rfl (by decide) rfl ?_
  refine V_sub (pc := 4) (lv' := [(0, .ref (E.2.1 (53))), (1, .int v1), (2, .int (nI 0)), (3, .int (nI 0))]) [2, 3, 1, 0] rfl ?_
  exact b_X2_blockers_4 hC hR k (nI 0) (nI 0) hf
def f_X2_hasSwing (k : Nat) (v1 : Int32) (v2 : Int32) (I : Mem) : Option (Int32) := (if inB v2 1024 = true then (if inB v2 1024 = true then (if (f_X5_holds (I (56) (Int32.toNatClampNeg v2)) v1) = 0 then (if (f_X2_isWinning (I (56) (Int32.toNatClampNeg v2)) (I (57) (Int32.toNatClampNeg v2)) I) = 0 then (if inB v1 10 = true then (if inB v1 10 = true then (if (f_X2_isWinning ((I (56) (Int32.toNatClampNeg v2)) ||| (I (54) (Int32.toNatClampNeg v1))) ((I (57) (Int32.toNatClampNeg v2)) + (I (55) (Int32.toNatClampNeg v1))) I) = 0 then some (nI 0) else some (nI 1)) else none) else none) else some (nI 0)) else some (nI 0)) else none) else none)
set_option maxHeartbeats 4000000 in
set_option maxRecDepth 100000 in
theorem c_X2_hasSwing {E : EN} {k : Nat} {v1 : Int32} {v2 : Int32} {I : Mem} {r : Int32} (hf : f_X2_hasSwing k v1 v2 I = some r) : Ct E yX2_hasSwing cX2_hasSwing 5 (some .boolean) 2 43 [.ref (E.2.1 (53)), .int v1, .int v2] I (some (.int r)) I := by
  refine Ct_of (by decide) (Nat.le_of_ble_eq_true rfl) (fun X hC0 hR => ?_)
  have hC : Cx X E cX2_hasSwing 5 RX2 2 43 := hC0
  change V X E 5 0 [(0, .ref (E.2.1 (53))), (1, .int v1), (2, .int v2)] [] I
  unfold f_X2_hasSwing at hf
  refine V_aload_n (pc := 0) hC 0 dX2_hasSwing_0 rfl rfl ?_
  refine gf_X2_18 (pc := 1) hC dX2_hasSwing_1 ?_
  refine V_iload_n (pc := 4) hC 2 dX2_hasSwing_4 rfl rfl ?_
  obtain ⟨h1, hf⟩ := if_some hf
  refine V_iald (pc := 5) hC ia_56 (inB_of h1) dX2_hasSwing_5 ?_
  refine V_istore_n (pc := 6) (lv' := [(3, .int (I (56) (Int32.toNatClampNeg v2))), (0, .ref (E.2.1 (53))), (1, .int v1), (2, .int v2)]) hC dX2_hasSwing_6 rfl (by decide) rfl ?_
  refine V_aload_n (pc := 7) hC 1 dX2_hasSwing_7 rfl rfl ?_
  refine gf_X2_21 (pc := 8) hC dX2_hasSwing_8 ?_
  refine V_iload_n (pc := 11) hC 3 dX2_hasSwing_11 rfl rfl ?_
  obtain ⟨h2, hf⟩ := if_some hf
  refine V_iald (pc := 12) hC ia_57 (inB_of h2) dX2_hasSwing_12 ?_
  refine V_istore (pc := 13) (lv' := [(4, .int (I (57) (Int32.toNatClampNeg v2))), (3, .int (I (56) (Int32.toNatClampNeg v2))), (0, .ref (E.2.1 (53))), (1, .int v1), (2, .int v2)]) hC dX2_hasSwing_13 (by decide) rfl ?_
  refine V_iload_n (pc := 15) hC 1 dX2_hasSwing_15 rfl rfl ?_
  refine V_iload_n (pc := 16) hC 3 dX2_hasSwing_16 rfl rfl ?_
  refine V_callN (pc := 17) (rest := []) (As := [.int (I (56) (Int32.toNatClampNeg v2)), .int v1]) hC lk_X2_82 (c_X5_holds  rfl) rfl rfl (Nat.le_of_ble_eq_true rfl) (by decide) dX2_hasSwing_17 ?_
  change V X E 5 20 [(4, .int (I (57) (Int32.toNatClampNeg v2))), (3, .int (I (56) (Int32.toNatClampNeg v2))), (0, .ref (E.2.1 (53))), (1, .int v1), (2, .int v2)] [.int (f_X5_holds (I (56) (Int32.toNatClampNeg v2)) v1)] I
  refine V_if_ne (pc := 20) (tgt := 61) hC dX2_hasSwing_20 (by decide) (fun c3 => ?_) (fun c3 => ?_)
  · have hf := ite_f hf c3
    refine V_iconst (pc := 61) hC dX2_hasSwing_61 (v := (nI 0)) (by decide) ?_
    have hf := Option.some.inj hf; subst hf
    exact V_ireturn (pc := 62) hR (nar_z (by decide)) dX2_hasSwing_62
  · have hf := ite_t hf c3
    refine V_aload_n (pc := 23) hC 2 dX2_hasSwing_23 rfl rfl ?_
    refine V_iload_n (pc := 24) hC 1 dX2_hasSwing_24 rfl rfl ?_
    refine V_iload (pc := 25) hC 0 dX2_hasSwing_25 rfl ?_
    refine V_callV (pc := 27) (rest := []) (As := [.int (I (56) (Int32.toNatClampNeg v2)), .int (I (57) (Int32.toNatClampNeg v2))]) hC lk_X2_107 (by decide) cel_X2 rfl (c_X2_isWinning  rfl) rfl rfl (Nat.le_of_ble_eq_true rfl) (by decide) dX2_hasSwing_27 ?_
    change V X E 5 30 [(4, .int (I (57) (Int32.toNatClampNeg v2))), (3, .int (I (56) (Int32.toNatClampNeg v2))), (0, .ref (E.2.1 (53))), (1, .int v1), (2, .int v2)] [.int (f_X2_isWinning (I (56) (Int32.toNatClampNeg v2)) (I (57) (Int32.toNatClampNeg v2)) I)] I
    refine V_if_ne (pc := 30) (tgt := 61) hC dX2_hasSwing_30 (by decide) (fun c4 => ?_) (fun c4 => ?_)
    · have hf := ite_f hf c4
      refine V_iconst (pc := 61) hC dX2_hasSwing_61 (v := (nI 0)) (by decide) ?_
      have hf := Option.some.inj hf; subst hf
      exact V_ireturn (pc := 62) hR (nar_z (by decide)) dX2_hasSwing_62
    · have hf := ite_t hf c4
      refine V_aload_n (pc := 33) hC 2 dX2_hasSwing_33 rfl rfl ?_
      refine V_iload_n (pc := 34) hC 1 dX2_hasSwing_34 rfl rfl ?_
      refine V_aload_n (pc := 35) hC 2 dX2_hasSwing_35 rfl rfl ?_
      refine gf_X2_9 (pc := 36) hC dX2_hasSwing_36 ?_
      refine V_iload_n (pc := 39) hC 3 dX2_hasSwing_39 rfl rfl ?_
      obtain ⟨h5, hf⟩ := if_some hf
      refine V_iald (pc := 40) hC ia_54 (inB_of h5) dX2_hasSwing_40 ?_
      refine V_ior (pc := 41) hC dX2_hasSwing_41 ?_
      refine V_iload (pc := 42) hC 0 dX2_hasSwing_42 rfl ?_
      refine V_aload_n (pc := 44) hC 2 dX2_hasSwing_44 rfl rfl ?_
      refine gf_X2_15 (pc := 45) hC dX2_hasSwing_45 ?_
      refine V_iload_n (pc := 48) hC 3 dX2_hasSwing_48 rfl rfl ?_
      obtain ⟨h6, hf⟩ := if_some hf
      refine V_iald (pc := 49) hC ia_55 (inB_of h6) dX2_hasSwing_49 ?_
      refine V_iadd (pc := 50) hC dX2_hasSwing_50 ?_
      refine V_callV (pc := 51) (rest := []) (As := [.int ((I (56) (Int32.toNatClampNeg v2)) ||| (I (54) (Int32.toNatClampNeg v1))), .int ((I (57) (Int32.toNatClampNeg v2)) + (I (55) (Int32.toNatClampNeg v1)))]) hC lk_X2_107 (by decide) cel_X2 rfl (c_X2_isWinning  rfl) rfl rfl (Nat.le_of_ble_eq_true rfl) (by decide) dX2_hasSwing_51 ?_
      change V X E 5 54 [(4, .int (I (57) (Int32.toNatClampNeg v2))), (3, .int (I (56) (Int32.toNatClampNeg v2))), (0, .ref (E.2.1 (53))), (1, .int v1), (2, .int v2)] [.int (f_X2_isWinning ((I (56) (Int32.toNatClampNeg v2)) ||| (I (54) (Int32.toNatClampNeg v1))) ((I (57) (Int32.toNatClampNeg v2)) + (I (55) (Int32.toNatClampNeg v1))) I)] I
      refine V_if_eq (pc := 54) (tgt := 61) hC dX2_hasSwing_54 (by decide) (fun c7 => ?_) (fun c7 => ?_)
      · have hf := ite_t hf c7
        refine V_iconst (pc := 61) hC dX2_hasSwing_61 (v := (nI 0)) (by decide) ?_
        have hf := Option.some.inj hf; subst hf
        exact V_ireturn (pc := 62) hR (nar_z (by decide)) dX2_hasSwing_62
      · have hf := ite_f hf c7
        refine V_iconst (pc := 57) hC dX2_hasSwing_57 (v := (nI 1)) (by decide) ?_
        refine V_goto (pc := 58) (tgt := 62) hC dX2_hasSwing_58 (by decide) ?_
        have hf := Option.some.inj hf; subst hf
        exact V_ireturn (pc := 62) hR (nar_z (by decide)) dX2_hasSwing_62
def f_X2_orders_4 (k : Nat) (I : Mem) (v1 : Int32) : Nat → Int32 → Int32 → Option (Int32)
  | 0, _, _ => none
  | n + 1, v2, v3 => (if (I (53) 9) ≤ v3 then some v2 else (Option.bind (f_X2_hasSwing k v1 v3 I) (fun r2 => (if r2 = 0 then (f_X2_orders_4 k I v1 n) v2 (v3 + (nI 1)) else (Option.bind (f_X5_factorial k (f_J6_bitCount_0f7a4 v3) I) (fun r4 => (Option.bind (f_X5_factorial k (((I (53) 3) - (nI 1)) - (f_J6_bitCount_0f7a4 v3)) I) (fun r5 => (f_X2_orders_4 k I v1 n) (v2 + (r4 * r5)) (v3 + (nI 1))))))))))
set_option maxHeartbeats 4000000 in
set_option maxRecDepth 100000 in
theorem b_X2_orders_4 {X : XT} {E : EN} {k : Nat} {I : Mem} {v1 : Int32} {r : Int32} (hC : Cx X E cX2_orders 5 RX2 3 67) (hR : Rt X E cX2_orders (some .int) (some (.int r)) I) : ∀ (n : Nat) (v2 : Int32) (v3 : Int32), f_X2_orders_4 k I v1 n v2 v3 = some r → V X E 5 4 [(0, .ref (E.2.1 (53))), (1, .int v1), (2, .int v2), (3, .int v3)] [] I := by
  intro n
  induction n with
  | zero =>
    intro v2 v3 hf
    rw [f_X2_orders_4] at hf
    cases hf
  | succ n ih =>
    intro v2 v3 hf
    rw [f_X2_orders_4] at hf
    refine V_iload_n (pc := 4) hC 3 dX2_orders_4 rfl rfl ?_
    refine V_aload_n (pc := 5) hC 0 dX2_orders_5 rfl rfl ?_
    refine gf_X2_79 (pc := 6) hC dX2_orders_6 ?_
    refine V_icmp_ge (pc := 9) (tgt := 54) hC dX2_orders_9 (by decide) (fun c1 => ?_) (fun c1 => ?_)
    · have hf := ite_t hf c1
      refine V_iload_n (pc := 54) hC 2 dX2_orders_54 rfl rfl ?_
      have hf := Option.some.inj hf; subst hf
      exact V_ireturn (pc := 55) hR rfl dX2_orders_55
    · have hf := ite_f hf c1
      refine V_aload_n (pc := 12) hC 0 dX2_orders_12 rfl rfl ?_
      refine V_iload_n (pc := 13) hC 1 dX2_orders_13 rfl rfl ?_
      refine V_iload_n (pc := 14) hC 3 dX2_orders_14 rfl rfl ?_
      obtain ⟨r2, g2, hf⟩ := bind_some hf
      refine V_callV (pc := 15) (rest := []) (As := [.int v1, .int v3]) hC lk_X2_116 (by decide) cel_X2 rfl (c_X2_hasSwing  g2) rfl rfl (Nat.le_of_ble_eq_true rfl) (by decide) dX2_orders_15 ?_
      change V X E 5 18 [(0, .ref (E.2.1 (53))), (1, .int v1), (2, .int v2), (3, .int v3)] [.int r2] I
      refine V_if_eq (pc := 18) (tgt := 48) hC dX2_orders_18 (by decide) (fun c3 => ?_) (fun c3 => ?_)
      · have hf := ite_t hf c3
        refine V_iinc (pc := 48) (lv' := [(3, .int (v3 + (nI 1))), (0, .ref (E.2.1 (53))), (1, .int v1), (2, .int v2)]) hC (nI 1) 3 dX2_orders_48 rfl (by decide) (by decide) rfl ?_
        refine V_goto (pc := 51) (tgt := 4) hC dX2_orders_51 (by decide) ?_
        refine V_sub (pc := 4) (lv' := [(0, .ref (E.2.1 (53))), (1, .int v1), (2, .int v2), (3, .int (v3 + (nI 1)))]) [1, 2, 3, 0] rfl ?_
        exact ih v2 (v3 + (nI 1)) hf
      · have hf := ite_f hf c3
        refine V_iload_n (pc := 21) hC 3 dX2_orders_21 rfl rfl ?_
        refine V_callS (pc := 22) (rest := []) (As := [.int v3]) hC lk_X2_62 (c_J6_bitCount_0f7a4  rfl) rfl rfl (Nat.le_of_ble_eq_true rfl) (by decide) dX2_orders_22 ?_
        change V X E 5 25 [(0, .ref (E.2.1 (53))), (1, .int v1), (2, .int v2), (3, .int v3)] [.int (f_J6_bitCount_0f7a4 v3)] I
        refine V_istore (pc := 25) (lv' := [(4, .int (f_J6_bitCount_0f7a4 v3)), (0, .ref (E.2.1 (53))), (1, .int v1), (2, .int v2), (3, .int v3)]) hC dX2_orders_25 (by decide) rfl ?_
        refine V_iload_n (pc := 27) hC 3 dX2_orders_27 rfl rfl ?_
        refine V_iload (pc := 28) hC 0 dX2_orders_28 rfl ?_
        obtain ⟨r4, g4, hf⟩ := bind_some hf
        refine V_callN (pc := 30) (rest := [.int v2]) (As := [.int (f_J6_bitCount_0f7a4 v3)]) hC lk_X2_119 (c_X5_factorial  g4) rfl rfl (Nat.le_of_ble_eq_true rfl) (by decide) dX2_orders_30 ?_
        change V X E 5 33 [(4, .int (f_J6_bitCount_0f7a4 v3)), (0, .ref (E.2.1 (53))), (1, .int v1), (2, .int v2), (3, .int v3)] [.int r4, .int v2] I
        refine V_aload_n (pc := 33) hC 1 dX2_orders_33 rfl rfl ?_
        refine gf_X2_67 (pc := 34) hC dX2_orders_34 ?_
        refine V_iconst (pc := 37) hC dX2_orders_37 (v := (nI 1)) (by decide) ?_
        refine V_isub (pc := 38) hC dX2_orders_38 ?_
        refine V_iload (pc := 39) hC 0 dX2_orders_39 rfl ?_
        refine V_isub (pc := 41) hC dX2_orders_41 ?_
        obtain ⟨r5, g5, hf⟩ := bind_some hf
        refine V_callN (pc := 42) (rest := [.int r4, .int v2]) (As := [.int (((I (53) 3) - (nI 1)) - (f_J6_bitCount_0f7a4 v3))]) hC lk_X2_119 (c_X5_factorial  g5) rfl rfl (Nat.le_of_ble_eq_true rfl) (by decide) dX2_orders_42 ?_
        change V X E 5 45 [(4, .int (f_J6_bitCount_0f7a4 v3)), (0, .ref (E.2.1 (53))), (1, .int v1), (2, .int v2), (3, .int v3)] [.int r5, .int r4, .int v2] I
        refine V_imul (pc := 45) hC dX2_orders_45 ?_
        refine V_iadd (pc := 46) hC dX2_orders_46 ?_
        refine V_istore_n (pc := 47) (lv' := [(2, .int (v2 + (r4 * r5))), (4, .int (f_J6_bitCount_0f7a4 v3)), (0, .ref (E.2.1 (53))), (1, .int v1), (3, .int v3)]) hC dX2_orders_47 rfl (by decide) rfl ?_
        refine V_iinc (pc := 48) (lv' := [(3, .int (v3 + (nI 1))), (2, .int (v2 + (r4 * r5))), (4, .int (f_J6_bitCount_0f7a4 v3)), (0, .ref (E.2.1 (53))), (1, .int v1)]) hC (nI 1) 4 dX2_orders_48 rfl (by decide) (by decide) rfl ?_
        refine V_goto (pc := 51) (tgt := 4) hC dX2_orders_51 (by decide) ?_
        refine V_sub (pc := 4) (lv' := [(0, .ref (E.2.1 (53))), (1, .int v1), (2, .int (v2 + (r4 * r5))), (3, .int (v3 + (nI 1)))]) [3, 4, 1, 0] rfl ?_
        exact ih (v2 + (r4 * r5)) (v3 + (nI 1)) hf
def f_X2_orders (k : Nat) (v1 : Int32) (I : Mem) : Option (Int32) := f_X2_orders_4 k I v1 k (nI 0) (nI 0)
set_option maxHeartbeats 4000000 in
set_option maxRecDepth 100000 in
theorem c_X2_orders {E : EN} {k : Nat} {v1 : Int32} {I : Mem} {r : Int32} (hf : f_X2_orders k v1 I = some r) : Ct E yX2_orders cX2_orders 5 (some .int) 3 67 [.ref (E.2.1 (53)), .int v1] I (some (.int r)) I := by
  refine Ct_of (by decide) (Nat.le_of_ble_eq_true rfl) (fun X hC0 hR => ?_)
  have hC : Cx X E cX2_orders 5 RX2 3 67 := hC0
  change V X E 5 0 [(0, .ref (E.2.1 (53))), (1, .int v1)] [] I
  unfold f_X2_orders at hf
  refine V_iconst (pc := 0) hC dX2_orders_0 (v := (nI 0)) (by decide) ?_
  refine V_istore_n (pc := 1) (lv' := [(2, .int (nI 0)), (0, .ref (E.2.1 (53))), (1, .int v1)]) hC dX2_orders_1 rfl (by decide) rfl ?_
  refine V_iconst (pc := 2) hC dX2_orders_2 (v := (nI 0)) (by decide) ?_
  refine V_istore_n (pc := 3) (lv' := [(3, .int (nI 0)), (2, .int (nI 0)), (0, .ref (E.2.1 (53))), (1, .int v1)]) hC dX2_orders_3 rfl (by decide) rfl ?_
  refine V_sub (pc := 4) (lv' := [(0, .ref (E.2.1 (53))), (1, .int v1), (2, .int (nI 0)), (3, .int (nI 0))]) [2, 3, 1, 0] rfl ?_
  exact b_X2_orders_4 hC hR k (nI 0) (nI 0) hf
def f_X2_distance_24 (k : Nat) (I : Mem) (v1 : Int32) (v2 : Int32) (v3 : Int32) : Nat → Int64 → Int32 → Option (Int64)
  | 0, _, _ => none
  | n + 1, v4, v6 => (if (I (53) 0) ≤ v6 then some v4 else (if (f_X5_holds (I (53) 4) v6) = 0 then (f_X2_distance_24 k I v1 v2 v3 n) v4 (v6 + (nI 1)) else (Option.bind (f_X2_swings k v6 v1 I) (fun r5 => (if inB v6 10 = true then (f_X2_distance_24 k I v1 v2 v3 n) (v4 + (Int32.toInt64 (if 0 ≤ ((r5 * v3) - ((I (55) (Int32.toNatClampNeg v6)) * v2)) then ((r5 * v3) - ((I (55) (Int32.toNatClampNeg v6)) * v2)) else 0 - ((r5 * v3) - ((I (55) (Int32.toNatClampNeg v6)) * v2))))) (v6 + (nI 1)) else none)))))
set_option maxHeartbeats 4000000 in
set_option maxRecDepth 100000 in
theorem b_X2_distance_24 {X : XT} {E : EN} {k : Nat} {I : Mem} {v1 : Int32} {v2 : Int32} {v3 : Int32} {r : Int64} (hC : Cx X E cX2_distance 7 RX2 3 64) (hR : Rt X E cX2_distance (some .long) (some (.long r)) I) : ∀ (n : Nat) (v4 : Int64) (v6 : Int32), f_X2_distance_24 k I v1 v2 v3 n v4 v6 = some r → V X E 7 24 [(0, .ref (E.2.1 (53))), (1, .int v1), (2, .int v2), (3, .int v3), (4, .long v4), (6, .int v6)] [] I := by
  intro n
  induction n with
  | zero =>
    intro v4 v6 hf
    rw [f_X2_distance_24] at hf
    cases hf
  | succ n ih =>
    intro v4 v6 hf
    rw [f_X2_distance_24] at hf
    refine V_iload (pc := 24) hC 5 dX2_distance_24 rfl ?_
    refine V_aload_n (pc := 26) hC 0 dX2_distance_26 rfl rfl ?_
    refine gf_X2_38 (pc := 27) hC dX2_distance_27 ?_
    refine V_icmp_ge (pc := 30) (tgt := 79) hC dX2_distance_30 (by decide) (fun c3 => ?_) (fun c3 => ?_)
    · have hf := ite_t hf c3
      refine V_lload (pc := 79) hC 4 dX2_distance_79 rfl ?_
      have hf := Option.some.inj hf; subst hf
      exact V_lreturn (pc := 81) hR rfl dX2_distance_81
    · have hf := ite_f hf c3
      refine V_aload_n (pc := 33) hC 0 dX2_distance_33 rfl rfl ?_
      refine gf_X2_47 (pc := 34) hC dX2_distance_34 ?_
      refine V_iload (pc := 37) hC 5 dX2_distance_37 rfl ?_
      refine V_callN (pc := 39) (rest := []) (As := [.int (I (53) 4), .int v6]) hC lk_X2_82 (c_X5_holds  rfl) rfl rfl (Nat.le_of_ble_eq_true rfl) (by decide) dX2_distance_39 ?_
      change V X E 7 42 [(0, .ref (E.2.1 (53))), (1, .int v1), (2, .int v2), (3, .int v3), (4, .long v4), (6, .int v6)] [.int (f_X5_holds (I (53) 4) v6)] I
      refine V_if_eq (pc := 42) (tgt := 73) hC dX2_distance_42 (by decide) (fun c4 => ?_) (fun c4 => ?_)
      · have hf := ite_t hf c4
        refine V_iinc (pc := 73) (lv' := [(6, .int (v6 + (nI 1))), (0, .ref (E.2.1 (53))), (1, .int v1), (2, .int v2), (3, .int v3), (4, .long v4)]) hC (nI 1) 5 dX2_distance_73 rfl (by decide) (by decide) rfl ?_
        refine V_goto (pc := 76) (tgt := 24) hC dX2_distance_76 (by decide) ?_
        refine V_sub (pc := 24) (lv' := [(0, .ref (E.2.1 (53))), (1, .int v1), (2, .int v2), (3, .int v3), (4, .long v4), (6, .int (v6 + (nI 1)))]) [1, 2, 3, 4, 5, 0] rfl ?_
        exact ih v4 (v6 + (nI 1)) hf
      · have hf := ite_f hf c4
        refine V_lload (pc := 45) hC 4 dX2_distance_45 rfl ?_
        refine V_aload_n (pc := 47) hC 0 dX2_distance_47 rfl rfl ?_
        refine V_iload (pc := 48) hC 5 dX2_distance_48 rfl ?_
        refine V_iload_n (pc := 50) hC 1 dX2_distance_50 rfl rfl ?_
        obtain ⟨r5, g5, hf⟩ := bind_some hf
        refine V_callV (pc := 51) (rest := [.long v4]) (As := [.int v6, .int v1]) hC lk_X2_103 (by decide) cel_X2 rfl (c_X2_swings  g5) rfl rfl (Nat.le_of_ble_eq_true rfl) (by decide) dX2_distance_51 ?_
        change V X E 7 54 [(0, .ref (E.2.1 (53))), (1, .int v1), (2, .int v2), (3, .int v3), (4, .long v4), (6, .int v6)] [.int r5, .long v4] I
        refine V_iload_n (pc := 54) hC 3 dX2_distance_54 rfl rfl ?_
        refine V_imul (pc := 55) hC dX2_distance_55 ?_
        refine V_aload_n (pc := 56) hC 0 dX2_distance_56 rfl rfl ?_
        refine gf_X2_15 (pc := 57) hC dX2_distance_57 ?_
        refine V_iload (pc := 60) hC 5 dX2_distance_60 rfl ?_
        obtain ⟨h6, hf⟩ := if_some hf
        refine V_iald (pc := 62) hC ia_55 (inB_of h6) dX2_distance_62 ?_
        refine V_iload_n (pc := 63) hC 2 dX2_distance_63 rfl rfl ?_
        refine V_imul (pc := 64) hC dX2_distance_64 ?_
        refine V_isub (pc := 65) hC dX2_distance_65 ?_
        refine V_abs (pc := 66) hC lk_X2_125.1.1 lk_X2_125.1.2 lk_X2_125.2.1 lk_X2_125.2.2 (by decide) (Nat.le_of_ble_eq_true rfl) dX2_distance_66 ?_
        refine V_i2l (pc := 69) hC dX2_distance_69 ?_
        refine V_ladd (pc := 70) hC dX2_distance_70 ?_
        refine V_lstore (pc := 71) (lv' := [(4, .long (v4 + (Int32.toInt64 (if 0 ≤ ((r5 * v3) - ((I (55) (Int32.toNatClampNeg v6)) * v2)) then ((r5 * v3) - ((I (55) (Int32.toNatClampNeg v6)) * v2)) else 0 - ((r5 * v3) - ((I (55) (Int32.toNatClampNeg v6)) * v2)))))), (0, .ref (E.2.1 (53))), (1, .int v1), (2, .int v2), (3, .int v3), (6, .int v6)]) hC dX2_distance_71 (by decide) rfl ?_
        refine V_iinc (pc := 73) (lv' := [(6, .int (v6 + (nI 1))), (4, .long (v4 + (Int32.toInt64 (if 0 ≤ ((r5 * v3) - ((I (55) (Int32.toNatClampNeg v6)) * v2)) then ((r5 * v3) - ((I (55) (Int32.toNatClampNeg v6)) * v2)) else 0 - ((r5 * v3) - ((I (55) (Int32.toNatClampNeg v6)) * v2)))))), (0, .ref (E.2.1 (53))), (1, .int v1), (2, .int v2), (3, .int v3)]) hC (nI 1) 5 dX2_distance_73 rfl (by decide) (by decide) rfl ?_
        refine V_goto (pc := 76) (tgt := 24) hC dX2_distance_76 (by decide) ?_
        refine V_sub (pc := 24) (lv' := [(0, .ref (E.2.1 (53))), (1, .int v1), (2, .int v2), (3, .int v3), (4, .long (v4 + (Int32.toInt64 (if 0 ≤ ((r5 * v3) - ((I (55) (Int32.toNatClampNeg v6)) * v2)) then ((r5 * v3) - ((I (55) (Int32.toNatClampNeg v6)) * v2)) else 0 - ((r5 * v3) - ((I (55) (Int32.toNatClampNeg v6)) * v2)))))), (6, .int (v6 + (nI 1)))]) [2, 3, 4, 5, 1, 0] rfl ?_
        exact ih (v4 + (Int32.toInt64 (if 0 ≤ ((r5 * v3) - ((I (55) (Int32.toNatClampNeg v6)) * v2)) then ((r5 * v3) - ((I (55) (Int32.toNatClampNeg v6)) * v2)) else 0 - ((r5 * v3) - ((I (55) (Int32.toNatClampNeg v6)) * v2))))) (v6 + (nI 1)) hf
def f_X2_distance (k : Nat) (v1 : Int32) (I : Mem) : Option (Int64) := (Option.bind (f_X2_swingsOfAll k v1 I) (fun r1 => (if inB ((I (53) 9) - (nI 1)) 1024 = true then f_X2_distance_24 k I v1 r1 (I (57) (Int32.toNatClampNeg ((I (53) 9) - (nI 1)))) k (0 : Int64) (nI 0) else none)))
set_option maxHeartbeats 4000000 in
set_option maxRecDepth 100000 in
theorem c_X2_distance {E : EN} {k : Nat} {v1 : Int32} {I : Mem} {r : Int64} (hf : f_X2_distance k v1 I = some r) : Ct E yX2_distance cX2_distance 7 (some .long) 3 64 [.ref (E.2.1 (53)), .int v1] I (some (.long r)) I := by
  refine Ct_of (by decide) (Nat.le_of_ble_eq_true rfl) (fun X hC0 hR => ?_)
  have hC : Cx X E cX2_distance 7 RX2 3 64 := hC0
  change V X E 7 0 [(0, .ref (E.2.1 (53))), (1, .int v1)] [] I
  unfold f_X2_distance at hf
  refine V_aload_n (pc := 0) hC 0 dX2_distance_0 rfl rfl ?_
  refine V_iload_n (pc := 1) hC 1 dX2_distance_1 rfl rfl ?_
  obtain ⟨r1, g1, hf⟩ := bind_some hf
  refine V_callV (pc := 2) (rest := []) (As := [.int v1]) hC lk_X2_122 (by decide) cel_X2 rfl (c_X2_swingsOfAll  g1) rfl rfl (Nat.le_of_ble_eq_true rfl) (by decide) dX2_distance_2 ?_
  change V X E 7 5 [(0, .ref (E.2.1 (53))), (1, .int v1)] [.int r1] I
  refine V_istore_n (pc := 5) (lv' := [(2, .int r1), (0, .ref (E.2.1 (53))), (1, .int v1)]) hC dX2_distance_5 rfl (by decide) rfl ?_
  refine V_aload_n (pc := 6) hC 1 dX2_distance_6 rfl rfl ?_
  refine gf_X2_21 (pc := 7) hC dX2_distance_7 ?_
  refine V_aload_n (pc := 10) hC 1 dX2_distance_10 rfl rfl ?_
  refine gf_X2_79 (pc := 11) hC dX2_distance_11 ?_
  refine V_iconst (pc := 14) hC dX2_distance_14 (v := (nI 1)) (by decide) ?_
  refine V_isub (pc := 15) hC dX2_distance_15 ?_
  obtain ⟨h2, hf⟩ := if_some hf
  refine V_iald (pc := 16) hC ia_57 (inB_of h2) dX2_distance_16 ?_
  refine V_istore_n (pc := 17) (lv' := [(3, .int (I (57) (Int32.toNatClampNeg ((I (53) 9) - (nI 1))))), (2, .int r1), (0, .ref (E.2.1 (53))), (1, .int v1)]) hC dX2_distance_17 rfl (by decide) rfl ?_
  refine V_lconst (pc := 18) hC dX2_distance_18 (v := (0 : Int64)) (by decide) ?_
  refine V_lstore (pc := 19) (lv' := [(4, .long (0 : Int64)), (3, .int (I (57) (Int32.toNatClampNeg ((I (53) 9) - (nI 1))))), (2, .int r1), (0, .ref (E.2.1 (53))), (1, .int v1)]) hC dX2_distance_19 (by decide) rfl ?_
  refine V_iconst (pc := 21) hC dX2_distance_21 (v := (nI 0)) (by decide) ?_
  refine V_istore (pc := 22) (lv' := [(6, .int (nI 0)), (4, .long (0 : Int64)), (3, .int (I (57) (Int32.toNatClampNeg ((I (53) 9) - (nI 1))))), (2, .int r1), (0, .ref (E.2.1 (53))), (1, .int v1)]) hC dX2_distance_22 (by decide) rfl ?_
  refine V_sub (pc := 24) (lv' := [(0, .ref (E.2.1 (53))), (1, .int v1), (2, .int r1), (3, .int (I (57) (Int32.toNatClampNeg ((I (53) 9) - (nI 1))))), (4, .long (0 : Int64)), (6, .int (nI 0))]) [4, 5, 3, 2, 1, 0] rfl ?_
  exact b_X2_distance_24 hC hR k (0 : Int64) (nI 0) hf
def f_X2_insertLeast_41 (k : Nat) (I : Mem) (v1 : Int32) (v2 : Int32) : Option (Mem) := (if inB v2 252 = true then some (up2 (up2 I (59) (Int32.toNatClampNeg v2) v1) (53) 12 (((up2 I (59) (Int32.toNatClampNeg v2) v1) (53) 12) + (nI 1))) else none)
set_option maxHeartbeats 4000000 in
set_option maxRecDepth 100000 in
theorem b_X2_insertLeast_41 {X : XT} {E : EN} {k : Nat} {I : Mem} {v1 : Int32} {v2 : Int32} {r : Mem} (hC : Cx X E cX2_insertLeast 3 RX2 0 0) (hR : Rt X E cX2_insertLeast none none r) (hf : f_X2_insertLeast_41 k I v1 v2 = some r) : V X E 3 41 [(0, .ref (E.2.1 (53))), (1, .int v1), (2, .int v2)] [] I := by
  unfold f_X2_insertLeast_41 at hf
  refine V_aload_n (pc := 41) hC 0 dX2_insertLeast_41 rfl rfl ?_
  refine gf_X2_29 (pc := 42) hC dX2_insertLeast_42 ?_
  refine V_iload_n (pc := 45) hC 2 dX2_insertLeast_45 rfl rfl ?_
  refine V_iload_n (pc := 46) hC 1 dX2_insertLeast_46 rfl rfl ?_
  obtain ⟨h6, hf⟩ := if_some hf
  refine V_iast (pc := 47) hC ia_59 (inB_of h6) dX2_insertLeast_47 ?_
  refine V_aload_n (pc := 48) hC 0 dX2_insertLeast_48 rfl rfl ?_
  refine V_dup (pc := 49) hC dX2_insertLeast_49 rfl ?_
  refine gf_X2_76 (pc := 50) hC dX2_insertLeast_50 ?_
  refine V_iconst (pc := 53) hC dX2_insertLeast_53 (v := (nI 1)) (by decide) ?_
  refine V_iadd (pc := 54) hC dX2_insertLeast_54 ?_
  refine pf_X2_76 (pc := 55) hC dX2_insertLeast_55 ?_
  have hf := Option.some.inj hf; subst hf
  exact V_return (pc := 58) hR trivial dX2_insertLeast_58
def f_X2_insertLeast_5 (k : Nat) (v1 : Int32) : Nat → Int32 → Mem → Option (Mem)
  | 0, _, _ => none
  | n + 1, v2, I => (if v2 ≤ 0 then f_X2_insertLeast_41 k I v1 v2 else (if inB (v2 - (nI 1)) 252 = true then (if (I (59) (Int32.toNatClampNeg (v2 - (nI 1)))) ≤ v1 then f_X2_insertLeast_41 k I v1 v2 else (if inB (v2 - (nI 1)) 252 = true then (if inB v2 252 = true then (f_X2_insertLeast_5 k v1 n) (v2 + (-1 : Int32)) (up2 I (59) (Int32.toNatClampNeg v2) (I (59) (Int32.toNatClampNeg (v2 - (nI 1))))) else none) else none)) else none))
set_option maxHeartbeats 4000000 in
set_option maxRecDepth 100000 in
theorem b_X2_insertLeast_5 {X : XT} {E : EN} {k : Nat} {v1 : Int32} {r : Mem} (hC : Cx X E cX2_insertLeast 3 RX2 0 0) (hR : Rt X E cX2_insertLeast none none r) : ∀ (n : Nat) (v2 : Int32) (I : Mem), f_X2_insertLeast_5 k v1 n v2 I = some r → V X E 3 5 [(0, .ref (E.2.1 (53))), (1, .int v1), (2, .int v2)] [] I := by
  intro n
  induction n with
  | zero =>
    intro v2 I hf
    rw [f_X2_insertLeast_5] at hf
    cases hf
  | succ n ih =>
    intro v2 I hf
    rw [f_X2_insertLeast_5] at hf
    refine V_iload_n (pc := 5) hC 2 dX2_insertLeast_5 rfl rfl ?_
    refine V_if_le (pc := 6) (tgt := 41) hC dX2_insertLeast_6 (by decide) (fun c1 => ?_) (fun c1 => ?_)
    · have hf := ite_t hf c1
      exact b_X2_insertLeast_41 hC hR hf
    · have hf := ite_f hf c1
      refine V_aload_n (pc := 9) hC 0 dX2_insertLeast_9 rfl rfl ?_
      refine gf_X2_29 (pc := 10) hC dX2_insertLeast_10 ?_
      refine V_iload_n (pc := 13) hC 2 dX2_insertLeast_13 rfl rfl ?_
      refine V_iconst (pc := 14) hC dX2_insertLeast_14 (v := (nI 1)) (by decide) ?_
      refine V_isub (pc := 15) hC dX2_insertLeast_15 ?_
      obtain ⟨h2, hf⟩ := if_some hf
      refine V_iald (pc := 16) hC ia_59 (inB_of h2) dX2_insertLeast_16 ?_
      refine V_iload_n (pc := 17) hC 1 dX2_insertLeast_17 rfl rfl ?_
      refine V_icmp_le (pc := 18) (tgt := 41) hC dX2_insertLeast_18 (by decide) (fun c3 => ?_) (fun c3 => ?_)
      · have hf := ite_t hf c3
        exact b_X2_insertLeast_41 hC hR hf
      · have hf := ite_f hf c3
        refine V_aload_n (pc := 21) hC 0 dX2_insertLeast_21 rfl rfl ?_
        refine gf_X2_29 (pc := 22) hC dX2_insertLeast_22 ?_
        refine V_iload_n (pc := 25) hC 2 dX2_insertLeast_25 rfl rfl ?_
        refine V_aload_n (pc := 26) hC 0 dX2_insertLeast_26 rfl rfl ?_
        refine gf_X2_29 (pc := 27) hC dX2_insertLeast_27 ?_
        refine V_iload_n (pc := 30) hC 2 dX2_insertLeast_30 rfl rfl ?_
        refine V_iconst (pc := 31) hC dX2_insertLeast_31 (v := (nI 1)) (by decide) ?_
        refine V_isub (pc := 32) hC dX2_insertLeast_32 ?_
        obtain ⟨h4, hf⟩ := if_some hf
        refine V_iald (pc := 33) hC ia_59 (inB_of h4) dX2_insertLeast_33 ?_
        obtain ⟨h5, hf⟩ := if_some hf
        refine V_iast (pc := 34) hC ia_59 (inB_of h5) dX2_insertLeast_34 ?_
        refine V_iinc (pc := 35) (lv' := [(2, .int (v2 + (-1 : Int32))), (0, .ref (E.2.1 (53))), (1, .int v1)]) hC (-1 : Int32) 2 dX2_insertLeast_35 rfl (by decide) (by decide) rfl ?_
        refine V_goto (pc := 38) (tgt := 5) hC dX2_insertLeast_38 (by decide) ?_
        refine V_sub (pc := 5) (lv' := [(0, .ref (E.2.1 (53))), (1, .int v1), (2, .int (v2 + (-1 : Int32)))]) [1, 2, 0] rfl ?_
        exact ih (v2 + (-1 : Int32)) (up2 I (59) (Int32.toNatClampNeg v2) (I (59) (Int32.toNatClampNeg (v2 - (nI 1))))) hf
def f_X2_insertLeast (k : Nat) (v1 : Int32) (I : Mem) : Option (Mem) := f_X2_insertLeast_5 k v1 k (I (53) 12) I
set_option maxHeartbeats 4000000 in
set_option maxRecDepth 100000 in
theorem c_X2_insertLeast {E : EN} {k : Nat} {v1 : Int32} {I : Mem} {r : Mem} (hf : f_X2_insertLeast k v1 I = some r) : Ct E yX2_insertLeast cX2_insertLeast 3 none 0 0 [.ref (E.2.1 (53)), .int v1] I none r := by
  refine Ct_of (by decide) (Nat.le_of_ble_eq_true rfl) (fun X hC0 hR => ?_)
  have hC : Cx X E cX2_insertLeast 3 RX2 0 0 := hC0
  change V X E 3 0 [(0, .ref (E.2.1 (53))), (1, .int v1)] [] I
  unfold f_X2_insertLeast at hf
  refine V_aload_n (pc := 0) hC 0 dX2_insertLeast_0 rfl rfl ?_
  refine gf_X2_76 (pc := 1) hC dX2_insertLeast_1 ?_
  refine V_istore_n (pc := 4) (lv' := [(2, .int (I (53) 12)), (0, .ref (E.2.1 (53))), (1, .int v1)]) hC dX2_insertLeast_4 rfl (by decide) rfl ?_
  refine V_sub (pc := 5) (lv' := [(0, .ref (E.2.1 (53))), (1, .int v1), (2, .int (I (53) 12))]) [1, 2, 0] rfl ?_
  exact b_X2_insertLeast_5 hC hR k (I (53) 12) I hf
def f_X2_isLeast_13 (k : Nat) (I : Mem) (v1 : Int32) (v2 : Int32) : Nat → Int32 → Option (Int32)
  | 0, _ => none
  | n + 1, v3 => (if (I (53) 0) ≤ v3 then some (nI 1) else (if (f_X5_holds v1 v3) = 0 then (f_X2_isLeast_13 k I v1 v2 n) (v3 + (nI 1)) else (if inB v3 10 = true then (if inB v3 10 = true then (if (f_X2_isWinning (v1 &&& ((I (54) (Int32.toNatClampNeg v3)) ^^^ (-1 : Int32))) (v2 - (I (55) (Int32.toNatClampNeg v3))) I) = 0 then (f_X2_isLeast_13 k I v1 v2 n) (v3 + (nI 1)) else some (nI 0)) else none) else none)))
set_option maxHeartbeats 4000000 in
set_option maxRecDepth 100000 in
theorem b_X2_isLeast_13 {X : XT} {E : EN} {k : Nat} {I : Mem} {v1 : Int32} {v2 : Int32} {r : Int32} (hC : Cx X E cX2_isLeast 4 RX2 2 43) (hR : Rt X E cX2_isLeast (some .boolean) (some (.int r)) I) : ∀ (n : Nat) (v3 : Int32), f_X2_isLeast_13 k I v1 v2 n v3 = some r → V X E 4 13 [(0, .ref (E.2.1 (53))), (1, .int v1), (2, .int v2), (3, .int v3)] [] I := by
  intro n
  induction n with
  | zero =>
    intro v3 hf
    rw [f_X2_isLeast_13] at hf
    cases hf
  | succ n ih =>
    intro v3 hf
    rw [f_X2_isLeast_13] at hf
    refine V_iload_n (pc := 13) hC 3 dX2_isLeast_13 rfl rfl ?_
    refine V_aload_n (pc := 14) hC 0 dX2_isLeast_14 rfl rfl ?_
    refine gf_X2_38 (pc := 15) hC dX2_isLeast_15 ?_
    refine V_icmp_ge (pc := 18) (tgt := 62) hC dX2_isLeast_18 (by decide) (fun c2 => ?_) (fun c2 => ?_)
    · have hf := ite_t hf c2
      refine V_iconst (pc := 62) hC dX2_isLeast_62 (v := (nI 1)) (by decide) ?_
      have hf := Option.some.inj hf; subst hf
      exact V_ireturn (pc := 63) hR (nar_z (by decide)) dX2_isLeast_63
    · have hf := ite_f hf c2
      refine V_iload_n (pc := 21) hC 1 dX2_isLeast_21 rfl rfl ?_
      refine V_iload_n (pc := 22) hC 3 dX2_isLeast_22 rfl rfl ?_
      refine V_callN (pc := 23) (rest := []) (As := [.int v1, .int v3]) hC lk_X2_82 (c_X5_holds  rfl) rfl rfl (Nat.le_of_ble_eq_true rfl) (by decide) dX2_isLeast_23 ?_
      change V X E 4 26 [(0, .ref (E.2.1 (53))), (1, .int v1), (2, .int v2), (3, .int v3)] [.int (f_X5_holds v1 v3)] I
      refine V_if_eq (pc := 26) (tgt := 56) hC dX2_isLeast_26 (by decide) (fun c3 => ?_) (fun c3 => ?_)
      · have hf := ite_t hf c3
        refine V_iinc (pc := 56) (lv' := [(3, .int (v3 + (nI 1))), (0, .ref (E.2.1 (53))), (1, .int v1), (2, .int v2)]) hC (nI 1) 3 dX2_isLeast_56 rfl (by decide) (by decide) rfl ?_
        refine V_goto (pc := 59) (tgt := 13) hC dX2_isLeast_59 (by decide) ?_
        refine V_sub (pc := 13) (lv' := [(0, .ref (E.2.1 (53))), (1, .int v1), (2, .int v2), (3, .int (v3 + (nI 1)))]) [1, 2, 3, 0] rfl ?_
        exact ih (v3 + (nI 1)) hf
      · have hf := ite_f hf c3
        refine V_aload_n (pc := 29) hC 0 dX2_isLeast_29 rfl rfl ?_
        refine V_iload_n (pc := 30) hC 1 dX2_isLeast_30 rfl rfl ?_
        refine V_aload_n (pc := 31) hC 0 dX2_isLeast_31 rfl rfl ?_
        refine gf_X2_9 (pc := 32) hC dX2_isLeast_32 ?_
        refine V_iload_n (pc := 35) hC 3 dX2_isLeast_35 rfl rfl ?_
        obtain ⟨h4, hf⟩ := if_some hf
        refine V_iald (pc := 36) hC ia_54 (inB_of h4) dX2_isLeast_36 ?_
        refine V_iconst (pc := 37) hC dX2_isLeast_37 (v := (-1 : Int32)) (by decide) ?_
        refine V_ixor (pc := 38) hC dX2_isLeast_38 ?_
        refine V_iand (pc := 39) hC dX2_isLeast_39 ?_
        refine V_iload_n (pc := 40) hC 2 dX2_isLeast_40 rfl rfl ?_
        refine V_aload_n (pc := 41) hC 0 dX2_isLeast_41 rfl rfl ?_
        refine gf_X2_15 (pc := 42) hC dX2_isLeast_42 ?_
        refine V_iload_n (pc := 45) hC 3 dX2_isLeast_45 rfl rfl ?_
        obtain ⟨h5, hf⟩ := if_some hf
        refine V_iald (pc := 46) hC ia_55 (inB_of h5) dX2_isLeast_46 ?_
        refine V_isub (pc := 47) hC dX2_isLeast_47 ?_
        refine V_callV (pc := 48) (rest := []) (As := [.int (v1 &&& ((I (54) (Int32.toNatClampNeg v3)) ^^^ (-1 : Int32))), .int (v2 - (I (55) (Int32.toNatClampNeg v3)))]) hC lk_X2_107 (by decide) cel_X2 rfl (c_X2_isWinning  rfl) rfl rfl (Nat.le_of_ble_eq_true rfl) (by decide) dX2_isLeast_48 ?_
        change V X E 4 51 [(0, .ref (E.2.1 (53))), (1, .int v1), (2, .int v2), (3, .int v3)] [.int (f_X2_isWinning (v1 &&& ((I (54) (Int32.toNatClampNeg v3)) ^^^ (-1 : Int32))) (v2 - (I (55) (Int32.toNatClampNeg v3))) I)] I
        refine V_if_eq (pc := 51) (tgt := 56) hC dX2_isLeast_51 (by decide) (fun c6 => ?_) (fun c6 => ?_)
        · have hf := ite_t hf c6
          refine V_iinc (pc := 56) (lv' := [(3, .int (v3 + (nI 1))), (0, .ref (E.2.1 (53))), (1, .int v1), (2, .int v2)]) hC (nI 1) 3 dX2_isLeast_56 rfl (by decide) (by decide) rfl ?_
          refine V_goto (pc := 59) (tgt := 13) hC dX2_isLeast_59 (by decide) ?_
          refine V_sub (pc := 13) (lv' := [(0, .ref (E.2.1 (53))), (1, .int v1), (2, .int v2), (3, .int (v3 + (nI 1)))]) [1, 2, 3, 0] rfl ?_
          exact ih (v3 + (nI 1)) hf
        · have hf := ite_f hf c6
          refine V_iconst (pc := 54) hC dX2_isLeast_54 (v := (nI 0)) (by decide) ?_
          have hf := Option.some.inj hf; subst hf
          exact V_ireturn (pc := 55) hR (nar_z (by decide)) dX2_isLeast_55
def f_X2_isLeast (k : Nat) (v1 : Int32) (v2 : Int32) (I : Mem) : Option (Int32) := (if (f_X2_isWinning v1 v2 I) = 0 then some (nI 0) else f_X2_isLeast_13 k I v1 v2 k (nI 0))
set_option maxHeartbeats 4000000 in
set_option maxRecDepth 100000 in
theorem c_X2_isLeast {E : EN} {k : Nat} {v1 : Int32} {v2 : Int32} {I : Mem} {r : Int32} (hf : f_X2_isLeast k v1 v2 I = some r) : Ct E yX2_isLeast cX2_isLeast 4 (some .boolean) 2 43 [.ref (E.2.1 (53)), .int v1, .int v2] I (some (.int r)) I := by
  refine Ct_of (by decide) (Nat.le_of_ble_eq_true rfl) (fun X hC0 hR => ?_)
  have hC : Cx X E cX2_isLeast 4 RX2 2 43 := hC0
  change V X E 4 0 [(0, .ref (E.2.1 (53))), (1, .int v1), (2, .int v2)] [] I
  unfold f_X2_isLeast at hf
  refine V_aload_n (pc := 0) hC 0 dX2_isLeast_0 rfl rfl ?_
  refine V_iload_n (pc := 1) hC 1 dX2_isLeast_1 rfl rfl ?_
  refine V_iload_n (pc := 2) hC 2 dX2_isLeast_2 rfl rfl ?_
  refine V_callV (pc := 3) (rest := []) (As := [.int v1, .int v2]) hC lk_X2_107 (by decide) cel_X2 rfl (c_X2_isWinning  rfl) rfl rfl (Nat.le_of_ble_eq_true rfl) (by decide) dX2_isLeast_3 ?_
  change V X E 4 6 [(0, .ref (E.2.1 (53))), (1, .int v1), (2, .int v2)] [.int (f_X2_isWinning v1 v2 I)] I
  refine V_if_ne (pc := 6) (tgt := 11) hC dX2_isLeast_6 (by decide) (fun c1 => ?_) (fun c1 => ?_)
  · have hf := ite_f hf c1
    refine V_iconst (pc := 11) hC dX2_isLeast_11 (v := (nI 0)) (by decide) ?_
    refine V_istore_n (pc := 12) (lv' := [(3, .int (nI 0)), (0, .ref (E.2.1 (53))), (1, .int v1), (2, .int v2)]) hC dX2_isLeast_12 rfl (by decide) rfl ?_
    refine V_sub (pc := 13) (lv' := [(0, .ref (E.2.1 (53))), (1, .int v1), (2, .int v2), (3, .int (nI 0))]) [1, 2, 3, 0] rfl ?_
    exact b_X2_isLeast_13 hC hR k (nI 0) hf
  · have hf := ite_t hf c1
    refine V_iconst (pc := 9) hC dX2_isLeast_9 (v := (nI 0)) (by decide) ?_
    have hf := Option.some.inj hf; subst hf
    exact V_ireturn (pc := 10) hR (nar_z (by decide)) dX2_isLeast_10
def f_X2_sortingKey (v0 : Int32) (v1 : Int32) (v2 : Int32) : Int32 := ((((v0 <<< ((nI 9) &&& 31)) ||| v1) <<< ((nI 10) &&& 31)) ||| v2)
set_option maxHeartbeats 4000000 in
set_option maxRecDepth 100000 in
theorem c_X2_sortingKey {E : EN} {v0 : Int32} {v1 : Int32} {v2 : Int32} {I : Mem} {r : Int32} (hf : f_X2_sortingKey v0 v1 v2 = r) : Ct E yX2_sortingKey cX2_sortingKey 3 (some .int) 0 0 [.int v0, .int v1, .int v2] I (some (.int r)) I := by
  refine Ct_of (by decide) (Nat.le_of_ble_eq_true rfl) (fun X hC0 hR => ?_)
  have hC : Cx X E cX2_sortingKey 3 RX2 0 0 := hC0
  change V X E 3 0 [(0, .int v0), (1, .int v1), (2, .int v2)] [] I
  unfold f_X2_sortingKey at hf
  refine V_iload_n (pc := 0) hC 0 dX2_sortingKey_0 rfl rfl ?_
  refine V_bipush (pc := 1) hC dX2_sortingKey_1 (v := (nI 9)) (by decide) ?_
  refine V_ishl (pc := 3) hC dX2_sortingKey_3 ?_
  refine V_iload_n (pc := 4) hC 1 dX2_sortingKey_4 rfl rfl ?_
  refine V_ior (pc := 5) hC dX2_sortingKey_5 ?_
  refine V_bipush (pc := 6) hC dX2_sortingKey_6 (v := (nI 10)) (by decide) ?_
  refine V_ishl (pc := 8) hC dX2_sortingKey_8 ?_
  refine V_iload_n (pc := 9) hC 2 dX2_sortingKey_9 rfl rfl ?_
  refine V_ior (pc := 10) hC dX2_sortingKey_10 ?_
  subst hf
  exact V_ireturn (pc := 11) hR rfl dX2_sortingKey_11
def f_X2_listLeast_7 (k : Nat) : Nat → Int32 → Mem → Option (Mem)
  | 0, _, _ => none
  | n + 1, v1, I => (if (I (53) 9) ≤ v1 then some I else (if inB v1 1024 = true then (if inB v1 1024 = true then (Option.bind (f_X2_isLeast k (I (56) (Int32.toNatClampNeg v1)) (I (57) (Int32.toNatClampNeg v1)) I) (fun r4 => (if r4 = 0 then (f_X2_listLeast_7 k n) (v1 + (nI 1)) I else (if (nI 252) ≤ (I (53) 12) then (f_X2_listLeast_7 k n) (v1 + (nI 1)) I else (if inB v1 1024 = true then (if inB v1 1024 = true then (Option.bind (f_X2_insertLeast k (f_X2_sortingKey (f_J6_bitCount_0f7a4 v1) (I (57) (Int32.toNatClampNeg v1)) (I (56) (Int32.toNatClampNeg v1))) I) (fun r9 => (f_X2_listLeast_7 k n) (v1 + (nI 1)) r9)) else none) else none))))) else none) else none))
set_option maxHeartbeats 4000000 in
set_option maxRecDepth 100000 in
theorem b_X2_listLeast_7 {X : XT} {E : EN} {k : Nat} {r : Mem} (hC : Cx X E cX2_listLeast 2 RX2 3 66) (hR : Rt X E cX2_listLeast none none r) : ∀ (n : Nat) (v1 : Int32) (I : Mem), f_X2_listLeast_7 k n v1 I = some r → V X E 2 7 [(0, .ref (E.2.1 (53))), (1, .int v1)] [] I := by
  intro n
  induction n with
  | zero =>
    intro v1 I hf
    rw [f_X2_listLeast_7] at hf
    cases hf
  | succ n ih =>
    intro v1 I hf
    rw [f_X2_listLeast_7] at hf
    refine V_iload_n (pc := 7) hC 1 dX2_listLeast_7 rfl rfl ?_
    refine V_aload_n (pc := 8) hC 0 dX2_listLeast_8 rfl rfl ?_
    refine gf_X2_79 (pc := 9) hC dX2_listLeast_9 ?_
    refine V_icmp_ge (pc := 12) (tgt := 73) hC dX2_listLeast_12 (by decide) (fun c1 => ?_) (fun c1 => ?_)
    · have hf := ite_t hf c1
      have hf := Option.some.inj hf; subst hf
      exact V_return (pc := 73) hR trivial dX2_listLeast_73
    · have hf := ite_f hf c1
      refine V_aload_n (pc := 15) hC 0 dX2_listLeast_15 rfl rfl ?_
      refine V_aload_n (pc := 16) hC 0 dX2_listLeast_16 rfl rfl ?_
      refine gf_X2_18 (pc := 17) hC dX2_listLeast_17 ?_
      refine V_iload_n (pc := 20) hC 1 dX2_listLeast_20 rfl rfl ?_
      obtain ⟨h2, hf⟩ := if_some hf
      refine V_iald (pc := 21) hC ia_56 (inB_of h2) dX2_listLeast_21 ?_
      refine V_aload_n (pc := 22) hC 0 dX2_listLeast_22 rfl rfl ?_
      refine gf_X2_21 (pc := 23) hC dX2_listLeast_23 ?_
      refine V_iload_n (pc := 26) hC 1 dX2_listLeast_26 rfl rfl ?_
      obtain ⟨h3, hf⟩ := if_some hf
      refine V_iald (pc := 27) hC ia_57 (inB_of h3) dX2_listLeast_27 ?_
      obtain ⟨r4, g4, hf⟩ := bind_some hf
      refine V_callV (pc := 28) (rest := []) (As := [.int (I (56) (Int32.toNatClampNeg v1)), .int (I (57) (Int32.toNatClampNeg v1))]) hC lk_X2_133 (by decide) cel_X2 rfl (c_X2_isLeast  g4) rfl rfl (Nat.le_of_ble_eq_true rfl) (by decide) dX2_listLeast_28 ?_
      change V X E 2 31 [(0, .ref (E.2.1 (53))), (1, .int v1)] [.int r4] I
      refine V_if_eq (pc := 31) (tgt := 67) hC dX2_listLeast_31 (by decide) (fun c5 => ?_) (fun c5 => ?_)
      · have hf := ite_t hf c5
        refine V_iinc (pc := 67) (lv' := [(1, .int (v1 + (nI 1))), (0, .ref (E.2.1 (53)))]) hC (nI 1) 1 dX2_listLeast_67 rfl (by decide) (by decide) rfl ?_
        refine V_goto (pc := 70) (tgt := 7) hC dX2_listLeast_70 (by decide) ?_
        refine V_sub (pc := 7) (lv' := [(0, .ref (E.2.1 (53))), (1, .int (v1 + (nI 1)))]) [1, 0] rfl ?_
        exact ih (v1 + (nI 1)) I hf
      · have hf := ite_f hf c5
        refine V_aload_n (pc := 34) hC 0 dX2_listLeast_34 rfl rfl ?_
        refine gf_X2_76 (pc := 35) hC dX2_listLeast_35 ?_
        refine V_sipush (pc := 38) hC dX2_listLeast_38 (v := (nI 252)) (by decide) ?_
        refine V_icmp_ge (pc := 41) (tgt := 67) hC dX2_listLeast_41 (by decide) (fun c6 => ?_) (fun c6 => ?_)
        · have hf := ite_t hf c6
          refine V_iinc (pc := 67) (lv' := [(1, .int (v1 + (nI 1))), (0, .ref (E.2.1 (53)))]) hC (nI 1) 1 dX2_listLeast_67 rfl (by decide) (by decide) rfl ?_
          refine V_goto (pc := 70) (tgt := 7) hC dX2_listLeast_70 (by decide) ?_
          refine V_sub (pc := 7) (lv' := [(0, .ref (E.2.1 (53))), (1, .int (v1 + (nI 1)))]) [1, 0] rfl ?_
          exact ih (v1 + (nI 1)) I hf
        · have hf := ite_f hf c6
          refine V_aload_n (pc := 44) hC 0 dX2_listLeast_44 rfl rfl ?_
          refine V_iload_n (pc := 45) hC 1 dX2_listLeast_45 rfl rfl ?_
          refine V_callS (pc := 46) (rest := [.ref (E.2.1 (53))]) (As := [.int v1]) hC lk_X2_62 (c_J6_bitCount_0f7a4  rfl) rfl rfl (Nat.le_of_ble_eq_true rfl) (by decide) dX2_listLeast_46 ?_
          change V X E 2 49 [(0, .ref (E.2.1 (53))), (1, .int v1)] [.int (f_J6_bitCount_0f7a4 v1), .ref (E.2.1 (53))] I
          refine V_aload_n (pc := 49) hC 0 dX2_listLeast_49 rfl rfl ?_
          refine gf_X2_21 (pc := 50) hC dX2_listLeast_50 ?_
          refine V_iload_n (pc := 53) hC 1 dX2_listLeast_53 rfl rfl ?_
          obtain ⟨h7, hf⟩ := if_some hf
          refine V_iald (pc := 54) hC ia_57 (inB_of h7) dX2_listLeast_54 ?_
          refine V_aload_n (pc := 55) hC 0 dX2_listLeast_55 rfl rfl ?_
          refine gf_X2_18 (pc := 56) hC dX2_listLeast_56 ?_
          refine V_iload_n (pc := 59) hC 1 dX2_listLeast_59 rfl rfl ?_
          obtain ⟨h8, hf⟩ := if_some hf
          refine V_iald (pc := 60) hC ia_56 (inB_of h8) dX2_listLeast_60 ?_
          refine V_callS (pc := 61) (rest := [.ref (E.2.1 (53))]) (As := [.int (f_J6_bitCount_0f7a4 v1), .int (I (57) (Int32.toNatClampNeg v1)), .int (I (56) (Int32.toNatClampNeg v1))]) hC lk_X2_136 (c_X2_sortingKey  rfl) rfl rfl (Nat.le_of_ble_eq_true rfl) (by decide) dX2_listLeast_61 ?_
          change V X E 2 64 [(0, .ref (E.2.1 (53))), (1, .int v1)] [.int (f_X2_sortingKey (f_J6_bitCount_0f7a4 v1) (I (57) (Int32.toNatClampNeg v1)) (I (56) (Int32.toNatClampNeg v1))), .ref (E.2.1 (53))] I
          obtain ⟨r9, g9, hf⟩ := bind_some hf
          refine V_callV (pc := 64) (rest := []) (As := [.int (f_X2_sortingKey (f_J6_bitCount_0f7a4 v1) (I (57) (Int32.toNatClampNeg v1)) (I (56) (Int32.toNatClampNeg v1)))]) hC lk_X2_140 (by decide) cel_X2 rfl (c_X2_insertLeast  g9) rfl rfl (Nat.le_of_ble_eq_true rfl) (by decide) dX2_listLeast_64 ?_
          change V X E 2 67 [(0, .ref (E.2.1 (53))), (1, .int v1)] [] r9
          refine V_iinc (pc := 67) (lv' := [(1, .int (v1 + (nI 1))), (0, .ref (E.2.1 (53)))]) hC (nI 1) 1 dX2_listLeast_67 rfl (by decide) (by decide) rfl ?_
          refine V_goto (pc := 70) (tgt := 7) hC dX2_listLeast_70 (by decide) ?_
          refine V_sub (pc := 7) (lv' := [(0, .ref (E.2.1 (53))), (1, .int (v1 + (nI 1)))]) [1, 0] rfl ?_
          exact ih (v1 + (nI 1)) r9 hf
def f_X2_listLeast (k : Nat) (I : Mem) : Option (Mem) := f_X2_listLeast_7 k k (nI 0) (up2 I (53) 12 (nI 0))
set_option maxHeartbeats 4000000 in
set_option maxRecDepth 100000 in
theorem c_X2_listLeast {E : EN} {k : Nat} {I : Mem} {r : Mem} (hf : f_X2_listLeast k I = some r) : Ct E yX2_listLeast cX2_listLeast 2 none 3 66 [.ref (E.2.1 (53))] I none r := by
  refine Ct_of (by decide) (Nat.le_of_ble_eq_true rfl) (fun X hC0 hR => ?_)
  have hC : Cx X E cX2_listLeast 2 RX2 3 66 := hC0
  change V X E 2 0 [(0, .ref (E.2.1 (53)))] [] I
  unfold f_X2_listLeast at hf
  refine V_aload_n (pc := 0) hC 0 dX2_listLeast_0 rfl rfl ?_
  refine V_iconst (pc := 1) hC dX2_listLeast_1 (v := (nI 0)) (by decide) ?_
  refine pf_X2_76 (pc := 2) hC dX2_listLeast_2 ?_
  refine V_iconst (pc := 5) hC dX2_listLeast_5 (v := (nI 0)) (by decide) ?_
  refine V_istore_n (pc := 6) (lv' := [(1, .int (nI 0)), (0, .ref (E.2.1 (53)))]) hC dX2_listLeast_6 rfl (by decide) rfl ?_
  refine V_sub (pc := 7) (lv' := [(0, .ref (E.2.1 (53))), (1, .int (nI 0))]) [1, 0] rfl ?_
  exact b_X2_listLeast_7 hC hR k (nI 0) (up2 I (53) 12 (nI 0)) hf
def f_X2_leastCoalitions (k : Nat) (I : Mem) : Option (Int32 × Mem) := (if (I (53) 12) = (-1 : Int32) then (Option.bind (f_X2_listLeast k I) (fun r2 => some (r2 (53) 12, r2))) else some (I (53) 12, I))
set_option maxHeartbeats 4000000 in
set_option maxRecDepth 100000 in
theorem c_X2_leastCoalitions {E : EN} {k : Nat} {I : Mem} {r : Int32 × Mem} (hf : f_X2_leastCoalitions k I = some r) : Ct E yX2_leastCoalitions cX2_leastCoalitions 1 (some .int) 4 87 [.ref (E.2.1 (53))] I (some (.int r.1)) r.2 := by
  refine Ct_of (by decide) (Nat.le_of_ble_eq_true rfl) (fun X hC0 hR => ?_)
  have hC : Cx X E cX2_leastCoalitions 1 RX2 4 87 := hC0
  change V X E 1 0 [(0, .ref (E.2.1 (53)))] [] I
  unfold f_X2_leastCoalitions at hf
  refine V_aload_n (pc := 0) hC 0 dX2_leastCoalitions_0 rfl rfl ?_
  refine gf_X2_76 (pc := 1) hC dX2_leastCoalitions_1 ?_
  refine V_iconst (pc := 4) hC dX2_leastCoalitions_4 (v := (-1 : Int32)) (by decide) ?_
  refine V_icmp_ne (pc := 5) (tgt := 12) hC dX2_leastCoalitions_5 (by decide) (fun c1 => ?_) (fun c1 => ?_)
  · have hf := ite_f hf c1
    refine V_aload_n (pc := 12) hC 0 dX2_leastCoalitions_12 rfl rfl ?_
    refine gf_X2_76 (pc := 13) hC dX2_leastCoalitions_13 ?_
    have hf := Option.some.inj hf; subst hf
    exact V_ireturn (pc := 16) hR rfl dX2_leastCoalitions_16
  · have hf := ite_t hf c1
    refine V_aload_n (pc := 8) hC 0 dX2_leastCoalitions_8 rfl rfl ?_
    obtain ⟨r2, g2, hf⟩ := bind_some hf
    refine V_callV (pc := 9) (rest := []) (As := []) hC lk_X2_130 (by decide) cel_X2 rfl (c_X2_listLeast  g2) rfl rfl (Nat.le_of_ble_eq_true rfl) (by decide) dX2_leastCoalitions_9 ?_
    change V X E 1 12 [(0, .ref (E.2.1 (53)))] [] r2
    refine V_aload_n (pc := 12) hC 0 dX2_leastCoalitions_12 rfl rfl ?_
    refine gf_X2_76 (pc := 13) hC dX2_leastCoalitions_13 ?_
    have hf := Option.some.inj hf; subst hf
    exact V_ireturn (pc := 16) hR rfl dX2_leastCoalitions_16
def f_X2_ofLeast (k : Nat) (v1 : Int32) (v2 : Int32) (I : Mem) : Option (Int32) := (if inB v1 252 = true then (if v2 = (nI 0) then some ((I (59) (Int32.toNatClampNeg v1)) &&& (nI 1023)) else (if v2 = (nI 1) then some ((I (59) (Int32.toNatClampNeg v1)) >>> ((nI 19) &&& 31)) else some (((I (59) (Int32.toNatClampNeg v1)) >>> ((nI 10) &&& 31)) &&& (nI 511)))) else none)
set_option maxHeartbeats 4000000 in
set_option maxRecDepth 100000 in
theorem c_X2_ofLeast {E : EN} {k : Nat} {v1 : Int32} {v2 : Int32} {I : Mem} {r : Int32} (hf : f_X2_ofLeast k v1 v2 I = some r) : Ct E yX2_ofLeast cX2_ofLeast 4 (some .int) 0 0 [.ref (E.2.1 (53)), .int v1, .int v2] I (some (.int r)) I := by
  refine Ct_of (by decide) (Nat.le_of_ble_eq_true rfl) (fun X hC0 hR => ?_)
  have hC : Cx X E cX2_ofLeast 4 RX2 0 0 := hC0
  change V X E 4 0 [(0, .ref (E.2.1 (53))), (1, .int v1), (2, .int v2)] [] I
  unfold f_X2_ofLeast at hf
  refine V_aload_n (pc := 0) hC 0 dX2_ofLeast_0 rfl rfl ?_
  refine gf_X2_29 (pc := 1) hC dX2_ofLeast_1 ?_
  refine V_iload_n (pc := 4) hC 1 dX2_ofLeast_4 rfl rfl ?_
  obtain ⟨h1, hf⟩ := if_some hf
  refine V_iald (pc := 5) hC ia_59 (inB_of h1) dX2_ofLeast_5 ?_
  refine V_istore_n (pc := 6) (lv' := [(3, .int (I (59) (Int32.toNatClampNeg v1))), (0, .ref (E.2.1 (53))), (1, .int v1), (2, .int v2)]) hC dX2_ofLeast_6 rfl (by decide) rfl ?_
  refine V_iload_n (pc := 7) hC 3 dX2_ofLeast_7 rfl rfl ?_
  by_cases c2 : v2 = (nI 0)
  · have hf := ite_t hf c2
    refine V_lookup (pc := 8) (tgt := 36) (off := 28) hC dX2_ofLeast_8 (by decide) (by rw [c2]; decide) (by decide) ?_
    refine V_iload_n (pc := 36) hC 0 dX2_ofLeast_36 rfl rfl ?_
    refine V_sipush (pc := 37) hC dX2_ofLeast_37 (v := (nI 1023)) (by decide) ?_
    refine V_iand (pc := 40) hC dX2_ofLeast_40 ?_
    have hf := Option.some.inj hf; subst hf
    exact V_ireturn (pc := 41) hR rfl dX2_ofLeast_41
  have hf := ite_f hf c2
  by_cases c3 : v2 = (nI 1)
  · have hf := ite_t hf c3
    refine V_lookup (pc := 8) (tgt := 42) (off := 34) hC dX2_ofLeast_8 (by decide) (by rw [c3]; decide) (by decide) ?_
    refine V_iload_n (pc := 42) hC 0 dX2_ofLeast_42 rfl rfl ?_
    refine V_bipush (pc := 43) hC dX2_ofLeast_43 (v := (nI 19)) (by decide) ?_
    refine V_ishr (pc := 45) hC dX2_ofLeast_45 ?_
    have hf := Option.some.inj hf; subst hf
    exact V_ireturn (pc := 46) hR rfl dX2_ofLeast_46
  have hf := ite_f hf c3
  refine V_lookup (pc := 8) (tgt := 47) (off := 39) hC dX2_ofLeast_8 (by decide) (by show Op.lookupswitch.offset [(0, 28), (1, 34)] 39 _ = _; rw [lv_osw c2 (by decide), lv_osw c3 (by decide)]; rfl) (by decide) ?_
  refine V_iload_n (pc := 47) hC 0 dX2_ofLeast_47 rfl rfl ?_
  refine V_bipush (pc := 48) hC dX2_ofLeast_48 (v := (nI 10)) (by decide) ?_
  refine V_ishr (pc := 50) hC dX2_ofLeast_50 ?_
  refine V_sipush (pc := 51) hC dX2_ofLeast_51 (v := (nI 511)) (by decide) ?_
  refine V_iand (pc := 54) hC dX2_ofLeast_54 ?_
  have hf := Option.some.inj hf; subst hf
  exact V_ireturn (pc := 55) hR rfl dX2_ofLeast_55
