def f_X0_copyFrom (k : Nat) (s : Nat) (s2 : Nat) (I : Mem) : Option (Mem) := (Option.bind (some (up2 (up2 I (8 * s + 4) 0 (I (8 * s2 + 4) 0)) (8 * s + 4) 1 ((up2 I (8 * s + 4) 0 (I (8 * s2 + 4) 0)) (8 * s2 + 4) 1))) (fun J1 => (Option.bind (some (arrcpy (arrcpy J1 (8 * s2 + 5) (8 * s + 5) (nI 0) (nI 0) (nI 8)) (8 * s2 + 6) (8 * s + 6) (nI 0) (nI 0) (nI 8))) (fun J2 => some (arrcpy J2 (8 * s2 + 7) (8 * s + 7) (nI 0) (nI 0) (nI 8))))))
set_option maxHeartbeats 4000000 in
set_option maxRecDepth 100000 in
theorem c_X0_copyFrom {E : EN} {k : Nat} {s : Nat} {s2 : Nat} {I : Mem} {r : Mem} (hs : s < 6) (hs2 : s2 < 6) (hf : f_X0_copyFrom k s s2 I = some r) : Ct E yX0_copyFrom cX0_copyFrom 2 none 1 60 [.ref (E.2.1 (8 * s + 4)), .ref (E.2.1 (8 * s2 + 4))] I none r := by
  refine Ct_of (by decide) (Nat.le_of_ble_eq_true rfl) (fun X hC0 hR => ?_)
  have hC : Cx X E cX0_copyFrom 2 RX0 1 60 := hC0
  change V X E 2 0 [(0, .ref (E.2.1 (8 * s + 4))), (1, .ref (E.2.1 (8 * s2 + 4)))] [] I
  unfold f_X0_copyFrom at hf
  refine V_aload_n (pc := 0) hC 0 dX0_copyFrom_0 rfl rfl ?_
  refine V_aload_n (pc := 1) hC 1 dX0_copyFrom_1 rfl rfl ?_
  refine gf_X0_21 (pc := 2) hs2 hC dX0_copyFrom_2 ?_
  refine pf_X0_21 (pc := 5) hs hC dX0_copyFrom_5 ?_
  refine V_aload_n (pc := 8) hC 0 dX0_copyFrom_8 rfl rfl ?_
  refine V_aload_n (pc := 9) hC 1 dX0_copyFrom_9 rfl rfl ?_
  refine gf_X0_25 (pc := 10) hs2 hC dX0_copyFrom_10 ?_
  obtain ⟨J1, eJ1, hf⟩ := bind_some hf
  have eJ1 := Option.some.inj eJ1
  refine pf_X0_25 (pc := 13) hs hC dX0_copyFrom_13 ?_
  rw [eJ1]
  refine V_aload_n (pc := 16) hC 1 dX0_copyFrom_16 rfl rfl ?_
  refine gf_X0_9 (pc := 17) hs2 hC dX0_copyFrom_17 ?_
  refine V_iconst (pc := 20) hC dX0_copyFrom_20 (v := (nI 0)) (by decide) ?_
  refine V_aload_n (pc := 21) hC 0 dX0_copyFrom_21 rfl rfl ?_
  refine gf_X0_9 (pc := 22) hs hC dX0_copyFrom_22 ?_
  refine V_iconst (pc := 25) hC dX0_copyFrom_25 (v := (nI 0)) (by decide) ?_
  refine V_bipush (pc := 26) hC dX0_copyFrom_26 (v := (nI 8)) (by decide) ?_
  refine V_copy (pc := 28) hC (ia_ba hs2 (by decide) (by decide)) (ia_ba hs (by decide) (by decide)) lk_X0_28 ac_native ac_static ac_init (hC.2.2.2.2.1 _ ac_nativeT) (by decide) (by decide) (by decide) (by decide) (by decide) (by decide) (Nat.le_of_ble_eq_true rfl) dX0_copyFrom_28 ?_
  refine V_aload_n (pc := 31) hC 1 dX0_copyFrom_31 rfl rfl ?_
  refine gf_X0_15 (pc := 32) hs2 hC dX0_copyFrom_32 ?_
  refine V_iconst (pc := 35) hC dX0_copyFrom_35 (v := (nI 0)) (by decide) ?_
  refine V_aload_n (pc := 36) hC 0 dX0_copyFrom_36 rfl rfl ?_
  refine gf_X0_15 (pc := 37) hs hC dX0_copyFrom_37 ?_
  refine V_iconst (pc := 40) hC dX0_copyFrom_40 (v := (nI 0)) (by decide) ?_
  refine V_bipush (pc := 41) hC dX0_copyFrom_41 (v := (nI 8)) (by decide) ?_
  obtain ⟨J2, eJ2, hf⟩ := bind_some hf
  have eJ2 := Option.some.inj eJ2
  refine V_copy (pc := 43) hC (ia_ba hs2 (by decide) (by decide)) (ia_ba hs (by decide) (by decide)) lk_X0_28 ac_native ac_static ac_init (hC.2.2.2.2.1 _ ac_nativeT) (by decide) (by decide) (by decide) (by decide) (by decide) (by decide) (Nat.le_of_ble_eq_true rfl) dX0_copyFrom_43 ?_
  rw [eJ2]
  refine V_aload_n (pc := 46) hC 1 dX0_copyFrom_46 rfl rfl ?_
  refine gf_X0_18 (pc := 47) hs2 hC dX0_copyFrom_47 ?_
  refine V_iconst (pc := 50) hC dX0_copyFrom_50 (v := (nI 0)) (by decide) ?_
  refine V_aload_n (pc := 51) hC 0 dX0_copyFrom_51 rfl rfl ?_
  refine gf_X0_18 (pc := 52) hs hC dX0_copyFrom_52 ?_
  refine V_iconst (pc := 55) hC dX0_copyFrom_55 (v := (nI 0)) (by decide) ?_
  refine V_bipush (pc := 56) hC dX0_copyFrom_56 (v := (nI 8)) (by decide) ?_
  refine V_copy (pc := 58) hC (ia_ba hs2 (by decide) (by decide)) (ia_ba hs (by decide) (by decide)) lk_X0_28 ac_native ac_static ac_init (hC.2.2.2.2.1 _ ac_nativeT) (by decide) (by decide) (by decide) (by decide) (by decide) (by decide) (Nat.le_of_ble_eq_true rfl) dX0_copyFrom_58 ?_
  have hf := Option.some.inj hf; subst hf
  exact V_return (pc := 61) hR trivial dX0_copyFrom_61
def f_X0_putFirst_5 (k : Nat) (a0 : Nat) (v1 : Int32) : Nat → Int32 → Mem → Option (Mem)
  | 0, _, _ => none
  | n + 1, v2, I => (if v2 ≤ 0 then (if (nI 8) ≤ 0 then some I else some (up2 I (a0) (Int32.toNatClampNeg (nI 0)) v1)) else (if inB (v2 - (nI 1)) 8 = true then (if inB v2 8 = true then (f_X0_putFirst_5 k a0 v1 n) (v2 + (-1 : Int32)) (up2 I (a0) (Int32.toNatClampNeg v2) (I (a0) (Int32.toNatClampNeg (v2 - (nI 1))))) else none) else none))
set_option maxHeartbeats 4000000 in
set_option maxRecDepth 100000 in
theorem b_X0_putFirst_5 {X : XT} {E : EN} {k : Nat} {a0 : Nat} {v1 : Int32} {r : Mem} (hC : Cx X E cX0_putFirst 3 RX0 0 0) (ha0 : IA a0 8) (hR : Rt X E cX0_putFirst none none r) : ∀ (n : Nat) (v2 : Int32) (I : Mem), f_X0_putFirst_5 k a0 v1 n v2 I = some r → V X E 3 5 [(0, .ref (E.2.1 (a0))), (1, .int v1), (2, .int v2)] [] I := by
  intro n
  induction n with
  | zero =>
    intro v2 I hf
    rw [f_X0_putFirst_5] at hf
    cases hf
  | succ n ih =>
    intro v2 I hf
    rw [f_X0_putFirst_5] at hf
    refine V_iload_n (pc := 5) hC 2 dX0_putFirst_5 rfl rfl ?_
    refine V_if_le (pc := 6) (tgt := 23) hC dX0_putFirst_6 (by decide) (fun c1 => ?_) (fun c1 => ?_)
    · have hf := ite_t hf c1
      refine V_aload_n (pc := 23) hC 0 dX0_putFirst_23 rfl rfl ?_
      refine V_ialen (pc := 24) (v := (nI 8)) hC ha0 (by decide) dX0_putFirst_24 ?_
      refine V_if_le (pc := 25) (tgt := 32) hC dX0_putFirst_25 (by decide) (fun c2 => ?_) (fun c2 => ?_)
      · have hf := ite_t hf c2
        have hf := Option.some.inj hf; subst hf
        exact V_return (pc := 32) hR trivial dX0_putFirst_32
      · have hf := ite_f hf c2
        refine V_aload_n (pc := 28) hC 0 dX0_putFirst_28 rfl rfl ?_
        refine V_iconst (pc := 29) hC dX0_putFirst_29 (v := (nI 0)) (by decide) ?_
        refine V_iload_n (pc := 30) hC 1 dX0_putFirst_30 rfl rfl ?_
        refine V_iast (pc := 31) hC ha0 (inB_of (by decide)) dX0_putFirst_31 ?_
        have hf := Option.some.inj hf; subst hf
        exact V_return (pc := 32) hR trivial dX0_putFirst_32
    · have hf := ite_f hf c1
      refine V_aload_n (pc := 9) hC 0 dX0_putFirst_9 rfl rfl ?_
      refine V_iload_n (pc := 10) hC 2 dX0_putFirst_10 rfl rfl ?_
      refine V_aload_n (pc := 11) hC 0 dX0_putFirst_11 rfl rfl ?_
      refine V_iload_n (pc := 12) hC 2 dX0_putFirst_12 rfl rfl ?_
      refine V_iconst (pc := 13) hC dX0_putFirst_13 (v := (nI 1)) (by decide) ?_
      refine V_isub (pc := 14) hC dX0_putFirst_14 ?_
      obtain ⟨h3, hf⟩ := if_some hf
      refine V_iald (pc := 15) hC ha0 (inB_of h3) dX0_putFirst_15 ?_
      obtain ⟨h4, hf⟩ := if_some hf
      refine V_iast (pc := 16) hC ha0 (inB_of h4) dX0_putFirst_16 ?_
      refine V_iinc (pc := 17) (lv' := [(2, .int (v2 + (-1 : Int32))), (0, .ref (E.2.1 (a0))), (1, .int v1)]) hC (-1 : Int32) 2 dX0_putFirst_17 rfl (by decide) (by decide) rfl ?_
      refine V_goto (pc := 20) (tgt := 5) hC dX0_putFirst_20 (by decide) ?_
      refine V_sub (pc := 5) (lv' := [(0, .ref (E.2.1 (a0))), (1, .int v1), (2, .int (v2 + (-1 : Int32)))]) [1, 2, 0] rfl ?_
      exact ih (v2 + (-1 : Int32)) (up2 I (a0) (Int32.toNatClampNeg v2) (I (a0) (Int32.toNatClampNeg (v2 - (nI 1))))) hf
def f_X0_putFirst (k : Nat) (a0 : Nat) (v1 : Int32) (I : Mem) : Option (Mem) := f_X0_putFirst_5 k a0 v1 k ((nI 8) - (nI 1)) I
set_option maxHeartbeats 4000000 in
set_option maxRecDepth 100000 in
theorem c_X0_putFirst {E : EN} {k : Nat} {a0 : Nat} {v1 : Int32} {I : Mem} {r : Mem} (ha0 : IA a0 8) (hf : f_X0_putFirst k a0 v1 I = some r) : Ct E yX0_putFirst cX0_putFirst 3 none 0 0 [.ref (E.2.1 (a0)), .int v1] I none r := by
  refine Ct_of (by decide) (Nat.le_of_ble_eq_true rfl) (fun X hC0 hR => ?_)
  have hC : Cx X E cX0_putFirst 3 RX0 0 0 := hC0
  change V X E 3 0 [(0, .ref (E.2.1 (a0))), (1, .int v1)] [] I
  unfold f_X0_putFirst at hf
  refine V_aload_n (pc := 0) hC 0 dX0_putFirst_0 rfl rfl ?_
  refine V_ialen (pc := 1) (v := (nI 8)) hC ha0 (by decide) dX0_putFirst_1 ?_
  refine V_iconst (pc := 2) hC dX0_putFirst_2 (v := (nI 1)) (by decide) ?_
  refine V_isub (pc := 3) hC dX0_putFirst_3 ?_
  refine V_istore_n (pc := 4) (lv' := [(2, .int ((nI 8) - (nI 1))), (0, .ref (E.2.1 (a0))), (1, .int v1)]) hC dX0_putFirst_4 rfl (by decide) rfl ?_
  refine V_sub (pc := 5) (lv' := [(0, .ref (E.2.1 (a0))), (1, .int v1), (2, .int ((nI 8) - (nI 1)))]) [1, 2, 0] rfl ?_
  exact b_X0_putFirst_5 hC ha0 hR k ((nI 8) - (nI 1)) I hf
def f_X0_add (k : Nat) (s : Nat) (v1 : Int32) (v2 : Int32) (v3 : Int32) (I : Mem) : Option (Mem) := (Option.bind (some (up2 (up2 I (8 * s + 4) 0 ((I (8 * s + 4) 0) + (nI 1))) (8 * s + 4) 1 (((up2 I (8 * s + 4) 0 ((I (8 * s + 4) 0) + (nI 1))) (8 * s + 4) 1) + (f_X5_oneIf v1)))) (fun J1 => (Option.bind (f_X0_putFirst k (8 * s + 5) (f_X5_oneIf v1) J1) (fun r2 => (Option.bind (f_X0_putFirst k (8 * s + 6) v2 r2) (fun r3 => (Option.bind (f_X0_putFirst k (8 * s + 7) v3 r3) (fun r4 => some r4))))))))
set_option maxHeartbeats 4000000 in
set_option maxRecDepth 100000 in
theorem c_X0_add {E : EN} {k : Nat} {s : Nat} {v1 : Int32} {v2 : Int32} {v3 : Int32} {I : Mem} {r : Mem} (hs : s < 6) (hf : f_X0_add k s v1 v2 v3 I = some r) : Ct E yX0_add cX0_add 4 none 1 22 [.ref (E.2.1 (8 * s + 4)), .int v1, .int v2, .int v3] I none r := by
  refine Ct_of (by decide) (Nat.le_of_ble_eq_true rfl) (fun X hC0 hR => ?_)
  have hC : Cx X E cX0_add 4 RX0 1 22 := hC0
  change V X E 4 0 [(0, .ref (E.2.1 (8 * s + 4))), (1, .int v1), (2, .int v2), (3, .int v3)] [] I
  unfold f_X0_add at hf
  refine V_aload_n (pc := 0) hC 0 dX0_add_0 rfl rfl ?_
  refine V_dup (pc := 1) hC dX0_add_1 rfl ?_
  refine gf_X0_21 (pc := 2) hs hC dX0_add_2 ?_
  refine V_iconst (pc := 5) hC dX0_add_5 (v := (nI 1)) (by decide) ?_
  refine V_iadd (pc := 6) hC dX0_add_6 ?_
  refine pf_X0_21 (pc := 7) hs hC dX0_add_7 ?_
  refine V_aload_n (pc := 10) hC 0 dX0_add_10 rfl rfl ?_
  refine V_dup (pc := 11) hC dX0_add_11 rfl ?_
  refine gf_X0_25 (pc := 12) hs hC dX0_add_12 ?_
  refine V_iload_n (pc := 15) hC 1 dX0_add_15 rfl rfl ?_
  refine V_callN (pc := 16) (rest := [.int ((up2 I (8 * s + 4) 0 ((I (8 * s + 4) 0) + (nI 1))) (8 * s + 4) 1), .ref (E.2.1 (8 * s + 4))]) (As := [.int v1]) hC lk_X0_34 (c_X5_oneIf  rfl) rfl rfl (Nat.le_of_ble_eq_true rfl) (by decide) dX0_add_16 ?_
  change V X E 4 19 [(0, .ref (E.2.1 (8 * s + 4))), (1, .int v1), (2, .int v2), (3, .int v3)] [.int (f_X5_oneIf v1), .int ((up2 I (8 * s + 4) 0 ((I (8 * s + 4) 0) + (nI 1))) (8 * s + 4) 1), .ref (E.2.1 (8 * s + 4))] (up2 I (8 * s + 4) 0 ((I (8 * s + 4) 0) + (nI 1)))
  refine V_iadd (pc := 19) hC dX0_add_19 ?_
  obtain ⟨J1, eJ1, hf⟩ := bind_some hf
  have eJ1 := Option.some.inj eJ1
  refine pf_X0_25 (pc := 20) hs hC dX0_add_20 ?_
  rw [eJ1]
  refine V_aload_n (pc := 23) hC 0 dX0_add_23 rfl rfl ?_
  refine gf_X0_9 (pc := 24) hs hC dX0_add_24 ?_
  refine V_iload_n (pc := 27) hC 1 dX0_add_27 rfl rfl ?_
  refine V_callN (pc := 28) (rest := [.ref (E.2.1 (8 * s + 5))]) (As := [.int v1]) hC lk_X0_34 (c_X5_oneIf  rfl) rfl rfl (Nat.le_of_ble_eq_true rfl) (by decide) dX0_add_28 ?_
  change V X E 4 31 [(0, .ref (E.2.1 (8 * s + 4))), (1, .int v1), (2, .int v2), (3, .int v3)] [.int (f_X5_oneIf v1), .ref (E.2.1 (8 * s + 5))] J1
  obtain ⟨r2, g2, hf⟩ := bind_some hf
  refine V_callS (pc := 31) (rest := []) (As := [.ref (E.2.1 (8 * s + 5)), .int (f_X5_oneIf v1)]) hC lk_X0_38 (c_X0_putFirst (ia_ba hs (by decide) (by decide)) g2) rfl rfl (Nat.le_of_ble_eq_true rfl) (by decide) dX0_add_31 ?_
  change V X E 4 34 [(0, .ref (E.2.1 (8 * s + 4))), (1, .int v1), (2, .int v2), (3, .int v3)] [] r2
  refine V_aload_n (pc := 34) hC 0 dX0_add_34 rfl rfl ?_
  refine gf_X0_15 (pc := 35) hs hC dX0_add_35 ?_
  refine V_iload_n (pc := 38) hC 2 dX0_add_38 rfl rfl ?_
  obtain ⟨r3, g3, hf⟩ := bind_some hf
  refine V_callS (pc := 39) (rest := []) (As := [.ref (E.2.1 (8 * s + 6)), .int v2]) hC lk_X0_38 (c_X0_putFirst (ia_ba hs (by decide) (by decide)) g3) rfl rfl (Nat.le_of_ble_eq_true rfl) (by decide) dX0_add_39 ?_
  change V X E 4 42 [(0, .ref (E.2.1 (8 * s + 4))), (1, .int v1), (2, .int v2), (3, .int v3)] [] r3
  refine V_aload_n (pc := 42) hC 0 dX0_add_42 rfl rfl ?_
  refine gf_X0_18 (pc := 43) hs hC dX0_add_43 ?_
  refine V_iload_n (pc := 46) hC 3 dX0_add_46 rfl rfl ?_
  obtain ⟨r4, g4, hf⟩ := bind_some hf
  refine V_callS (pc := 47) (rest := []) (As := [.ref (E.2.1 (8 * s + 7)), .int v3]) hC lk_X0_38 (c_X0_putFirst (ia_ba hs (by decide) (by decide)) g4) rfl rfl (Nat.le_of_ble_eq_true rfl) (by decide) dX0_add_47 ?_
  change V X E 4 50 [(0, .ref (E.2.1 (8 * s + 4))), (1, .int v1), (2, .int v2), (3, .int v3)] [] r4
  have hf := Option.some.inj hf; subst hf
  exact V_return (pc := 50) hR trivial dX0_add_50
def f_X1_dropOldest_9 (k : Nat) (q1 : Nat) : Nat → Int32 → Mem → Option (Mem)
  | 0, _, _ => none
  | n + 1, v2, I => (if (nI 4) ≤ v2 then some (up2 (up2 I 50 (Int32.toNatClampNeg (nI 3)) (nI q1)) (49) 1 (((up2 I 50 (Int32.toNatClampNeg (nI 3)) (nI q1)) (49) 1) - (nI 1))) else (if inB v2 4 = true then (if Int32.toNatClampNeg (I 50 (Int32.toNatClampNeg v2)) < 6 then (if inB (v2 - (nI 1)) 4 = true then (Option.bind (some (up2 I 50 (Int32.toNatClampNeg (v2 - (nI 1))) (nI (Int32.toNatClampNeg (I 50 (Int32.toNatClampNeg v2)))))) (fun J6 => (f_X1_dropOldest_9 k q1 n) (v2 + (nI 1)) J6)) else none) else none) else none))
set_option maxHeartbeats 4000000 in
set_option maxRecDepth 100000 in
theorem b_X1_dropOldest_9 {X : XT} {E : EN} {k : Nat} {q1 : Nat} {r : Mem} (hC : Cx X E cX1_dropOldest 3 RX1 0 0) (hq1 : q1 < 6) (hR : Rt X E cX1_dropOldest none none r) : ∀ (n : Nat) (v2 : Int32) (I : Mem), f_X1_dropOldest_9 k q1 n v2 I = some r → V X E 3 9 [(0, .ref (E.2.1 (49))), (1, .ref (E.2.1 (8 * q1))), (2, .int v2)] [] I := by
  intro n
  induction n with
  | zero =>
    intro v2 I hf
    rw [f_X1_dropOldest_9] at hf
    cases hf
  | succ n ih =>
    intro v2 I hf
    rw [f_X1_dropOldest_9] at hf
    refine V_iload_n (pc := 9) hC 2 dX1_dropOldest_9 rfl rfl ?_
    refine V_iconst (pc := 10) hC dX1_dropOldest_10 (v := (nI 4)) (by decide) ?_
    refine V_icmp_ge (pc := 11) (tgt := 34) hC dX1_dropOldest_11 (by decide) (fun c2 => ?_) (fun c2 => ?_)
    · have hf := ite_t hf c2
      refine V_aload_n (pc := 34) hC 0 dX1_dropOldest_34 rfl rfl ?_
      refine gf_X1_11 (pc := 35) hC dX1_dropOldest_35 ?_
      refine V_iconst (pc := 38) hC dX1_dropOldest_38 (v := (nI 3)) (by decide) ?_
      refine V_aload_n (pc := 39) hC 1 dX1_dropOldest_39 rfl rfl ?_
      refine V_ast50 (pc := 40) (s := q1) hC hq1 (inB_of (by decide)) dX1_dropOldest_40 ?_
      refine V_aload_n (pc := 41) hC 0 dX1_dropOldest_41 rfl rfl ?_
      refine V_dup (pc := 42) hC dX1_dropOldest_42 rfl ?_
      refine gf_X1_18 (pc := 43) hC dX1_dropOldest_43 ?_
      refine V_iconst (pc := 46) hC dX1_dropOldest_46 (v := (nI 1)) (by decide) ?_
      refine V_isub (pc := 47) hC dX1_dropOldest_47 ?_
      refine pf_X1_18 (pc := 48) hC dX1_dropOldest_48 ?_
      have hf := Option.some.inj hf; subst hf
      exact V_return (pc := 51) hR trivial dX1_dropOldest_51
    · have hf := ite_f hf c2
      refine V_aload_n (pc := 14) hC 0 dX1_dropOldest_14 rfl rfl ?_
      refine gf_X1_11 (pc := 15) hC dX1_dropOldest_15 ?_
      refine V_iload_n (pc := 18) hC 2 dX1_dropOldest_18 rfl rfl ?_
      refine V_iconst (pc := 19) hC dX1_dropOldest_19 (v := (nI 1)) (by decide) ?_
      refine V_isub (pc := 20) hC dX1_dropOldest_20 ?_
      refine V_aload_n (pc := 21) hC 0 dX1_dropOldest_21 rfl rfl ?_
      refine gf_X1_11 (pc := 22) hC dX1_dropOldest_22 ?_
      refine V_iload_n (pc := 25) hC 2 dX1_dropOldest_25 rfl rfl ?_
      obtain ⟨h3, hf⟩ := if_some hf
      obtain ⟨h4, hf⟩ := if_some hf
      refine V_ald50 (pc := 26) hC (inB_of h3) dX1_dropOldest_26 ?_
      obtain ⟨h5, hf⟩ := if_some hf
      obtain ⟨J6, eJ6, hf⟩ := bind_some hf
      have eJ6 := Option.some.inj eJ6
      refine V_ast50 (pc := 27) (s := (Int32.toNatClampNeg (I 50 (Int32.toNatClampNeg v2)))) hC h4 (inB_of h5) dX1_dropOldest_27 ?_
      rw [eJ6]
      refine V_iinc (pc := 28) (lv' := [(2, .int (v2 + (nI 1))), (0, .ref (E.2.1 (49))), (1, .ref (E.2.1 (8 * q1)))]) hC (nI 1) 2 dX1_dropOldest_28 rfl (by decide) (by decide) rfl ?_
      refine V_goto (pc := 31) (tgt := 9) hC dX1_dropOldest_31 (by decide) ?_
      refine V_sub (pc := 9) (lv' := [(0, .ref (E.2.1 (49))), (1, .ref (E.2.1 (8 * q1))), (2, .int (v2 + (nI 1)))]) [1, 2, 0] rfl ?_
      exact ih (v2 + (nI 1)) J6 hf
def f_X1_dropOldest (k : Nat) (I : Mem) : Option (Mem) := (if Int32.toNatClampNeg (I 50 (Int32.toNatClampNeg (nI 0))) < 6 then f_X1_dropOldest_9 k (Int32.toNatClampNeg (I 50 (Int32.toNatClampNeg (nI 0)))) k (nI 1) I else none)
set_option maxHeartbeats 4000000 in
set_option maxRecDepth 100000 in
theorem c_X1_dropOldest {E : EN} {k : Nat} {I : Mem} {r : Mem} (hf : f_X1_dropOldest k I = some r) : Ct E yX1_dropOldest cX1_dropOldest 3 none 0 0 [.ref (E.2.1 (49))] I none r := by
  refine Ct_of (by decide) (Nat.le_of_ble_eq_true rfl) (fun X hC0 hR => ?_)
  have hC : Cx X E cX1_dropOldest 3 RX1 0 0 := hC0
  change V X E 3 0 [(0, .ref (E.2.1 (49)))] [] I
  unfold f_X1_dropOldest at hf
  refine V_aload_n (pc := 0) hC 0 dX1_dropOldest_0 rfl rfl ?_
  refine gf_X1_11 (pc := 1) hC dX1_dropOldest_1 ?_
  refine V_iconst (pc := 4) hC dX1_dropOldest_4 (v := (nI 0)) (by decide) ?_
  obtain ⟨h1, hf⟩ := if_some hf
  refine V_ald50 (pc := 5) hC (inB_of (by decide)) dX1_dropOldest_5 ?_
  refine V_astore_n (pc := 6) (lv' := [(1, .ref (E.2.1 (8 * (Int32.toNatClampNeg (I 50 (Int32.toNatClampNeg (nI 0))))))), (0, .ref (E.2.1 (49)))]) hC dX1_dropOldest_6 rfl (by decide) rfl ?_
  refine V_iconst (pc := 7) hC dX1_dropOldest_7 (v := (nI 1)) (by decide) ?_
  refine V_istore_n (pc := 8) (lv' := [(2, .int (nI 1)), (1, .ref (E.2.1 (8 * (Int32.toNatClampNeg (I 50 (Int32.toNatClampNeg (nI 0))))))), (0, .ref (E.2.1 (49)))]) hC dX1_dropOldest_8 rfl (by decide) rfl ?_
  refine V_sub (pc := 9) (lv' := [(0, .ref (E.2.1 (49))), (1, .ref (E.2.1 (8 * (Int32.toNatClampNeg (I 50 (Int32.toNatClampNeg (nI 0))))))), (2, .int (nI 1))]) [2, 1, 0] rfl ?_
  exact b_X1_dropOldest_9 hC h1 hR k (nI 1) I hf
def f_X3_copyFrom (k : Nat) (s : Nat) (s2 : Nat) (I : Mem) : Option (Mem) := (Option.bind (some (up2 (up2 I (8 * s) 0 (I (8 * s2) 0)) (8 * s) 1 ((up2 I (8 * s) 0 (I (8 * s2) 0)) (8 * s2) 1))) (fun J1 => (Option.bind (some (arrcpy (arrcpy (up2 J1 (8 * s) 2 (J1 (8 * s2) 2)) (8 * s2 + 1) (8 * s + 1) (nI 0) (nI 0) (nI 10)) (8 * s2 + 2) (8 * s + 2) (nI 0) (nI 0) (nI 10))) (fun J2 => (Option.bind (f_X0_copyFrom k s s2 (arrcpy J2 (8 * s2 + 3) (8 * s + 3) (nI 0) (nI 0) (nI 10))) (fun r3 => some r3))))))
set_option maxHeartbeats 4000000 in
set_option maxRecDepth 100000 in
theorem c_X3_copyFrom {E : EN} {k : Nat} {s : Nat} {s2 : Nat} {I : Mem} {r : Mem} (hs : s < 6) (hs2 : s2 < 6) (hf : f_X3_copyFrom k s s2 I = some r) : Ct E yX3_copyFrom cX3_copyFrom 2 none 2 81 [.ref (E.2.1 (8 * s)), .ref (E.2.1 (8 * s2))] I none r := by
  refine Ct_of (by decide) (Nat.le_of_ble_eq_true rfl) (fun X hC0 hR => ?_)
  have hC : Cx X E cX3_copyFrom 2 RX3 2 81 := hC0
  change V X E 2 0 [(0, .ref (E.2.1 (8 * s))), (1, .ref (E.2.1 (8 * s2)))] [] I
  unfold f_X3_copyFrom at hf
  refine V_aload_n (pc := 0) hC 0 dX3_copyFrom_0 rfl rfl ?_
  refine V_aload_n (pc := 1) hC 1 dX3_copyFrom_1 rfl rfl ?_
  refine gf_X3_32 (pc := 2) hs2 hC dX3_copyFrom_2 ?_
  refine pf_X3_32 (pc := 5) hs hC dX3_copyFrom_5 ?_
  refine V_aload_n (pc := 8) hC 0 dX3_copyFrom_8 rfl rfl ?_
  refine V_aload_n (pc := 9) hC 1 dX3_copyFrom_9 rfl rfl ?_
  refine gf_X3_9 (pc := 10) hs2 hC dX3_copyFrom_10 ?_
  obtain ⟨J1, eJ1, hf⟩ := bind_some hf
  have eJ1 := Option.some.inj eJ1
  refine pf_X3_9 (pc := 13) hs hC dX3_copyFrom_13 ?_
  rw [eJ1]
  refine V_aload_n (pc := 16) hC 0 dX3_copyFrom_16 rfl rfl ?_
  refine V_aload_n (pc := 17) hC 1 dX3_copyFrom_17 rfl rfl ?_
  refine gf_X3_35 (pc := 18) hs2 hC dX3_copyFrom_18 ?_
  refine pf_X3_35 (pc := 21) hs hC dX3_copyFrom_21 ?_
  refine V_aload_n (pc := 24) hC 1 dX3_copyFrom_24 rfl rfl ?_
  refine gf_X3_15 (pc := 25) hs2 hC dX3_copyFrom_25 ?_
  refine V_iconst (pc := 28) hC dX3_copyFrom_28 (v := (nI 0)) (by decide) ?_
  refine V_aload_n (pc := 29) hC 0 dX3_copyFrom_29 rfl rfl ?_
  refine gf_X3_15 (pc := 30) hs hC dX3_copyFrom_30 ?_
  refine V_iconst (pc := 33) hC dX3_copyFrom_33 (v := (nI 0)) (by decide) ?_
  refine V_bipush (pc := 34) hC dX3_copyFrom_34 (v := (nI 10)) (by decide) ?_
  refine V_copy (pc := 36) hC (ia_st hs2 (by decide) (by decide)) (ia_st hs (by decide) (by decide)) lk_X3_38 ac_native ac_static ac_init (hC.2.2.2.2.1 _ ac_nativeT) (by decide) (by decide) (by decide) (by decide) (by decide) (by decide) (Nat.le_of_ble_eq_true rfl) dX3_copyFrom_36 ?_
  refine V_aload_n (pc := 39) hC 1 dX3_copyFrom_39 rfl rfl ?_
  refine gf_X3_19 (pc := 40) hs2 hC dX3_copyFrom_40 ?_
  refine V_iconst (pc := 43) hC dX3_copyFrom_43 (v := (nI 0)) (by decide) ?_
  refine V_aload_n (pc := 44) hC 0 dX3_copyFrom_44 rfl rfl ?_
  refine gf_X3_19 (pc := 45) hs hC dX3_copyFrom_45 ?_
  refine V_iconst (pc := 48) hC dX3_copyFrom_48 (v := (nI 0)) (by decide) ?_
  refine V_bipush (pc := 49) hC dX3_copyFrom_49 (v := (nI 10)) (by decide) ?_
  obtain ⟨J2, eJ2, hf⟩ := bind_some hf
  have eJ2 := Option.some.inj eJ2
  refine V_copy (pc := 51) hC (ia_st hs2 (by decide) (by decide)) (ia_st hs (by decide) (by decide)) lk_X3_38 ac_native ac_static ac_init (hC.2.2.2.2.1 _ ac_nativeT) (by decide) (by decide) (by decide) (by decide) (by decide) (by decide) (Nat.le_of_ble_eq_true rfl) dX3_copyFrom_51 ?_
  rw [eJ2]
  refine V_aload_n (pc := 54) hC 1 dX3_copyFrom_54 rfl rfl ?_
  refine gf_X3_22 (pc := 55) hs2 hC dX3_copyFrom_55 ?_
  refine V_iconst (pc := 58) hC dX3_copyFrom_58 (v := (nI 0)) (by decide) ?_
  refine V_aload_n (pc := 59) hC 0 dX3_copyFrom_59 rfl rfl ?_
  refine gf_X3_22 (pc := 60) hs hC dX3_copyFrom_60 ?_
  refine V_iconst (pc := 63) hC dX3_copyFrom_63 (v := (nI 0)) (by decide) ?_
  refine V_bipush (pc := 64) hC dX3_copyFrom_64 (v := (nI 10)) (by decide) ?_
  refine V_copy (pc := 66) hC (ia_st hs2 (by decide) (by decide)) (ia_st hs (by decide) (by decide)) lk_X3_38 ac_native ac_static ac_init (hC.2.2.2.2.1 _ ac_nativeT) (by decide) (by decide) (by decide) (by decide) (by decide) (by decide) (Nat.le_of_ble_eq_true rfl) dX3_copyFrom_66 ?_
  refine V_aload_n (pc := 69) hC 0 dX3_copyFrom_69 rfl rfl ?_
  refine gf_X3_28 (pc := 70) hs hC dX3_copyFrom_70 ?_
  refine V_aload_n (pc := 73) hC 1 dX3_copyFrom_73 rfl rfl ?_
  refine gf_X3_28 (pc := 74) hs2 hC dX3_copyFrom_74 ?_
  obtain ⟨r3, g3, hf⟩ := bind_some hf
  refine V_callV (pc := 77) (rest := []) (As := [.ref (E.2.1 (8 * s2 + 4))]) hC lk_X3_44 (by omega) (cel_Ballots hs) rfl (c_X0_copyFrom hs hs2 g3) rfl rfl (Nat.le_of_ble_eq_true rfl) (by decide) dX3_copyFrom_77 ?_
  change V X E 2 80 [(0, .ref (E.2.1 (8 * s))), (1, .ref (E.2.1 (8 * s2)))] [] r3
  have hf := Option.some.inj hf; subst hf
  exact V_return (pc := 80) hR trivial dX3_copyFrom_80
def f_X1_add_12 (k : Nat) (s : Nat) (I : Mem) : Option (Mem) := (if inB (I (49) 1) 4 = true then (if Int32.toNatClampNeg (I 50 (Int32.toNatClampNeg (I (49) 1))) < 6 then (Option.bind (f_X3_copyFrom k (Int32.toNatClampNeg (I 50 (Int32.toNatClampNeg (I (49) 1)))) s I) (fun r5 => some (up2 r5 (49) 1 ((r5 (49) 1) + (nI 1))))) else none) else none)
set_option maxHeartbeats 4000000 in
set_option maxRecDepth 100000 in
theorem b_X1_add_12 {X : XT} {E : EN} {k : Nat} {s : Nat} {I : Mem} {r : Mem} (hC : Cx X E cX1_add 2 RX1 3 102) (hs : s < 6) (hR : Rt X E cX1_add none none r) (hf : f_X1_add_12 k s I = some r) : V X E 2 12 [(0, .ref (E.2.1 (49))), (1, .ref (E.2.1 (8 * s)))] [] I := by
  unfold f_X1_add_12 at hf
  refine V_aload_n (pc := 12) hC 0 dX1_add_12 rfl rfl ?_
  refine gf_X1_11 (pc := 13) hC dX1_add_13 ?_
  refine V_aload_n (pc := 16) hC 0 dX1_add_16 rfl rfl ?_
  refine gf_X1_18 (pc := 17) hC dX1_add_17 ?_
  obtain ⟨h3, hf⟩ := if_some hf
  obtain ⟨h4, hf⟩ := if_some hf
  refine V_ald50 (pc := 20) hC (inB_of h3) dX1_add_20 ?_
  refine V_aload_n (pc := 21) hC 1 dX1_add_21 rfl rfl ?_
  obtain ⟨r5, g5, hf⟩ := bind_some hf
  refine V_callV (pc := 22) (rest := []) (As := [.ref (E.2.1 (8 * s))]) hC lk_X1_25 (by omega) (cel_State h4) rfl (c_X3_copyFrom h4 hs g5) rfl rfl (Nat.le_of_ble_eq_true rfl) (by decide) dX1_add_22 ?_
  change V X E 2 25 [(0, .ref (E.2.1 (49))), (1, .ref (E.2.1 (8 * s)))] [] r5
  refine V_aload_n (pc := 25) hC 0 dX1_add_25 rfl rfl ?_
  refine V_dup (pc := 26) hC dX1_add_26 rfl ?_
  refine gf_X1_18 (pc := 27) hC dX1_add_27 ?_
  refine V_iconst (pc := 30) hC dX1_add_30 (v := (nI 1)) (by decide) ?_
  refine V_iadd (pc := 31) hC dX1_add_31 ?_
  refine pf_X1_18 (pc := 32) hC dX1_add_32 ?_
  have hf := Option.some.inj hf; subst hf
  exact V_return (pc := 35) hR trivial dX1_add_35
def f_X1_add (k : Nat) (s : Nat) (I : Mem) : Option (Mem) := (if (I (49) 1) = (nI 4) then (Option.bind (f_X1_dropOldest k I) (fun r2 => f_X1_add_12 k s r2)) else f_X1_add_12 k s I)
set_option maxHeartbeats 4000000 in
set_option maxRecDepth 100000 in
theorem c_X1_add {E : EN} {k : Nat} {s : Nat} {I : Mem} {r : Mem} (hs : s < 6) (hf : f_X1_add k s I = some r) : Ct E yX1_add cX1_add 2 none 3 102 [.ref (E.2.1 (49)), .ref (E.2.1 (8 * s))] I none r := by
  refine Ct_of (by decide) (Nat.le_of_ble_eq_true rfl) (fun X hC0 hR => ?_)
  have hC : Cx X E cX1_add 2 RX1 3 102 := hC0
  change V X E 2 0 [(0, .ref (E.2.1 (49))), (1, .ref (E.2.1 (8 * s)))] [] I
  unfold f_X1_add at hf
  refine V_aload_n (pc := 0) hC 0 dX1_add_0 rfl rfl ?_
  refine gf_X1_18 (pc := 1) hC dX1_add_1 ?_
  refine V_iconst (pc := 4) hC dX1_add_4 (v := (nI 4)) (by decide) ?_
  refine V_icmp_ne (pc := 5) (tgt := 12) hC dX1_add_5 (by decide) (fun c1 => ?_) (fun c1 => ?_)
  · have hf := ite_f hf c1
    exact b_X1_add_12 hC hs hR hf
  · have hf := ite_t hf c1
    refine V_aload_n (pc := 8) hC 0 dX1_add_8 rfl rfl ?_
    obtain ⟨r2, g2, hf⟩ := bind_some hf
    refine V_callV (pc := 9) (rest := []) (As := []) hC lk_X1_22 (by decide) cel_X1 rfl (c_X1_dropOldest  g2) rfl rfl (Nat.le_of_ble_eq_true rfl) (by decide) dX1_add_9 ?_
    change V X E 2 12 [(0, .ref (E.2.1 (49))), (1, .ref (E.2.1 (8 * s)))] [] r2
    exact b_X1_add_12 hC hs hR hf
def f_X1_takeLatest (k : Nat) (s : Nat) (I : Mem) : Option (Mem) := (if (I (49) 1) ≤ 0 then some I else (if inB ((up2 I (49) 1 ((I (49) 1) - (nI 1))) (49) 1) 4 = true then (if Int32.toNatClampNeg ((up2 I (49) 1 ((I (49) 1) - (nI 1))) 50 (Int32.toNatClampNeg ((up2 I (49) 1 ((I (49) 1) - (nI 1))) (49) 1))) < 6 then (Option.bind (f_X3_copyFrom k s (Int32.toNatClampNeg ((up2 I (49) 1 ((I (49) 1) - (nI 1))) 50 (Int32.toNatClampNeg ((up2 I (49) 1 ((I (49) 1) - (nI 1))) (49) 1)))) (up2 I (49) 1 ((I (49) 1) - (nI 1)))) (fun r4 => some r4)) else none) else none))
set_option maxHeartbeats 4000000 in
set_option maxRecDepth 100000 in
theorem c_X1_takeLatest {E : EN} {k : Nat} {s : Nat} {I : Mem} {r : Mem} (hs : s < 6) (hf : f_X1_takeLatest k s I = some r) : Ct E yX1_takeLatest cX1_takeLatest 2 none 3 102 [.ref (E.2.1 (49)), .ref (E.2.1 (8 * s))] I none r := by
  refine Ct_of (by decide) (Nat.le_of_ble_eq_true rfl) (fun X hC0 hR => ?_)
  have hC : Cx X E cX1_takeLatest 2 RX1 3 102 := hC0
  change V X E 2 0 [(0, .ref (E.2.1 (49))), (1, .ref (E.2.1 (8 * s)))] [] I
  unfold f_X1_takeLatest at hf
  refine V_aload_n (pc := 0) hC 0 dX1_takeLatest_0 rfl rfl ?_
  refine gf_X1_18 (pc := 1) hC dX1_takeLatest_1 ?_
  refine V_if_le (pc := 4) (tgt := 30) hC dX1_takeLatest_4 (by decide) (fun c1 => ?_) (fun c1 => ?_)
  · have hf := ite_t hf c1
    have hf := Option.some.inj hf; subst hf
    exact V_return (pc := 30) hR trivial dX1_takeLatest_30
  · have hf := ite_f hf c1
    refine V_aload_n (pc := 7) hC 0 dX1_takeLatest_7 rfl rfl ?_
    refine V_dup (pc := 8) hC dX1_takeLatest_8 rfl ?_
    refine gf_X1_18 (pc := 9) hC dX1_takeLatest_9 ?_
    refine V_iconst (pc := 12) hC dX1_takeLatest_12 (v := (nI 1)) (by decide) ?_
    refine V_isub (pc := 13) hC dX1_takeLatest_13 ?_
    refine pf_X1_18 (pc := 14) hC dX1_takeLatest_14 ?_
    refine V_aload_n (pc := 17) hC 1 dX1_takeLatest_17 rfl rfl ?_
    refine V_aload_n (pc := 18) hC 0 dX1_takeLatest_18 rfl rfl ?_
    refine gf_X1_11 (pc := 19) hC dX1_takeLatest_19 ?_
    refine V_aload_n (pc := 22) hC 0 dX1_takeLatest_22 rfl rfl ?_
    refine gf_X1_18 (pc := 23) hC dX1_takeLatest_23 ?_
    obtain ⟨h2, hf⟩ := if_some hf
    obtain ⟨h3, hf⟩ := if_some hf
    refine V_ald50 (pc := 26) hC (inB_of h2) dX1_takeLatest_26 ?_
    obtain ⟨r4, g4, hf⟩ := bind_some hf
    refine V_callV (pc := 27) (rest := []) (As := [.ref (E.2.1 (8 * (Int32.toNatClampNeg ((up2 I (49) 1 ((I (49) 1) - (nI 1))) 50 (Int32.toNatClampNeg ((up2 I (49) 1 ((I (49) 1) - (nI 1))) (49) 1))))))]) hC lk_X1_25 (by omega) (cel_State hs) rfl (c_X3_copyFrom hs h3 g4) rfl rfl (Nat.le_of_ble_eq_true rfl) (by decide) dX1_takeLatest_27 ?_
    change V X E 2 30 [(0, .ref (E.2.1 (49))), (1, .ref (E.2.1 (8 * s)))] [] r4
    have hf := Option.some.inj hf; subst hf
    exact V_return (pc := 30) hR trivial dX1_takeLatest_30
def f_X3_lowestBeside_2 (k : Nat) (s : Nat) (I : Mem) (v1 : Int32) : Nat → Int32 → Option (Int32)
  | 0, _ => none
  | n + 1, v2 => (if v1 ≤ v2 then some v1 else (if inB v1 10 = true then (if (f_X5_holds (I (8 * s + 2) (Int32.toNatClampNeg v1)) v2) = 0 then (f_X3_lowestBeside_2 k s I v1 n) (v2 + (nI 1)) else some v2) else none))
set_option maxHeartbeats 4000000 in
set_option maxRecDepth 100000 in
theorem b_X3_lowestBeside_2 {X : XT} {E : EN} {k : Nat} {s : Nat} {I : Mem} {v1 : Int32} {r : Int32} (hC : Cx X E cX3_lowestBeside 3 RX3 2 41) (hs : s < 6) (hR : Rt X E cX3_lowestBeside (some .int) (some (.int r)) I) : ∀ (n : Nat) (v2 : Int32), f_X3_lowestBeside_2 k s I v1 n v2 = some r → V X E 3 2 [(0, .ref (E.2.1 (8 * s))), (1, .int v1), (2, .int v2)] [] I := by
  intro n
  induction n with
  | zero =>
    intro v2 hf
    rw [f_X3_lowestBeside_2] at hf
    cases hf
  | succ n ih =>
    intro v2 hf
    rw [f_X3_lowestBeside_2] at hf
    refine V_iload_n (pc := 2) hC 2 dX3_lowestBeside_2 rfl rfl ?_
    refine V_iload_n (pc := 3) hC 1 dX3_lowestBeside_3 rfl rfl ?_
    refine V_icmp_ge (pc := 4) (tgt := 28) hC dX3_lowestBeside_4 (by decide) (fun c1 => ?_) (fun c1 => ?_)
    · have hf := ite_t hf c1
      refine V_iload_n (pc := 28) hC 1 dX3_lowestBeside_28 rfl rfl ?_
      have hf := Option.some.inj hf; subst hf
      exact V_ireturn (pc := 29) hR rfl dX3_lowestBeside_29
    · have hf := ite_f hf c1
      refine V_aload_n (pc := 7) hC 0 dX3_lowestBeside_7 rfl rfl ?_
      refine gf_X3_19 (pc := 8) hs hC dX3_lowestBeside_8 ?_
      refine V_iload_n (pc := 11) hC 1 dX3_lowestBeside_11 rfl rfl ?_
      obtain ⟨h2, hf⟩ := if_some hf
      refine V_iald (pc := 12) hC (ia_st hs (by decide) (by decide)) (inB_of h2) dX3_lowestBeside_12 ?_
      refine V_iload_n (pc := 13) hC 2 dX3_lowestBeside_13 rfl rfl ?_
      refine V_callN (pc := 14) (rest := []) (As := [.int (I (8 * s + 2) (Int32.toNatClampNeg v1)), .int v2]) hC lk_X3_56 (c_X5_holds  rfl) rfl rfl (Nat.le_of_ble_eq_true rfl) (by decide) dX3_lowestBeside_14 ?_
      change V X E 3 17 [(0, .ref (E.2.1 (8 * s))), (1, .int v1), (2, .int v2)] [.int (f_X5_holds (I (8 * s + 2) (Int32.toNatClampNeg v1)) v2)] I
      refine V_if_eq (pc := 17) (tgt := 22) hC dX3_lowestBeside_17 (by decide) (fun c3 => ?_) (fun c3 => ?_)
      · have hf := ite_t hf c3
        refine V_iinc (pc := 22) (lv' := [(2, .int (v2 + (nI 1))), (0, .ref (E.2.1 (8 * s))), (1, .int v1)]) hC (nI 1) 2 dX3_lowestBeside_22 rfl (by decide) (by decide) rfl ?_
        refine V_goto (pc := 25) (tgt := 2) hC dX3_lowestBeside_25 (by decide) ?_
        refine V_sub (pc := 2) (lv' := [(0, .ref (E.2.1 (8 * s))), (1, .int v1), (2, .int (v2 + (nI 1)))]) [1, 2, 0] rfl ?_
        exact ih (v2 + (nI 1)) hf
      · have hf := ite_f hf c3
        refine V_iload_n (pc := 20) hC 2 dX3_lowestBeside_20 rfl rfl ?_
        have hf := Option.some.inj hf; subst hf
        exact V_ireturn (pc := 21) hR rfl dX3_lowestBeside_21
def f_X3_lowestBeside (k : Nat) (s : Nat) (v1 : Int32) (I : Mem) : Option (Int32) := f_X3_lowestBeside_2 k s I v1 k (nI 0)
set_option maxHeartbeats 4000000 in
set_option maxRecDepth 100000 in
theorem c_X3_lowestBeside {E : EN} {k : Nat} {s : Nat} {v1 : Int32} {I : Mem} {r : Int32} (hs : s < 6) (hf : f_X3_lowestBeside k s v1 I = some r) : Ct E yX3_lowestBeside cX3_lowestBeside 3 (some .int) 2 41 [.ref (E.2.1 (8 * s)), .int v1] I (some (.int r)) I := by
  refine Ct_of (by decide) (Nat.le_of_ble_eq_true rfl) (fun X hC0 hR => ?_)
  have hC : Cx X E cX3_lowestBeside 3 RX3 2 41 := hC0
  change V X E 3 0 [(0, .ref (E.2.1 (8 * s))), (1, .int v1)] [] I
  unfold f_X3_lowestBeside at hf
  refine V_iconst (pc := 0) hC dX3_lowestBeside_0 (v := (nI 0)) (by decide) ?_
  refine V_istore_n (pc := 1) (lv' := [(2, .int (nI 0)), (0, .ref (E.2.1 (8 * s))), (1, .int v1)]) hC dX3_lowestBeside_1 rfl (by decide) rfl ?_
  refine V_sub (pc := 2) (lv' := [(0, .ref (E.2.1 (8 * s))), (1, .int v1), (2, .int (nI 0))]) [1, 2, 0] rfl ?_
  exact b_X3_lowestBeside_2 hC hs hR k (nI 0) hf
def f_X3_isLowest (k : Nat) (s : Nat) (v1 : Int32) (I : Mem) : Option (Int32) := (Option.bind (f_X3_lowestBeside k s v1 I) (fun r1 => (if r1 = v1 then some (nI 1) else some (nI 0))))
set_option maxHeartbeats 4000000 in
set_option maxRecDepth 100000 in
theorem c_X3_isLowest {E : EN} {k : Nat} {s : Nat} {v1 : Int32} {I : Mem} {r : Int32} (hs : s < 6) (hf : f_X3_isLowest k s v1 I = some r) : Ct E yX3_isLowest cX3_isLowest 2 (some .boolean) 3 63 [.ref (E.2.1 (8 * s)), .int v1] I (some (.int r)) I := by
  refine Ct_of (by decide) (Nat.le_of_ble_eq_true rfl) (fun X hC0 hR => ?_)
  have hC : Cx X E cX3_isLowest 2 RX3 3 63 := hC0
  change V X E 2 0 [(0, .ref (E.2.1 (8 * s))), (1, .int v1)] [] I
  unfold f_X3_isLowest at hf
  refine V_aload_n (pc := 0) hC 0 dX3_isLowest_0 rfl rfl ?_
  refine V_iload_n (pc := 1) hC 1 dX3_isLowest_1 rfl rfl ?_
  obtain ⟨r1, g1, hf⟩ := bind_some hf
  refine V_callV (pc := 2) (rest := []) (As := [.int v1]) hC lk_X3_60 (by omega) (cel_State hs) rfl (c_X3_lowestBeside hs g1) rfl rfl (Nat.le_of_ble_eq_true rfl) (by decide) dX3_isLowest_2 ?_
  change V X E 2 5 [(0, .ref (E.2.1 (8 * s))), (1, .int v1)] [.int r1] I
  refine V_iload_n (pc := 5) hC 1 dX3_isLowest_5 rfl rfl ?_
  refine V_icmp_ne (pc := 6) (tgt := 13) hC dX3_isLowest_6 (by decide) (fun c2 => ?_) (fun c2 => ?_)
  · have hf := ite_f hf c2
    refine V_iconst (pc := 13) hC dX3_isLowest_13 (v := (nI 0)) (by decide) ?_
    have hf := Option.some.inj hf; subst hf
    exact V_ireturn (pc := 14) hR (nar_z (by decide)) dX3_isLowest_14
  · have hf := ite_t hf c2
    refine V_iconst (pc := 9) hC dX3_isLowest_9 (v := (nI 1)) (by decide) ?_
    refine V_goto (pc := 10) (tgt := 14) hC dX3_isLowest_10 (by decide) ?_
    have hf := Option.some.inj hf; subst hf
    exact V_ireturn (pc := 14) hR (nar_z (by decide)) dX3_isLowest_14
def f_X3_weightOf_4 (k : Nat) (s : Nat) (I : Mem) (v1 : Int32) : Nat → Int32 → Int32 → Option (Int32)
  | 0, _, _ => none
  | n + 1, v2, v3 => (if (I (8 * s) 0) ≤ v3 then some v2 else (if (f_X5_holds v1 v3) = 0 then (f_X3_weightOf_4 k s I v1 n) v2 (v3 + (nI 1)) else (if inB v3 10 = true then (f_X3_weightOf_4 k s I v1 n) (v2 + (I (8 * s + 1) (Int32.toNatClampNeg v3))) (v3 + (nI 1)) else none)))
set_option maxHeartbeats 4000000 in
set_option maxRecDepth 100000 in
theorem b_X3_weightOf_4 {X : XT} {E : EN} {k : Nat} {s : Nat} {I : Mem} {v1 : Int32} {r : Int32} (hC : Cx X E cX3_weightOf 4 RX3 2 41) (hs : s < 6) (hR : Rt X E cX3_weightOf (some .int) (some (.int r)) I) : ∀ (n : Nat) (v2 : Int32) (v3 : Int32), f_X3_weightOf_4 k s I v1 n v2 v3 = some r → V X E 4 4 [(0, .ref (E.2.1 (8 * s))), (1, .int v1), (2, .int v2), (3, .int v3)] [] I := by
  intro n
  induction n with
  | zero =>
    intro v2 v3 hf
    rw [f_X3_weightOf_4] at hf
    cases hf
  | succ n ih =>
    intro v2 v3 hf
    rw [f_X3_weightOf_4] at hf
    refine V_iload_n (pc := 4) hC 3 dX3_weightOf_4 rfl rfl ?_
    refine V_aload_n (pc := 5) hC 0 dX3_weightOf_5 rfl rfl ?_
    refine gf_X3_32 (pc := 6) hs hC dX3_weightOf_6 ?_
    refine V_icmp_ge (pc := 9) (tgt := 35) hC dX3_weightOf_9 (by decide) (fun c1 => ?_) (fun c1 => ?_)
    · have hf := ite_t hf c1
      refine V_iload_n (pc := 35) hC 2 dX3_weightOf_35 rfl rfl ?_
      have hf := Option.some.inj hf; subst hf
      exact V_ireturn (pc := 36) hR rfl dX3_weightOf_36
    · have hf := ite_f hf c1
      refine V_iload_n (pc := 12) hC 1 dX3_weightOf_12 rfl rfl ?_
      refine V_iload_n (pc := 13) hC 3 dX3_weightOf_13 rfl rfl ?_
      refine V_callN (pc := 14) (rest := []) (As := [.int v1, .int v3]) hC lk_X3_56 (c_X5_holds  rfl) rfl rfl (Nat.le_of_ble_eq_true rfl) (by decide) dX3_weightOf_14 ?_
      change V X E 4 17 [(0, .ref (E.2.1 (8 * s))), (1, .int v1), (2, .int v2), (3, .int v3)] [.int (f_X5_holds v1 v3)] I
      refine V_if_eq (pc := 17) (tgt := 29) hC dX3_weightOf_17 (by decide) (fun c2 => ?_) (fun c2 => ?_)
      · have hf := ite_t hf c2
        refine V_iinc (pc := 29) (lv' := [(3, .int (v3 + (nI 1))), (0, .ref (E.2.1 (8 * s))), (1, .int v1), (2, .int v2)]) hC (nI 1) 3 dX3_weightOf_29 rfl (by decide) (by decide) rfl ?_
        refine V_goto (pc := 32) (tgt := 4) hC dX3_weightOf_32 (by decide) ?_
        refine V_sub (pc := 4) (lv' := [(0, .ref (E.2.1 (8 * s))), (1, .int v1), (2, .int v2), (3, .int (v3 + (nI 1)))]) [1, 2, 3, 0] rfl ?_
        exact ih v2 (v3 + (nI 1)) hf
      · have hf := ite_f hf c2
        refine V_iload_n (pc := 20) hC 2 dX3_weightOf_20 rfl rfl ?_
        refine V_aload_n (pc := 21) hC 0 dX3_weightOf_21 rfl rfl ?_
        refine gf_X3_15 (pc := 22) hs hC dX3_weightOf_22 ?_
        refine V_iload_n (pc := 25) hC 3 dX3_weightOf_25 rfl rfl ?_
        obtain ⟨h3, hf⟩ := if_some hf
        refine V_iald (pc := 26) hC (ia_st hs (by decide) (by decide)) (inB_of h3) dX3_weightOf_26 ?_
        refine V_iadd (pc := 27) hC dX3_weightOf_27 ?_
        refine V_istore_n (pc := 28) (lv' := [(2, .int (v2 + (I (8 * s + 1) (Int32.toNatClampNeg v3)))), (0, .ref (E.2.1 (8 * s))), (1, .int v1), (3, .int v3)]) hC dX3_weightOf_28 rfl (by decide) rfl ?_
        refine V_iinc (pc := 29) (lv' := [(3, .int (v3 + (nI 1))), (2, .int (v2 + (I (8 * s + 1) (Int32.toNatClampNeg v3)))), (0, .ref (E.2.1 (8 * s))), (1, .int v1)]) hC (nI 1) 3 dX3_weightOf_29 rfl (by decide) (by decide) rfl ?_
        refine V_goto (pc := 32) (tgt := 4) hC dX3_weightOf_32 (by decide) ?_
        refine V_sub (pc := 4) (lv' := [(0, .ref (E.2.1 (8 * s))), (1, .int v1), (2, .int (v2 + (I (8 * s + 1) (Int32.toNatClampNeg v3)))), (3, .int (v3 + (nI 1)))]) [2, 3, 1, 0] rfl ?_
        exact ih (v2 + (I (8 * s + 1) (Int32.toNatClampNeg v3))) (v3 + (nI 1)) hf
def f_X3_weightOf (k : Nat) (s : Nat) (v1 : Int32) (I : Mem) : Option (Int32) := f_X3_weightOf_4 k s I v1 k (nI 0) (nI 0)
set_option maxHeartbeats 4000000 in
set_option maxRecDepth 100000 in
theorem c_X3_weightOf {E : EN} {k : Nat} {s : Nat} {v1 : Int32} {I : Mem} {r : Int32} (hs : s < 6) (hf : f_X3_weightOf k s v1 I = some r) : Ct E yX3_weightOf cX3_weightOf 4 (some .int) 2 41 [.ref (E.2.1 (8 * s)), .int v1] I (some (.int r)) I := by
  refine Ct_of (by decide) (Nat.le_of_ble_eq_true rfl) (fun X hC0 hR => ?_)
  have hC : Cx X E cX3_weightOf 4 RX3 2 41 := hC0
  change V X E 4 0 [(0, .ref (E.2.1 (8 * s))), (1, .int v1)] [] I
  unfold f_X3_weightOf at hf
  refine V_iconst (pc := 0) hC dX3_weightOf_0 (v := (nI 0)) (by decide) ?_
  refine V_istore_n (pc := 1) (lv' := [(2, .int (nI 0)), (0, .ref (E.2.1 (8 * s))), (1, .int v1)]) hC dX3_weightOf_1 rfl (by decide) rfl ?_
  refine V_iconst (pc := 2) hC dX3_weightOf_2 (v := (nI 0)) (by decide) ?_
  refine V_istore_n (pc := 3) (lv' := [(3, .int (nI 0)), (2, .int (nI 0)), (0, .ref (E.2.1 (8 * s))), (1, .int v1)]) hC dX3_weightOf_3 rfl (by decide) rfl ?_
  refine V_sub (pc := 4) (lv' := [(0, .ref (E.2.1 (8 * s))), (1, .int v1), (2, .int (nI 0)), (3, .int (nI 0))]) [2, 3, 1, 0] rfl ?_
  exact b_X3_weightOf_4 hC hs hR k (nI 0) (nI 0) hf
def f_X3_has (s : Nat) (v1 : Int32) (I : Mem) : Int32 := (if v1 < 0 then (nI 0) else (if (I (8 * s) 0) ≤ v1 then (nI 0) else (nI 1)))
set_option maxHeartbeats 4000000 in
set_option maxRecDepth 100000 in
theorem c_X3_has {E : EN} {s : Nat} {v1 : Int32} {I : Mem} {r : Int32} (hs : s < 6) (hf : f_X3_has s v1 I = r) : Ct E yX3_has cX3_has 2 (some .boolean) 0 0 [.ref (E.2.1 (8 * s)), .int v1] I (some (.int r)) I := by
  refine Ct_of (by decide) (Nat.le_of_ble_eq_true rfl) (fun X hC0 hR => ?_)
  have hC : Cx X E cX3_has 2 RX3 0 0 := hC0
  change V X E 2 0 [(0, .ref (E.2.1 (8 * s))), (1, .int v1)] [] I
  unfold f_X3_has at hf
  refine V_iload_n (pc := 0) hC 1 dX3_has_0 rfl rfl ?_
  refine V_if_lt (pc := 1) (tgt := 16) hC dX3_has_1 (by decide) (fun c1 => ?_) (fun c1 => ?_)
  · have hf := ite_t hf c1
    refine V_iconst (pc := 16) hC dX3_has_16 (v := (nI 0)) (by decide) ?_
    subst hf
    exact V_ireturn (pc := 17) hR (nar_z (by decide)) dX3_has_17
  · have hf := ite_f hf c1
    refine V_iload_n (pc := 4) hC 1 dX3_has_4 rfl rfl ?_
    refine V_aload_n (pc := 5) hC 0 dX3_has_5 rfl rfl ?_
    refine gf_X3_32 (pc := 6) hs hC dX3_has_6 ?_
    refine V_icmp_ge (pc := 9) (tgt := 16) hC dX3_has_9 (by decide) (fun c2 => ?_) (fun c2 => ?_)
    · have hf := ite_t hf c2
      refine V_iconst (pc := 16) hC dX3_has_16 (v := (nI 0)) (by decide) ?_
      subst hf
      exact V_ireturn (pc := 17) hR (nar_z (by decide)) dX3_has_17
    · have hf := ite_f hf c2
      refine V_iconst (pc := 12) hC dX3_has_12 (v := (nI 1)) (by decide) ?_
      refine V_goto (pc := 13) (tgt := 17) hC dX3_has_13 (by decide) ?_
      subst hf
      exact V_ireturn (pc := 17) hR (nar_z (by decide)) dX3_has_17
def f_X3_everyone (s : Nat) (I : Mem) : Int32 := (((nI 1) <<< ((I (8 * s) 0) &&& 31)) - (nI 1))
set_option maxHeartbeats 4000000 in
set_option maxRecDepth 100000 in
theorem c_X3_everyone {E : EN} {s : Nat} {I : Mem} {r : Int32} (hs : s < 6) (hf : f_X3_everyone s I = r) : Ct E yX3_everyone cX3_everyone 1 (some .int) 0 0 [.ref (E.2.1 (8 * s))] I (some (.int r)) I := by
  refine Ct_of (by decide) (Nat.le_of_ble_eq_true rfl) (fun X hC0 hR => ?_)
  have hC : Cx X E cX3_everyone 1 RX3 0 0 := hC0
  change V X E 1 0 [(0, .ref (E.2.1 (8 * s)))] [] I
  unfold f_X3_everyone at hf
  refine V_iconst (pc := 0) hC dX3_everyone_0 (v := (nI 1)) (by decide) ?_
  refine V_aload_n (pc := 1) hC 0 dX3_everyone_1 rfl rfl ?_
  refine gf_X3_32 (pc := 2) hs hC dX3_everyone_2 ?_
  refine V_ishl (pc := 5) hC dX3_everyone_5 ?_
  refine V_iconst (pc := 6) hC dX3_everyone_6 (v := (nI 1)) (by decide) ?_
  refine V_isub (pc := 7) hC dX3_everyone_7 ?_
  subst hf
  exact V_ireturn (pc := 8) hR rfl dX3_everyone_8
def f_X3_append (k : Nat) (s : Nat) (v1 : Int32) (I : Mem) : Option (Int32 × Mem) := (if (nI 10) ≤ (I (8 * s) 0) then some (I (8 * s) 0, I) else (if inB (I (8 * s) 0) 10 = true then (if inB (I (8 * s) 0) 10 = true then (Option.bind (some (up2 (up2 I (8 * s + 1) (Int32.toNatClampNeg (I (8 * s) 0)) v1) (8 * s + 2) (Int32.toNatClampNeg (I (8 * s) 0)) (f_X5_bit (I (8 * s) 0)))) (fun J4 => (if inB (I (8 * s) 0) 10 = true then (Option.bind (some (up2 (up2 J4 (8 * s + 3) (Int32.toNatClampNeg (I (8 * s) 0)) (nI 0)) (8 * s) 0 (((up2 J4 (8 * s + 3) (Int32.toNatClampNeg (I (8 * s) 0)) (nI 0)) (8 * s) 0) + (nI 1)))) (fun J6 => some (I (8 * s) 0, J6))) else none))) else none) else none))
set_option maxHeartbeats 4000000 in
set_option maxRecDepth 100000 in
theorem c_X3_append {E : EN} {k : Nat} {s : Nat} {v1 : Int32} {I : Mem} {r : Int32 × Mem} (hs : s < 6) (hf : f_X3_append k s v1 I = some r) : Ct E yX3_append cX3_append 3 (some .int) 1 20 [.ref (E.2.1 (8 * s)), .int v1] I (some (.int r.1)) r.2 := by
  refine Ct_of (by decide) (Nat.le_of_ble_eq_true rfl) (fun X hC0 hR => ?_)
  have hC : Cx X E cX3_append 3 RX3 1 20 := hC0
  change V X E 3 0 [(0, .ref (E.2.1 (8 * s))), (1, .int v1)] [] I
  unfold f_X3_append at hf
  refine V_aload_n (pc := 0) hC 0 dX3_append_0 rfl rfl ?_
  refine gf_X3_32 (pc := 1) hs hC dX3_append_1 ?_
  refine V_istore_n (pc := 4) (lv' := [(2, .int (I (8 * s) 0)), (0, .ref (E.2.1 (8 * s))), (1, .int v1)]) hC dX3_append_4 rfl (by decide) rfl ?_
  refine V_iload_n (pc := 5) hC 0 dX3_append_5 rfl rfl ?_
  refine V_bipush (pc := 6) hC dX3_append_6 (v := (nI 10)) (by decide) ?_
  refine V_icmp_ge (pc := 8) (tgt := 45) hC dX3_append_8 (by decide) (fun c1 => ?_) (fun c1 => ?_)
  · have hf := ite_t hf c1
    refine V_iload_n (pc := 45) hC 0 dX3_append_45 rfl rfl ?_
    have hf := Option.some.inj hf; subst hf
    exact V_ireturn (pc := 46) hR rfl dX3_append_46
  · have hf := ite_f hf c1
    refine V_aload_n (pc := 11) hC 1 dX3_append_11 rfl rfl ?_
    refine gf_X3_15 (pc := 12) hs hC dX3_append_12 ?_
    refine V_iload_n (pc := 15) hC 0 dX3_append_15 rfl rfl ?_
    refine V_iload_n (pc := 16) hC 2 dX3_append_16 rfl rfl ?_
    obtain ⟨h2, hf⟩ := if_some hf
    refine V_iast (pc := 17) hC (ia_st hs (by decide) (by decide)) (inB_of h2) dX3_append_17 ?_
    refine V_aload_n (pc := 18) hC 1 dX3_append_18 rfl rfl ?_
    refine gf_X3_19 (pc := 19) hs hC dX3_append_19 ?_
    refine V_iload_n (pc := 22) hC 0 dX3_append_22 rfl rfl ?_
    refine V_iload_n (pc := 23) hC 0 dX3_append_23 rfl rfl ?_
    refine V_callN (pc := 24) (rest := [.int (I (8 * s) 0), .ref (E.2.1 (8 * s + 2))]) (As := [.int (I (8 * s) 0)]) hC lk_X3_48 (c_X5_bit  rfl) rfl rfl (Nat.le_of_ble_eq_true rfl) (by decide) dX3_append_24 ?_
    change V X E 3 27 [(2, .int (I (8 * s) 0)), (0, .ref (E.2.1 (8 * s))), (1, .int v1)] [.int (f_X5_bit (I (8 * s) 0)), .int (I (8 * s) 0), .ref (E.2.1 (8 * s + 2))] (up2 I (8 * s + 1) (Int32.toNatClampNeg (I (8 * s) 0)) v1)
    obtain ⟨h3, hf⟩ := if_some hf
    obtain ⟨J4, eJ4, hf⟩ := bind_some hf
    have eJ4 := Option.some.inj eJ4
    refine V_iast (pc := 27) hC (ia_st hs (by decide) (by decide)) (inB_of h3) dX3_append_27 ?_
    rw [eJ4]
    refine V_aload_n (pc := 28) hC 1 dX3_append_28 rfl rfl ?_
    refine gf_X3_22 (pc := 29) hs hC dX3_append_29 ?_
    refine V_iload_n (pc := 32) hC 0 dX3_append_32 rfl rfl ?_
    refine V_iconst (pc := 33) hC dX3_append_33 (v := (nI 0)) (by decide) ?_
    obtain ⟨h5, hf⟩ := if_some hf
    refine V_iast (pc := 34) hC (ia_st hs (by decide) (by decide)) (inB_of h5) dX3_append_34 ?_
    refine V_aload_n (pc := 35) hC 1 dX3_append_35 rfl rfl ?_
    refine V_dup (pc := 36) hC dX3_append_36 rfl ?_
    refine gf_X3_32 (pc := 37) hs hC dX3_append_37 ?_
    refine V_iconst (pc := 40) hC dX3_append_40 (v := (nI 1)) (by decide) ?_
    refine V_iadd (pc := 41) hC dX3_append_41 ?_
    obtain ⟨J6, eJ6, hf⟩ := bind_some hf
    have eJ6 := Option.some.inj eJ6
    refine pf_X3_32 (pc := 42) hs hC dX3_append_42 ?_
    rw [eJ6]
    refine V_iload_n (pc := 45) hC 0 dX3_append_45 rfl rfl ?_
    have hf := Option.some.inj hf; subst hf
    exact V_ireturn (pc := 46) hR rfl dX3_append_46
def f_X3_closeUp (v0 : Int32) (v1 : Int32) : Int32 := ((v0 &&& ((f_X5_bit v1) - (nI 1))) ||| ((v0 >>> ((nI 1) &&& 31)) &&& (((f_X5_bit v1) - (nI 1)) ^^^ (-1 : Int32))))
set_option maxHeartbeats 4000000 in
set_option maxRecDepth 100000 in
theorem c_X3_closeUp {E : EN} {v0 : Int32} {v1 : Int32} {I : Mem} {r : Int32} (hf : f_X3_closeUp v0 v1 = r) : Ct E yX3_closeUp cX3_closeUp 3 (some .int) 1 20 [.int v0, .int v1] I (some (.int r)) I := by
  refine Ct_of (by decide) (Nat.le_of_ble_eq_true rfl) (fun X hC0 hR => ?_)
  have hC : Cx X E cX3_closeUp 3 RX3 1 20 := hC0
  change V X E 3 0 [(0, .int v0), (1, .int v1)] [] I
  unfold f_X3_closeUp at hf
  refine V_iload_n (pc := 0) hC 1 dX3_closeUp_0 rfl rfl ?_
  refine V_callN (pc := 1) (rest := []) (As := [.int v1]) hC lk_X3_48 (c_X5_bit  rfl) rfl rfl (Nat.le_of_ble_eq_true rfl) (by decide) dX3_closeUp_1 ?_
  change V X E 3 4 [(0, .int v0), (1, .int v1)] [.int (f_X5_bit v1)] I
  refine V_iconst (pc := 4) hC dX3_closeUp_4 (v := (nI 1)) (by decide) ?_
  refine V_isub (pc := 5) hC dX3_closeUp_5 ?_
  refine V_istore_n (pc := 6) (lv' := [(2, .int ((f_X5_bit v1) - (nI 1))), (0, .int v0), (1, .int v1)]) hC dX3_closeUp_6 rfl (by decide) rfl ?_
  refine V_iload_n (pc := 7) hC 1 dX3_closeUp_7 rfl rfl ?_
  refine V_iload_n (pc := 8) hC 0 dX3_closeUp_8 rfl rfl ?_
  refine V_iand (pc := 9) hC dX3_closeUp_9 ?_
  refine V_iload_n (pc := 10) hC 1 dX3_closeUp_10 rfl rfl ?_
  refine V_iconst (pc := 11) hC dX3_closeUp_11 (v := (nI 1)) (by decide) ?_
  refine V_ishr (pc := 12) hC dX3_closeUp_12 ?_
  refine V_iload_n (pc := 13) hC 0 dX3_closeUp_13 rfl rfl ?_
  refine V_iconst (pc := 14) hC dX3_closeUp_14 (v := (-1 : Int32)) (by decide) ?_
  refine V_ixor (pc := 15) hC dX3_closeUp_15 ?_
  refine V_iand (pc := 16) hC dX3_closeUp_16 ?_
  refine V_ior (pc := 17) hC dX3_closeUp_17 ?_
  subst hf
  exact V_ireturn (pc := 18) hR rfl dX3_closeUp_18
def f_X3_drop_72 (k : Nat) (s : Nat) (v1 : Int32) : Nat → Int32 → Mem → Option (Mem)
  | 0, _, _ => none
  | n + 1, v2, I => (if (I (8 * s) 0) ≤ v2 then some (up2 I (8 * s) 2 (f_X3_closeUp (I (8 * s) 2) v1)) else (if inB v2 10 = true then (if inB v2 10 = true then (Option.bind (some (up2 I (8 * s + 2) (Int32.toNatClampNeg v2) (f_X3_closeUp (I (8 * s + 2) (Int32.toNatClampNeg v2)) v1))) (fun J14 => (f_X3_drop_72 k s v1 n) (v2 + (nI 1)) J14)) else none) else none))
set_option maxHeartbeats 4000000 in
set_option maxRecDepth 100000 in
theorem b_X3_drop_72 {X : XT} {E : EN} {k : Nat} {s : Nat} {v1 : Int32} {r : Mem} (hC : Cx X E cX3_drop 3 RX3 2 42) (hs : s < 6) (hR : Rt X E cX3_drop none none r) : ∀ (n : Nat) (v2 : Int32) (I : Mem), f_X3_drop_72 k s v1 n v2 I = some r → V X E 3 72 [(0, .ref (E.2.1 (8 * s))), (1, .int v1), (2, .int v2)] [] I := by
  intro n
  induction n with
  | zero =>
    intro v2 I hf
    rw [f_X3_drop_72] at hf
    cases hf
  | succ n ih =>
    intro v2 I hf
    rw [f_X3_drop_72] at hf
    refine V_iload_n (pc := 72) hC 2 dX3_drop_72 rfl rfl ?_
    refine V_aload_n (pc := 73) hC 0 dX3_drop_73 rfl rfl ?_
    refine gf_X3_32 (pc := 74) hs hC dX3_drop_74 ?_
    refine V_icmp_ge (pc := 77) (tgt := 102) hC dX3_drop_77 (by decide) (fun c11 => ?_) (fun c11 => ?_)
    · have hf := ite_t hf c11
      refine V_aload_n (pc := 102) hC 0 dX3_drop_102 rfl rfl ?_
      refine V_aload_n (pc := 103) hC 0 dX3_drop_103 rfl rfl ?_
      refine gf_X3_35 (pc := 104) hs hC dX3_drop_104 ?_
      refine V_iload_n (pc := 107) hC 1 dX3_drop_107 rfl rfl ?_
      refine V_callS (pc := 108) (rest := [.ref (E.2.1 (8 * s))]) (As := [.int (I (8 * s) 2), .int v1]) hC lk_X3_52 (c_X3_closeUp  rfl) rfl rfl (Nat.le_of_ble_eq_true rfl) (by decide) dX3_drop_108 ?_
      change V X E 3 111 [(0, .ref (E.2.1 (8 * s))), (1, .int v1), (2, .int v2)] [.int (f_X3_closeUp (I (8 * s) 2) v1), .ref (E.2.1 (8 * s))] I
      refine pf_X3_35 (pc := 111) hs hC dX3_drop_111 ?_
      have hf := Option.some.inj hf; subst hf
      exact V_return (pc := 114) hR trivial dX3_drop_114
    · have hf := ite_f hf c11
      refine V_aload_n (pc := 80) hC 0 dX3_drop_80 rfl rfl ?_
      refine gf_X3_19 (pc := 81) hs hC dX3_drop_81 ?_
      refine V_iload_n (pc := 84) hC 2 dX3_drop_84 rfl rfl ?_
      refine V_aload_n (pc := 85) hC 0 dX3_drop_85 rfl rfl ?_
      refine gf_X3_19 (pc := 86) hs hC dX3_drop_86 ?_
      refine V_iload_n (pc := 89) hC 2 dX3_drop_89 rfl rfl ?_
      obtain ⟨h12, hf⟩ := if_some hf
      refine V_iald (pc := 90) hC (ia_st hs (by decide) (by decide)) (inB_of h12) dX3_drop_90 ?_
      refine V_iload_n (pc := 91) hC 1 dX3_drop_91 rfl rfl ?_
      refine V_callS (pc := 92) (rest := [.int v2, .ref (E.2.1 (8 * s + 2))]) (As := [.int (I (8 * s + 2) (Int32.toNatClampNeg v2)), .int v1]) hC lk_X3_52 (c_X3_closeUp  rfl) rfl rfl (Nat.le_of_ble_eq_true rfl) (by decide) dX3_drop_92 ?_
      change V X E 3 95 [(0, .ref (E.2.1 (8 * s))), (1, .int v1), (2, .int v2)] [.int (f_X3_closeUp (I (8 * s + 2) (Int32.toNatClampNeg v2)) v1), .int v2, .ref (E.2.1 (8 * s + 2))] I
      obtain ⟨h13, hf⟩ := if_some hf
      obtain ⟨J14, eJ14, hf⟩ := bind_some hf
      have eJ14 := Option.some.inj eJ14
      refine V_iast (pc := 95) hC (ia_st hs (by decide) (by decide)) (inB_of h13) dX3_drop_95 ?_
      rw [eJ14]
      refine V_iinc (pc := 96) (lv' := [(2, .int (v2 + (nI 1))), (0, .ref (E.2.1 (8 * s))), (1, .int v1)]) hC (nI 1) 2 dX3_drop_96 rfl (by decide) (by decide) rfl ?_
      refine V_goto (pc := 99) (tgt := 72) hC dX3_drop_99 (by decide) ?_
      refine V_sub (pc := 72) (lv' := [(0, .ref (E.2.1 (8 * s))), (1, .int v1), (2, .int (v2 + (nI 1)))]) [1, 2, 0] rfl ?_
      exact ih (v2 + (nI 1)) J14 hf
def f_X3_drop_4 (k : Nat) (s : Nat) (v1 : Int32) : Nat → Int32 → Mem → Option (Mem)
  | 0, _, _ => none
  | n + 1, v2, I => (if (I (8 * s) 0) ≤ v2 then f_X3_drop_72 k s v1 k (nI 0) (up2 I (8 * s) 0 ((I (8 * s) 0) - (nI 1))) else (if inB v2 10 = true then (if inB (v2 - (nI 1)) 10 = true then (Option.bind (some (up2 I (8 * s + 1) (Int32.toNatClampNeg (v2 - (nI 1))) (I (8 * s + 1) (Int32.toNatClampNeg v2)))) (fun J4 => (if inB v2 10 = true then (if inB (v2 - (nI 1)) 10 = true then (Option.bind (some (up2 J4 (8 * s + 2) (Int32.toNatClampNeg (v2 - (nI 1))) (J4 (8 * s + 2) (Int32.toNatClampNeg v2)))) (fun J7 => (if inB v2 10 = true then (if inB (v2 - (nI 1)) 10 = true then (Option.bind (some (up2 J7 (8 * s + 3) (Int32.toNatClampNeg (v2 - (nI 1))) (J7 (8 * s + 3) (Int32.toNatClampNeg v2)))) (fun J10 => (f_X3_drop_4 k s v1 n) (v2 + (nI 1)) J10)) else none) else none))) else none) else none))) else none) else none))
set_option maxHeartbeats 4000000 in
set_option maxRecDepth 100000 in
theorem b_X3_drop_4 {X : XT} {E : EN} {k : Nat} {s : Nat} {v1 : Int32} {r : Mem} (hC : Cx X E cX3_drop 3 RX3 2 42) (hs : s < 6) (hR : Rt X E cX3_drop none none r) : ∀ (n : Nat) (v2 : Int32) (I : Mem), f_X3_drop_4 k s v1 n v2 I = some r → V X E 3 4 [(0, .ref (E.2.1 (8 * s))), (1, .int v1), (2, .int v2)] [] I := by
  intro n
  induction n with
  | zero =>
    intro v2 I hf
    rw [f_X3_drop_4] at hf
    cases hf
  | succ n ih =>
    intro v2 I hf
    rw [f_X3_drop_4] at hf
    refine V_iload_n (pc := 4) hC 2 dX3_drop_4 rfl rfl ?_
    refine V_aload_n (pc := 5) hC 0 dX3_drop_5 rfl rfl ?_
    refine gf_X3_32 (pc := 6) hs hC dX3_drop_6 ?_
    refine V_icmp_ge (pc := 9) (tgt := 60) hC dX3_drop_9 (by decide) (fun c1 => ?_) (fun c1 => ?_)
    · have hf := ite_t hf c1
      refine V_aload_n (pc := 60) hC 0 dX3_drop_60 rfl rfl ?_
      refine V_dup (pc := 61) hC dX3_drop_61 rfl ?_
      refine gf_X3_32 (pc := 62) hs hC dX3_drop_62 ?_
      refine V_iconst (pc := 65) hC dX3_drop_65 (v := (nI 1)) (by decide) ?_
      refine V_isub (pc := 66) hC dX3_drop_66 ?_
      refine pf_X3_32 (pc := 67) hs hC dX3_drop_67 ?_
      refine V_iconst (pc := 70) hC dX3_drop_70 (v := (nI 0)) (by decide) ?_
      refine V_istore_n (pc := 71) (lv' := [(2, .int (nI 0)), (0, .ref (E.2.1 (8 * s))), (1, .int v1)]) hC dX3_drop_71 rfl (by decide) rfl ?_
      refine V_sub (pc := 72) (lv' := [(0, .ref (E.2.1 (8 * s))), (1, .int v1), (2, .int (nI 0))]) [1, 2, 0] rfl ?_
      exact b_X3_drop_72 hC hs hR k (nI 0) (up2 I (8 * s) 0 ((I (8 * s) 0) - (nI 1))) hf
    · have hf := ite_f hf c1
      refine V_aload_n (pc := 12) hC 0 dX3_drop_12 rfl rfl ?_
      refine gf_X3_15 (pc := 13) hs hC dX3_drop_13 ?_
      refine V_iload_n (pc := 16) hC 2 dX3_drop_16 rfl rfl ?_
      refine V_iconst (pc := 17) hC dX3_drop_17 (v := (nI 1)) (by decide) ?_
      refine V_isub (pc := 18) hC dX3_drop_18 ?_
      refine V_aload_n (pc := 19) hC 0 dX3_drop_19 rfl rfl ?_
      refine gf_X3_15 (pc := 20) hs hC dX3_drop_20 ?_
      refine V_iload_n (pc := 23) hC 2 dX3_drop_23 rfl rfl ?_
      obtain ⟨h2, hf⟩ := if_some hf
      refine V_iald (pc := 24) hC (ia_st hs (by decide) (by decide)) (inB_of h2) dX3_drop_24 ?_
      obtain ⟨h3, hf⟩ := if_some hf
      obtain ⟨J4, eJ4, hf⟩ := bind_some hf
      have eJ4 := Option.some.inj eJ4
      refine V_iast (pc := 25) hC (ia_st hs (by decide) (by decide)) (inB_of h3) dX3_drop_25 ?_
      rw [eJ4]
      refine V_aload_n (pc := 26) hC 0 dX3_drop_26 rfl rfl ?_
      refine gf_X3_19 (pc := 27) hs hC dX3_drop_27 ?_
      refine V_iload_n (pc := 30) hC 2 dX3_drop_30 rfl rfl ?_
      refine V_iconst (pc := 31) hC dX3_drop_31 (v := (nI 1)) (by decide) ?_
      refine V_isub (pc := 32) hC dX3_drop_32 ?_
      refine V_aload_n (pc := 33) hC 0 dX3_drop_33 rfl rfl ?_
      refine gf_X3_19 (pc := 34) hs hC dX3_drop_34 ?_
      refine V_iload_n (pc := 37) hC 2 dX3_drop_37 rfl rfl ?_
      obtain ⟨h5, hf⟩ := if_some hf
      refine V_iald (pc := 38) hC (ia_st hs (by decide) (by decide)) (inB_of h5) dX3_drop_38 ?_
      obtain ⟨h6, hf⟩ := if_some hf
      obtain ⟨J7, eJ7, hf⟩ := bind_some hf
      have eJ7 := Option.some.inj eJ7
      refine V_iast (pc := 39) hC (ia_st hs (by decide) (by decide)) (inB_of h6) dX3_drop_39 ?_
      rw [eJ7]
      refine V_aload_n (pc := 40) hC 0 dX3_drop_40 rfl rfl ?_
      refine gf_X3_22 (pc := 41) hs hC dX3_drop_41 ?_
      refine V_iload_n (pc := 44) hC 2 dX3_drop_44 rfl rfl ?_
      refine V_iconst (pc := 45) hC dX3_drop_45 (v := (nI 1)) (by decide) ?_
      refine V_isub (pc := 46) hC dX3_drop_46 ?_
      refine V_aload_n (pc := 47) hC 0 dX3_drop_47 rfl rfl ?_
      refine gf_X3_22 (pc := 48) hs hC dX3_drop_48 ?_
      refine V_iload_n (pc := 51) hC 2 dX3_drop_51 rfl rfl ?_
      obtain ⟨h8, hf⟩ := if_some hf
      refine V_iald (pc := 52) hC (ia_st hs (by decide) (by decide)) (inB_of h8) dX3_drop_52 ?_
      obtain ⟨h9, hf⟩ := if_some hf
      obtain ⟨J10, eJ10, hf⟩ := bind_some hf
      have eJ10 := Option.some.inj eJ10
      refine V_iast (pc := 53) hC (ia_st hs (by decide) (by decide)) (inB_of h9) dX3_drop_53 ?_
      rw [eJ10]
      refine V_iinc (pc := 54) (lv' := [(2, .int (v2 + (nI 1))), (0, .ref (E.2.1 (8 * s))), (1, .int v1)]) hC (nI 1) 2 dX3_drop_54 rfl (by decide) (by decide) rfl ?_
      refine V_goto (pc := 57) (tgt := 4) hC dX3_drop_57 (by decide) ?_
      refine V_sub (pc := 4) (lv' := [(0, .ref (E.2.1 (8 * s))), (1, .int v1), (2, .int (v2 + (nI 1)))]) [1, 2, 0] rfl ?_
      exact ih (v2 + (nI 1)) J10 hf
def f_X3_drop (k : Nat) (s : Nat) (v1 : Int32) (I : Mem) : Option (Mem) := f_X3_drop_4 k s v1 k (v1 + (nI 1)) I
set_option maxHeartbeats 4000000 in
set_option maxRecDepth 100000 in
theorem c_X3_drop {E : EN} {k : Nat} {s : Nat} {v1 : Int32} {I : Mem} {r : Mem} (hs : s < 6) (hf : f_X3_drop k s v1 I = some r) : Ct E yX3_drop cX3_drop 3 none 2 42 [.ref (E.2.1 (8 * s)), .int v1] I none r := by
  refine Ct_of (by decide) (Nat.le_of_ble_eq_true rfl) (fun X hC0 hR => ?_)
  have hC : Cx X E cX3_drop 3 RX3 2 42 := hC0
  change V X E 3 0 [(0, .ref (E.2.1 (8 * s))), (1, .int v1)] [] I
  unfold f_X3_drop at hf
  refine V_iload_n (pc := 0) hC 1 dX3_drop_0 rfl rfl ?_
  refine V_iconst (pc := 1) hC dX3_drop_1 (v := (nI 1)) (by decide) ?_
  refine V_iadd (pc := 2) hC dX3_drop_2 ?_
  refine V_istore_n (pc := 3) (lv' := [(2, .int (v1 + (nI 1))), (0, .ref (E.2.1 (8 * s))), (1, .int v1)]) hC dX3_drop_3 rfl (by decide) rfl ?_
  refine V_sub (pc := 4) (lv' := [(0, .ref (E.2.1 (8 * s))), (1, .int v1), (2, .int (v1 + (nI 1)))]) [1, 2, 0] rfl ?_
  exact b_X3_drop_4 hC hs hR k (v1 + (nI 1)) I hf
def f_X3_makeBloc_2 (k : Nat) (s : Nat) (v1 : Int32) : Nat → Int32 → Mem → Option (Mem)
  | 0, _, _ => none
  | n + 1, v2, I => (if (I (8 * s) 0) ≤ v2 then some I else (if (f_X5_holds v1 v2) = 0 then (f_X3_makeBloc_2 k s v1 n) (v2 + (nI 1)) I else (if inB v2 10 = true then (f_X3_makeBloc_2 k s v1 n) (v2 + (nI 1)) (up2 I (8 * s + 2) (Int32.toNatClampNeg v2) v1) else none)))
set_option maxHeartbeats 4000000 in
set_option maxRecDepth 100000 in
theorem b_X3_makeBloc_2 {X : XT} {E : EN} {k : Nat} {s : Nat} {v1 : Int32} {r : Mem} (hC : Cx X E cX3_makeBloc 3 RX3 2 41) (hs : s < 6) (hR : Rt X E cX3_makeBloc none none r) : ∀ (n : Nat) (v2 : Int32) (I : Mem), f_X3_makeBloc_2 k s v1 n v2 I = some r → V X E 3 2 [(0, .ref (E.2.1 (8 * s))), (1, .int v1), (2, .int v2)] [] I := by
  intro n
  induction n with
  | zero =>
    intro v2 I hf
    rw [f_X3_makeBloc_2] at hf
    cases hf
  | succ n ih =>
    intro v2 I hf
    rw [f_X3_makeBloc_2] at hf
    refine V_iload_n (pc := 2) hC 2 dX3_makeBloc_2 rfl rfl ?_
    refine V_aload_n (pc := 3) hC 0 dX3_makeBloc_3 rfl rfl ?_
    refine gf_X3_32 (pc := 4) hs hC dX3_makeBloc_4 ?_
    refine V_icmp_ge (pc := 7) (tgt := 31) hC dX3_makeBloc_7 (by decide) (fun c1 => ?_) (fun c1 => ?_)
    · have hf := ite_t hf c1
      have hf := Option.some.inj hf; subst hf
      exact V_return (pc := 31) hR trivial dX3_makeBloc_31
    · have hf := ite_f hf c1
      refine V_iload_n (pc := 10) hC 1 dX3_makeBloc_10 rfl rfl ?_
      refine V_iload_n (pc := 11) hC 2 dX3_makeBloc_11 rfl rfl ?_
      refine V_callN (pc := 12) (rest := []) (As := [.int v1, .int v2]) hC lk_X3_56 (c_X5_holds  rfl) rfl rfl (Nat.le_of_ble_eq_true rfl) (by decide) dX3_makeBloc_12 ?_
      change V X E 3 15 [(0, .ref (E.2.1 (8 * s))), (1, .int v1), (2, .int v2)] [.int (f_X5_holds v1 v2)] I
      refine V_if_eq (pc := 15) (tgt := 25) hC dX3_makeBloc_15 (by decide) (fun c2 => ?_) (fun c2 => ?_)
      · have hf := ite_t hf c2
        refine V_iinc (pc := 25) (lv' := [(2, .int (v2 + (nI 1))), (0, .ref (E.2.1 (8 * s))), (1, .int v1)]) hC (nI 1) 2 dX3_makeBloc_25 rfl (by decide) (by decide) rfl ?_
        refine V_goto (pc := 28) (tgt := 2) hC dX3_makeBloc_28 (by decide) ?_
        refine V_sub (pc := 2) (lv' := [(0, .ref (E.2.1 (8 * s))), (1, .int v1), (2, .int (v2 + (nI 1)))]) [1, 2, 0] rfl ?_
        exact ih (v2 + (nI 1)) I hf
      · have hf := ite_f hf c2
        refine V_aload_n (pc := 18) hC 0 dX3_makeBloc_18 rfl rfl ?_
        refine gf_X3_19 (pc := 19) hs hC dX3_makeBloc_19 ?_
        refine V_iload_n (pc := 22) hC 2 dX3_makeBloc_22 rfl rfl ?_
        refine V_iload_n (pc := 23) hC 1 dX3_makeBloc_23 rfl rfl ?_
        obtain ⟨h3, hf⟩ := if_some hf
        refine V_iast (pc := 24) hC (ia_st hs (by decide) (by decide)) (inB_of h3) dX3_makeBloc_24 ?_
        refine V_iinc (pc := 25) (lv' := [(2, .int (v2 + (nI 1))), (0, .ref (E.2.1 (8 * s))), (1, .int v1)]) hC (nI 1) 2 dX3_makeBloc_25 rfl (by decide) (by decide) rfl ?_
        refine V_goto (pc := 28) (tgt := 2) hC dX3_makeBloc_28 (by decide) ?_
        refine V_sub (pc := 2) (lv' := [(0, .ref (E.2.1 (8 * s))), (1, .int v1), (2, .int (v2 + (nI 1)))]) [1, 2, 0] rfl ?_
        exact ih (v2 + (nI 1)) (up2 I (8 * s + 2) (Int32.toNatClampNeg v2) v1) hf
def f_X3_makeBloc (k : Nat) (s : Nat) (v1 : Int32) (I : Mem) : Option (Mem) := f_X3_makeBloc_2 k s v1 k (nI 0) I
set_option maxHeartbeats 4000000 in
set_option maxRecDepth 100000 in
theorem c_X3_makeBloc {E : EN} {k : Nat} {s : Nat} {v1 : Int32} {I : Mem} {r : Mem} (hs : s < 6) (hf : f_X3_makeBloc k s v1 I = some r) : Ct E yX3_makeBloc cX3_makeBloc 3 none 2 41 [.ref (E.2.1 (8 * s)), .int v1] I none r := by
  refine Ct_of (by decide) (Nat.le_of_ble_eq_true rfl) (fun X hC0 hR => ?_)
  have hC : Cx X E cX3_makeBloc 3 RX3 2 41 := hC0
  change V X E 3 0 [(0, .ref (E.2.1 (8 * s))), (1, .int v1)] [] I
  unfold f_X3_makeBloc at hf
  refine V_iconst (pc := 0) hC dX3_makeBloc_0 (v := (nI 0)) (by decide) ?_
  refine V_istore_n (pc := 1) (lv' := [(2, .int (nI 0)), (0, .ref (E.2.1 (8 * s))), (1, .int v1)]) hC dX3_makeBloc_1 rfl (by decide) rfl ?_
  refine V_sub (pc := 2) (lv' := [(0, .ref (E.2.1 (8 * s))), (1, .int v1), (2, .int (nI 0))]) [1, 2, 0] rfl ?_
  exact b_X3_makeBloc_2 hC hs hR k (nI 0) I hf
def f_X3_blocCount_4 (k : Nat) (s : Nat) (I : Mem) : Nat → Int32 → Int32 → Option (Int32)
  | 0, _, _ => none
  | n + 1, v1, v2 => (if (I (8 * s) 0) ≤ v2 then some v1 else (Option.bind (f_X3_isLowest k s v2 I) (fun r2 => (if r2 = 0 then (f_X3_blocCount_4 k s I n) v1 (v2 + (nI 1)) else (f_X3_blocCount_4 k s I n) (v1 + (nI 1)) (v2 + (nI 1))))))
set_option maxHeartbeats 4000000 in
set_option maxRecDepth 100000 in
theorem b_X3_blocCount_4 {X : XT} {E : EN} {k : Nat} {s : Nat} {I : Mem} {r : Int32} (hC : Cx X E cX3_blocCount 3 RX3 4 84) (hs : s < 6) (hR : Rt X E cX3_blocCount (some .int) (some (.int r)) I) : ∀ (n : Nat) (v1 : Int32) (v2 : Int32), f_X3_blocCount_4 k s I n v1 v2 = some r → V X E 3 4 [(0, .ref (E.2.1 (8 * s))), (1, .int v1), (2, .int v2)] [] I := by
  intro n
  induction n with
  | zero =>
    intro v1 v2 hf
    rw [f_X3_blocCount_4] at hf
    cases hf
  | succ n ih =>
    intro v1 v2 hf
    rw [f_X3_blocCount_4] at hf
    refine V_iload_n (pc := 4) hC 2 dX3_blocCount_4 rfl rfl ?_
    refine V_aload_n (pc := 5) hC 0 dX3_blocCount_5 rfl rfl ?_
    refine gf_X3_32 (pc := 6) hs hC dX3_blocCount_6 ?_
    refine V_icmp_ge (pc := 9) (tgt := 29) hC dX3_blocCount_9 (by decide) (fun c1 => ?_) (fun c1 => ?_)
    · have hf := ite_t hf c1
      refine V_iload_n (pc := 29) hC 1 dX3_blocCount_29 rfl rfl ?_
      have hf := Option.some.inj hf; subst hf
      exact V_ireturn (pc := 30) hR rfl dX3_blocCount_30
    · have hf := ite_f hf c1
      refine V_aload_n (pc := 12) hC 0 dX3_blocCount_12 rfl rfl ?_
      refine V_iload_n (pc := 13) hC 2 dX3_blocCount_13 rfl rfl ?_
      obtain ⟨r2, g2, hf⟩ := bind_some hf
      refine V_callV (pc := 14) (rest := []) (As := [.int v2]) hC lk_X3_63 (by omega) (cel_State hs) rfl (c_X3_isLowest hs g2) rfl rfl (Nat.le_of_ble_eq_true rfl) (by decide) dX3_blocCount_14 ?_
      change V X E 3 17 [(0, .ref (E.2.1 (8 * s))), (1, .int v1), (2, .int v2)] [.int r2] I
      refine V_if_eq (pc := 17) (tgt := 23) hC dX3_blocCount_17 (by decide) (fun c3 => ?_) (fun c3 => ?_)
      · have hf := ite_t hf c3
        refine V_iinc (pc := 23) (lv' := [(2, .int (v2 + (nI 1))), (0, .ref (E.2.1 (8 * s))), (1, .int v1)]) hC (nI 1) 2 dX3_blocCount_23 rfl (by decide) (by decide) rfl ?_
        refine V_goto (pc := 26) (tgt := 4) hC dX3_blocCount_26 (by decide) ?_
        refine V_sub (pc := 4) (lv' := [(0, .ref (E.2.1 (8 * s))), (1, .int v1), (2, .int (v2 + (nI 1)))]) [1, 2, 0] rfl ?_
        exact ih v1 (v2 + (nI 1)) hf
      · have hf := ite_f hf c3
        refine V_iinc (pc := 20) (lv' := [(1, .int (v1 + (nI 1))), (0, .ref (E.2.1 (8 * s))), (2, .int v2)]) hC (nI 1) 1 dX3_blocCount_20 rfl (by decide) (by decide) rfl ?_
        refine V_iinc (pc := 23) (lv' := [(2, .int (v2 + (nI 1))), (1, .int (v1 + (nI 1))), (0, .ref (E.2.1 (8 * s)))]) hC (nI 1) 2 dX3_blocCount_23 rfl (by decide) (by decide) rfl ?_
        refine V_goto (pc := 26) (tgt := 4) hC dX3_blocCount_26 (by decide) ?_
        refine V_sub (pc := 4) (lv' := [(0, .ref (E.2.1 (8 * s))), (1, .int (v1 + (nI 1))), (2, .int (v2 + (nI 1)))]) [2, 1, 0] rfl ?_
        exact ih (v1 + (nI 1)) (v2 + (nI 1)) hf
def f_X3_blocCount (k : Nat) (s : Nat) (I : Mem) : Option (Int32) := f_X3_blocCount_4 k s I k (nI 0) (nI 0)
set_option maxHeartbeats 4000000 in
set_option maxRecDepth 100000 in
theorem c_X3_blocCount {E : EN} {k : Nat} {s : Nat} {I : Mem} {r : Int32} (hs : s < 6) (hf : f_X3_blocCount k s I = some r) : Ct E yX3_blocCount cX3_blocCount 3 (some .int) 4 84 [.ref (E.2.1 (8 * s))] I (some (.int r)) I := by
  refine Ct_of (by decide) (Nat.le_of_ble_eq_true rfl) (fun X hC0 hR => ?_)
  have hC : Cx X E cX3_blocCount 3 RX3 4 84 := hC0
  change V X E 3 0 [(0, .ref (E.2.1 (8 * s)))] [] I
  unfold f_X3_blocCount at hf
  refine V_iconst (pc := 0) hC dX3_blocCount_0 (v := (nI 0)) (by decide) ?_
  refine V_istore_n (pc := 1) (lv' := [(1, .int (nI 0)), (0, .ref (E.2.1 (8 * s)))]) hC dX3_blocCount_1 rfl (by decide) rfl ?_
  refine V_iconst (pc := 2) hC dX3_blocCount_2 (v := (nI 0)) (by decide) ?_
  refine V_istore_n (pc := 3) (lv' := [(2, .int (nI 0)), (1, .int (nI 0)), (0, .ref (E.2.1 (8 * s)))]) hC dX3_blocCount_3 rfl (by decide) rfl ?_
  refine V_sub (pc := 4) (lv' := [(0, .ref (E.2.1 (8 * s))), (1, .int (nI 0)), (2, .int (nI 0))]) [2, 1, 0] rfl ?_
  exact b_X3_blocCount_4 hC hs hR k (nI 0) (nI 0) hf
def f_X3_leaderOf_10 (k : Nat) (s : Nat) (I : Mem) (v1 : Int32) : Nat → Int32 → Int32 → Option (Int32)
  | 0, _, _ => none
  | n + 1, v2, v3 => (if (I (8 * s) 0) ≤ v3 then some v2 else (if inB v1 10 = true then (if (f_X5_holds (I (8 * s + 2) (Int32.toNatClampNeg v1)) v3) = 0 then (f_X3_leaderOf_10 k s I v1 n) v2 (v3 + (nI 1)) else (if inB v3 10 = true then (if inB v2 10 = true then (if (I (8 * s + 1) (Int32.toNatClampNeg v3)) ≤ (I (8 * s + 1) (Int32.toNatClampNeg v2)) then (f_X3_leaderOf_10 k s I v1 n) v2 (v3 + (nI 1)) else (f_X3_leaderOf_10 k s I v1 n) v3 (v3 + (nI 1))) else none) else none)) else none))
set_option maxHeartbeats 4000000 in
set_option maxRecDepth 100000 in
theorem b_X3_leaderOf_10 {X : XT} {E : EN} {k : Nat} {s : Nat} {I : Mem} {v1 : Int32} {r : Int32} (hC : Cx X E cX3_leaderOf 4 RX3 3 63) (hs : s < 6) (hR : Rt X E cX3_leaderOf (some .int) (some (.int r)) I) : ∀ (n : Nat) (v2 : Int32) (v3 : Int32), f_X3_leaderOf_10 k s I v1 n v2 v3 = some r → V X E 4 10 [(0, .ref (E.2.1 (8 * s))), (1, .int v1), (2, .int v2), (3, .int v3)] [] I := by
  intro n
  induction n with
  | zero =>
    intro v2 v3 hf
    rw [f_X3_leaderOf_10] at hf
    cases hf
  | succ n ih =>
    intro v2 v3 hf
    rw [f_X3_leaderOf_10] at hf
    refine V_iload_n (pc := 10) hC 3 dX3_leaderOf_10 rfl rfl ?_
    refine V_aload_n (pc := 11) hC 0 dX3_leaderOf_11 rfl rfl ?_
    refine gf_X3_32 (pc := 12) hs hC dX3_leaderOf_12 ?_
    refine V_icmp_ge (pc := 15) (tgt := 54) hC dX3_leaderOf_15 (by decide) (fun c2 => ?_) (fun c2 => ?_)
    · have hf := ite_t hf c2
      refine V_iload_n (pc := 54) hC 2 dX3_leaderOf_54 rfl rfl ?_
      have hf := Option.some.inj hf; subst hf
      exact V_ireturn (pc := 55) hR rfl dX3_leaderOf_55
    · have hf := ite_f hf c2
      refine V_aload_n (pc := 18) hC 0 dX3_leaderOf_18 rfl rfl ?_
      refine gf_X3_19 (pc := 19) hs hC dX3_leaderOf_19 ?_
      refine V_iload_n (pc := 22) hC 1 dX3_leaderOf_22 rfl rfl ?_
      obtain ⟨h3, hf⟩ := if_some hf
      refine V_iald (pc := 23) hC (ia_st hs (by decide) (by decide)) (inB_of h3) dX3_leaderOf_23 ?_
      refine V_iload_n (pc := 24) hC 3 dX3_leaderOf_24 rfl rfl ?_
      refine V_callN (pc := 25) (rest := []) (As := [.int (I (8 * s + 2) (Int32.toNatClampNeg v1)), .int v3]) hC lk_X3_56 (c_X5_holds  rfl) rfl rfl (Nat.le_of_ble_eq_true rfl) (by decide) dX3_leaderOf_25 ?_
      change V X E 4 28 [(0, .ref (E.2.1 (8 * s))), (1, .int v1), (2, .int v2), (3, .int v3)] [.int (f_X5_holds (I (8 * s + 2) (Int32.toNatClampNeg v1)) v3)] I
      refine V_if_eq (pc := 28) (tgt := 48) hC dX3_leaderOf_28 (by decide) (fun c4 => ?_) (fun c4 => ?_)
      · have hf := ite_t hf c4
        refine V_iinc (pc := 48) (lv' := [(3, .int (v3 + (nI 1))), (0, .ref (E.2.1 (8 * s))), (1, .int v1), (2, .int v2)]) hC (nI 1) 3 dX3_leaderOf_48 rfl (by decide) (by decide) rfl ?_
        refine V_goto (pc := 51) (tgt := 10) hC dX3_leaderOf_51 (by decide) ?_
        refine V_sub (pc := 10) (lv' := [(0, .ref (E.2.1 (8 * s))), (1, .int v1), (2, .int v2), (3, .int (v3 + (nI 1)))]) [1, 2, 3, 0] rfl ?_
        exact ih v2 (v3 + (nI 1)) hf
      · have hf := ite_f hf c4
        refine V_aload_n (pc := 31) hC 0 dX3_leaderOf_31 rfl rfl ?_
        refine gf_X3_15 (pc := 32) hs hC dX3_leaderOf_32 ?_
        refine V_iload_n (pc := 35) hC 3 dX3_leaderOf_35 rfl rfl ?_
        obtain ⟨h5, hf⟩ := if_some hf
        refine V_iald (pc := 36) hC (ia_st hs (by decide) (by decide)) (inB_of h5) dX3_leaderOf_36 ?_
        refine V_aload_n (pc := 37) hC 0 dX3_leaderOf_37 rfl rfl ?_
        refine gf_X3_15 (pc := 38) hs hC dX3_leaderOf_38 ?_
        refine V_iload_n (pc := 41) hC 2 dX3_leaderOf_41 rfl rfl ?_
        obtain ⟨h6, hf⟩ := if_some hf
        refine V_iald (pc := 42) hC (ia_st hs (by decide) (by decide)) (inB_of h6) dX3_leaderOf_42 ?_
        refine V_icmp_le (pc := 43) (tgt := 48) hC dX3_leaderOf_43 (by decide) (fun c7 => ?_) (fun c7 => ?_)
        · have hf := ite_t hf c7
          refine V_iinc (pc := 48) (lv' := [(3, .int (v3 + (nI 1))), (0, .ref (E.2.1 (8 * s))), (1, .int v1), (2, .int v2)]) hC (nI 1) 3 dX3_leaderOf_48 rfl (by decide) (by decide) rfl ?_
          refine V_goto (pc := 51) (tgt := 10) hC dX3_leaderOf_51 (by decide) ?_
          refine V_sub (pc := 10) (lv' := [(0, .ref (E.2.1 (8 * s))), (1, .int v1), (2, .int v2), (3, .int (v3 + (nI 1)))]) [1, 2, 3, 0] rfl ?_
          exact ih v2 (v3 + (nI 1)) hf
        · have hf := ite_f hf c7
          refine V_iload_n (pc := 46) hC 3 dX3_leaderOf_46 rfl rfl ?_
          refine V_istore_n (pc := 47) (lv' := [(2, .int v3), (0, .ref (E.2.1 (8 * s))), (1, .int v1), (3, .int v3)]) hC dX3_leaderOf_47 rfl (by decide) rfl ?_
          refine V_iinc (pc := 48) (lv' := [(3, .int (v3 + (nI 1))), (2, .int v3), (0, .ref (E.2.1 (8 * s))), (1, .int v1)]) hC (nI 1) 3 dX3_leaderOf_48 rfl (by decide) (by decide) rfl ?_
          refine V_goto (pc := 51) (tgt := 10) hC dX3_leaderOf_51 (by decide) ?_
          refine V_sub (pc := 10) (lv' := [(0, .ref (E.2.1 (8 * s))), (1, .int v1), (2, .int v3), (3, .int (v3 + (nI 1)))]) [2, 3, 1, 0] rfl ?_
          exact ih v3 (v3 + (nI 1)) hf
def f_X3_leaderOf (k : Nat) (s : Nat) (v1 : Int32) (I : Mem) : Option (Int32) := (Option.bind (f_X3_lowestBeside k s v1 I) (fun r1 => f_X3_leaderOf_10 k s I v1 k r1 (r1 + (nI 1))))
set_option maxHeartbeats 4000000 in
set_option maxRecDepth 100000 in
theorem c_X3_leaderOf {E : EN} {k : Nat} {s : Nat} {v1 : Int32} {I : Mem} {r : Int32} (hs : s < 6) (hf : f_X3_leaderOf k s v1 I = some r) : Ct E yX3_leaderOf cX3_leaderOf 4 (some .int) 3 63 [.ref (E.2.1 (8 * s)), .int v1] I (some (.int r)) I := by
  refine Ct_of (by decide) (Nat.le_of_ble_eq_true rfl) (fun X hC0 hR => ?_)
  have hC : Cx X E cX3_leaderOf 4 RX3 3 63 := hC0
  change V X E 4 0 [(0, .ref (E.2.1 (8 * s))), (1, .int v1)] [] I
  unfold f_X3_leaderOf at hf
  refine V_aload_n (pc := 0) hC 0 dX3_leaderOf_0 rfl rfl ?_
  refine V_iload_n (pc := 1) hC 1 dX3_leaderOf_1 rfl rfl ?_
  obtain ⟨r1, g1, hf⟩ := bind_some hf
  refine V_callV (pc := 2) (rest := []) (As := [.int v1]) hC lk_X3_60 (by omega) (cel_State hs) rfl (c_X3_lowestBeside hs g1) rfl rfl (Nat.le_of_ble_eq_true rfl) (by decide) dX3_leaderOf_2 ?_
  change V X E 4 5 [(0, .ref (E.2.1 (8 * s))), (1, .int v1)] [.int r1] I
  refine V_istore_n (pc := 5) (lv' := [(2, .int r1), (0, .ref (E.2.1 (8 * s))), (1, .int v1)]) hC dX3_leaderOf_5 rfl (by decide) rfl ?_
  refine V_iload_n (pc := 6) hC 0 dX3_leaderOf_6 rfl rfl ?_
  refine V_iconst (pc := 7) hC dX3_leaderOf_7 (v := (nI 1)) (by decide) ?_
  refine V_iadd (pc := 8) hC dX3_leaderOf_8 ?_
  refine V_istore_n (pc := 9) (lv' := [(3, .int (r1 + (nI 1))), (2, .int r1), (0, .ref (E.2.1 (8 * s))), (1, .int v1)]) hC dX3_leaderOf_9 rfl (by decide) rfl ?_
  refine V_sub (pc := 10) (lv' := [(0, .ref (E.2.1 (8 * s))), (1, .int v1), (2, .int r1), (3, .int (r1 + (nI 1)))]) [2, 3, 1, 0] rfl ?_
  exact b_X3_leaderOf_10 hC hs hR k r1 (r1 + (nI 1)) hf
def f_X3_wholeBlocsIn_4 (k : Nat) (s : Nat) (I : Mem) (v1 : Int32) : Nat → Int32 → Int32 → Option (Int32)
  | 0, _, _ => none
  | n + 1, v2, v3 => (if (I (8 * s) 0) ≤ v3 then some v2 else (if inB v3 10 = true then (if ((I (8 * s + 2) (Int32.toNatClampNeg v3)) &&& (v1 ^^^ (-1 : Int32))) = 0 then (f_X3_wholeBlocsIn_4 k s I v1 n) (v2 ||| (f_X5_bit v3)) (v3 + (nI 1)) else (f_X3_wholeBlocsIn_4 k s I v1 n) v2 (v3 + (nI 1))) else none))
set_option maxHeartbeats 4000000 in
set_option maxRecDepth 100000 in
theorem b_X3_wholeBlocsIn_4 {X : XT} {E : EN} {k : Nat} {s : Nat} {I : Mem} {v1 : Int32} {r : Int32} (hC : Cx X E cX3_wholeBlocsIn 4 RX3 1 20) (hs : s < 6) (hR : Rt X E cX3_wholeBlocsIn (some .int) (some (.int r)) I) : ∀ (n : Nat) (v2 : Int32) (v3 : Int32), f_X3_wholeBlocsIn_4 k s I v1 n v2 v3 = some r → V X E 4 4 [(0, .ref (E.2.1 (8 * s))), (1, .int v1), (2, .int v2), (3, .int v3)] [] I := by
  intro n
  induction n with
  | zero =>
    intro v2 v3 hf
    rw [f_X3_wholeBlocsIn_4] at hf
    cases hf
  | succ n ih =>
    intro v2 v3 hf
    rw [f_X3_wholeBlocsIn_4] at hf
    refine V_iload_n (pc := 4) hC 3 dX3_wholeBlocsIn_4 rfl rfl ?_
    refine V_aload_n (pc := 5) hC 0 dX3_wholeBlocsIn_5 rfl rfl ?_
    refine gf_X3_32 (pc := 6) hs hC dX3_wholeBlocsIn_6 ?_
    refine V_icmp_ge (pc := 9) (tgt := 38) hC dX3_wholeBlocsIn_9 (by decide) (fun c1 => ?_) (fun c1 => ?_)
    · have hf := ite_t hf c1
      refine V_iload_n (pc := 38) hC 2 dX3_wholeBlocsIn_38 rfl rfl ?_
      have hf := Option.some.inj hf; subst hf
      exact V_ireturn (pc := 39) hR rfl dX3_wholeBlocsIn_39
    · have hf := ite_f hf c1
      refine V_aload_n (pc := 12) hC 0 dX3_wholeBlocsIn_12 rfl rfl ?_
      refine gf_X3_19 (pc := 13) hs hC dX3_wholeBlocsIn_13 ?_
      refine V_iload_n (pc := 16) hC 3 dX3_wholeBlocsIn_16 rfl rfl ?_
      obtain ⟨h2, hf⟩ := if_some hf
      refine V_iald (pc := 17) hC (ia_st hs (by decide) (by decide)) (inB_of h2) dX3_wholeBlocsIn_17 ?_
      refine V_iload_n (pc := 18) hC 1 dX3_wholeBlocsIn_18 rfl rfl ?_
      refine V_iconst (pc := 19) hC dX3_wholeBlocsIn_19 (v := (-1 : Int32)) (by decide) ?_
      refine V_ixor (pc := 20) hC dX3_wholeBlocsIn_20 ?_
      refine V_iand (pc := 21) hC dX3_wholeBlocsIn_21 ?_
      refine V_if_ne (pc := 22) (tgt := 32) hC dX3_wholeBlocsIn_22 (by decide) (fun c3 => ?_) (fun c3 => ?_)
      · have hf := ite_f hf c3
        refine V_iinc (pc := 32) (lv' := [(3, .int (v3 + (nI 1))), (0, .ref (E.2.1 (8 * s))), (1, .int v1), (2, .int v2)]) hC (nI 1) 3 dX3_wholeBlocsIn_32 rfl (by decide) (by decide) rfl ?_
        refine V_goto (pc := 35) (tgt := 4) hC dX3_wholeBlocsIn_35 (by decide) ?_
        refine V_sub (pc := 4) (lv' := [(0, .ref (E.2.1 (8 * s))), (1, .int v1), (2, .int v2), (3, .int (v3 + (nI 1)))]) [1, 2, 3, 0] rfl ?_
        exact ih v2 (v3 + (nI 1)) hf
      · have hf := ite_t hf c3
        refine V_iload_n (pc := 25) hC 2 dX3_wholeBlocsIn_25 rfl rfl ?_
        refine V_iload_n (pc := 26) hC 3 dX3_wholeBlocsIn_26 rfl rfl ?_
        refine V_callN (pc := 27) (rest := [.int v2]) (As := [.int v3]) hC lk_X3_48 (c_X5_bit  rfl) rfl rfl (Nat.le_of_ble_eq_true rfl) (by decide) dX3_wholeBlocsIn_27 ?_
        change V X E 4 30 [(0, .ref (E.2.1 (8 * s))), (1, .int v1), (2, .int v2), (3, .int v3)] [.int (f_X5_bit v3), .int v2] I
        refine V_ior (pc := 30) hC dX3_wholeBlocsIn_30 ?_
        refine V_istore_n (pc := 31) (lv' := [(2, .int (v2 ||| (f_X5_bit v3))), (0, .ref (E.2.1 (8 * s))), (1, .int v1), (3, .int v3)]) hC dX3_wholeBlocsIn_31 rfl (by decide) rfl ?_
        refine V_iinc (pc := 32) (lv' := [(3, .int (v3 + (nI 1))), (2, .int (v2 ||| (f_X5_bit v3))), (0, .ref (E.2.1 (8 * s))), (1, .int v1)]) hC (nI 1) 3 dX3_wholeBlocsIn_32 rfl (by decide) (by decide) rfl ?_
        refine V_goto (pc := 35) (tgt := 4) hC dX3_wholeBlocsIn_35 (by decide) ?_
        refine V_sub (pc := 4) (lv' := [(0, .ref (E.2.1 (8 * s))), (1, .int v1), (2, .int (v2 ||| (f_X5_bit v3))), (3, .int (v3 + (nI 1)))]) [2, 3, 1, 0] rfl ?_
        exact ih (v2 ||| (f_X5_bit v3)) (v3 + (nI 1)) hf
def f_X3_wholeBlocsIn (k : Nat) (s : Nat) (v1 : Int32) (I : Mem) : Option (Int32) := f_X3_wholeBlocsIn_4 k s I v1 k (nI 0) (nI 0)
set_option maxHeartbeats 4000000 in
set_option maxRecDepth 100000 in
theorem c_X3_wholeBlocsIn {E : EN} {k : Nat} {s : Nat} {v1 : Int32} {I : Mem} {r : Int32} (hs : s < 6) (hf : f_X3_wholeBlocsIn k s v1 I = some r) : Ct E yX3_wholeBlocsIn cX3_wholeBlocsIn 4 (some .int) 1 20 [.ref (E.2.1 (8 * s)), .int v1] I (some (.int r)) I := by
  refine Ct_of (by decide) (Nat.le_of_ble_eq_true rfl) (fun X hC0 hR => ?_)
  have hC : Cx X E cX3_wholeBlocsIn 4 RX3 1 20 := hC0
  change V X E 4 0 [(0, .ref (E.2.1 (8 * s))), (1, .int v1)] [] I
  unfold f_X3_wholeBlocsIn at hf
  refine V_iconst (pc := 0) hC dX3_wholeBlocsIn_0 (v := (nI 0)) (by decide) ?_
  refine V_istore_n (pc := 1) (lv' := [(2, .int (nI 0)), (0, .ref (E.2.1 (8 * s))), (1, .int v1)]) hC dX3_wholeBlocsIn_1 rfl (by decide) rfl ?_
  refine V_iconst (pc := 2) hC dX3_wholeBlocsIn_2 (v := (nI 0)) (by decide) ?_
  refine V_istore_n (pc := 3) (lv' := [(3, .int (nI 0)), (2, .int (nI 0)), (0, .ref (E.2.1 (8 * s))), (1, .int v1)]) hC dX3_wholeBlocsIn_3 rfl (by decide) rfl ?_
  refine V_sub (pc := 4) (lv' := [(0, .ref (E.2.1 (8 * s))), (1, .int v1), (2, .int (nI 0)), (3, .int (nI 0))]) [2, 3, 1, 0] rfl ?_
  exact b_X3_wholeBlocsIn_4 hC hs hR k (nI 0) (nI 0) hf
def f_X3_isWinning (k : Nat) (s : Nat) (v1 : Int32) (I : Mem) : Option (Int32) := (Option.bind (f_X3_weightOf k s v1 I) (fun r1 => (if r1 < (I (8 * s) 1) then some (nI 0) else (if ((I (8 * s) 2) &&& (v1 ^^^ (-1 : Int32))) = 0 then some (nI 1) else some (nI 0)))))
set_option maxHeartbeats 4000000 in
set_option maxRecDepth 100000 in
theorem c_X3_isWinning {E : EN} {k : Nat} {s : Nat} {v1 : Int32} {I : Mem} {r : Int32} (hs : s < 6) (hf : f_X3_isWinning k s v1 I = some r) : Ct E yX3_isWinning cX3_isWinning 2 (some .boolean) 3 64 [.ref (E.2.1 (8 * s)), .int v1] I (some (.int r)) I := by
  refine Ct_of (by decide) (Nat.le_of_ble_eq_true rfl) (fun X hC0 hR => ?_)
  have hC : Cx X E cX3_isWinning 2 RX3 3 64 := hC0
  change V X E 2 0 [(0, .ref (E.2.1 (8 * s))), (1, .int v1)] [] I
  unfold f_X3_isWinning at hf
  refine V_aload_n (pc := 0) hC 0 dX3_isWinning_0 rfl rfl ?_
  refine V_iload_n (pc := 1) hC 1 dX3_isWinning_1 rfl rfl ?_
  obtain ⟨r1, g1, hf⟩ := bind_some hf
  refine V_callV (pc := 2) (rest := []) (As := [.int v1]) hC lk_X3_67 (by omega) (cel_State hs) rfl (c_X3_weightOf hs g1) rfl rfl (Nat.le_of_ble_eq_true rfl) (by decide) dX3_isWinning_2 ?_
  change V X E 2 5 [(0, .ref (E.2.1 (8 * s))), (1, .int v1)] [.int r1] I
  refine V_aload_n (pc := 5) hC 0 dX3_isWinning_5 rfl rfl ?_
  refine gf_X3_9 (pc := 6) hs hC dX3_isWinning_6 ?_
  refine V_icmp_lt (pc := 9) (tgt := 27) hC dX3_isWinning_9 (by decide) (fun c2 => ?_) (fun c2 => ?_)
  · have hf := ite_t hf c2
    refine V_iconst (pc := 27) hC dX3_isWinning_27 (v := (nI 0)) (by decide) ?_
    have hf := Option.some.inj hf; subst hf
    exact V_ireturn (pc := 28) hR (nar_z (by decide)) dX3_isWinning_28
  · have hf := ite_f hf c2
    refine V_aload_n (pc := 12) hC 0 dX3_isWinning_12 rfl rfl ?_
    refine gf_X3_35 (pc := 13) hs hC dX3_isWinning_13 ?_
    refine V_iload_n (pc := 16) hC 1 dX3_isWinning_16 rfl rfl ?_
    refine V_iconst (pc := 17) hC dX3_isWinning_17 (v := (-1 : Int32)) (by decide) ?_
    refine V_ixor (pc := 18) hC dX3_isWinning_18 ?_
    refine V_iand (pc := 19) hC dX3_isWinning_19 ?_
    refine V_if_ne (pc := 20) (tgt := 27) hC dX3_isWinning_20 (by decide) (fun c3 => ?_) (fun c3 => ?_)
    · have hf := ite_f hf c3
      refine V_iconst (pc := 27) hC dX3_isWinning_27 (v := (nI 0)) (by decide) ?_
      have hf := Option.some.inj hf; subst hf
      exact V_ireturn (pc := 28) hR (nar_z (by decide)) dX3_isWinning_28
    · have hf := ite_t hf c3
      refine V_iconst (pc := 23) hC dX3_isWinning_23 (v := (nI 1)) (by decide) ?_
      refine V_goto (pc := 24) (tgt := 28) hC dX3_isWinning_24 (by decide) ?_
      have hf := Option.some.inj hf; subst hf
      exact V_ireturn (pc := 28) hR (nar_z (by decide)) dX3_isWinning_28
def f_X3_tellSwings_2 (k : Nat) (s : Nat) (v1 : Int32) (v2 : Int32) : Nat → Int32 → Mem → Option (Mem)
  | 0, _, _ => none
  | n + 1, v3, I => (if (I (8 * s) 0) ≤ v3 then some I else (if inB v3 10 = true then (Option.bind (f_X3_isWinning k s (v1 ^^^ (I (8 * s + 2) (Int32.toNatClampNeg v3))) I) (fun r3 => (if r3 = v2 then (f_X3_tellSwings_2 k s v1 v2 n) (v3 + (nI 1)) I else (if inB v3 10 = true then (if inB v3 10 = true then (Option.bind (some (up2 I (8 * s + 3) (Int32.toNatClampNeg v3) ((I (8 * s + 3) (Int32.toNatClampNeg v3)) + (nI 1)))) (fun J7 => (f_X3_tellSwings_2 k s v1 v2 n) (v3 + (nI 1)) J7)) else none) else none)))) else none))
set_option maxHeartbeats 4000000 in
set_option maxRecDepth 100000 in
theorem b_X3_tellSwings_2 {X : XT} {E : EN} {k : Nat} {s : Nat} {v1 : Int32} {v2 : Int32} {r : Mem} (hC : Cx X E cX3_tellSwings 4 RX3 4 85) (hs : s < 6) (hR : Rt X E cX3_tellSwings none none r) : ∀ (n : Nat) (v3 : Int32) (I : Mem), f_X3_tellSwings_2 k s v1 v2 n v3 I = some r → V X E 4 2 [(0, .ref (E.2.1 (8 * s))), (1, .int v1), (2, .int v2), (3, .int v3)] [] I := by
  intro n
  induction n with
  | zero =>
    intro v3 I hf
    rw [f_X3_tellSwings_2] at hf
    cases hf
  | succ n ih =>
    intro v3 I hf
    rw [f_X3_tellSwings_2] at hf
    refine V_iload_n (pc := 2) hC 3 dX3_tellSwings_2 rfl rfl ?_
    refine V_aload_n (pc := 3) hC 0 dX3_tellSwings_3 rfl rfl ?_
    refine gf_X3_32 (pc := 4) hs hC dX3_tellSwings_4 ?_
    refine V_icmp_ge (pc := 7) (tgt := 42) hC dX3_tellSwings_7 (by decide) (fun c1 => ?_) (fun c1 => ?_)
    · have hf := ite_t hf c1
      have hf := Option.some.inj hf; subst hf
      exact V_return (pc := 42) hR trivial dX3_tellSwings_42
    · have hf := ite_f hf c1
      refine V_aload_n (pc := 10) hC 0 dX3_tellSwings_10 rfl rfl ?_
      refine V_iload_n (pc := 11) hC 1 dX3_tellSwings_11 rfl rfl ?_
      refine V_aload_n (pc := 12) hC 0 dX3_tellSwings_12 rfl rfl ?_
      refine gf_X3_19 (pc := 13) hs hC dX3_tellSwings_13 ?_
      refine V_iload_n (pc := 16) hC 3 dX3_tellSwings_16 rfl rfl ?_
      obtain ⟨h2, hf⟩ := if_some hf
      refine V_iald (pc := 17) hC (ia_st hs (by decide) (by decide)) (inB_of h2) dX3_tellSwings_17 ?_
      refine V_ixor (pc := 18) hC dX3_tellSwings_18 ?_
      obtain ⟨r3, g3, hf⟩ := bind_some hf
      refine V_callV (pc := 19) (rest := []) (As := [.int (v1 ^^^ (I (8 * s + 2) (Int32.toNatClampNeg v3)))]) hC lk_X3_79 (by omega) (cel_State hs) rfl (c_X3_isWinning hs g3) rfl rfl (Nat.le_of_ble_eq_true rfl) (by decide) dX3_tellSwings_19 ?_
      change V X E 4 22 [(0, .ref (E.2.1 (8 * s))), (1, .int v1), (2, .int v2), (3, .int v3)] [.int r3] I
      refine V_iload_n (pc := 22) hC 2 dX3_tellSwings_22 rfl rfl ?_
      refine V_icmp_eq (pc := 23) (tgt := 36) hC dX3_tellSwings_23 (by decide) (fun c4 => ?_) (fun c4 => ?_)
      · have hf := ite_t hf c4
        refine V_iinc (pc := 36) (lv' := [(3, .int (v3 + (nI 1))), (0, .ref (E.2.1 (8 * s))), (1, .int v1), (2, .int v2)]) hC (nI 1) 3 dX3_tellSwings_36 rfl (by decide) (by decide) rfl ?_
        refine V_goto (pc := 39) (tgt := 2) hC dX3_tellSwings_39 (by decide) ?_
        refine V_sub (pc := 2) (lv' := [(0, .ref (E.2.1 (8 * s))), (1, .int v1), (2, .int v2), (3, .int (v3 + (nI 1)))]) [1, 2, 3, 0] rfl ?_
        exact ih (v3 + (nI 1)) I hf
      · have hf := ite_f hf c4
        refine V_aload_n (pc := 26) hC 0 dX3_tellSwings_26 rfl rfl ?_
        refine gf_X3_22 (pc := 27) hs hC dX3_tellSwings_27 ?_
        refine V_iload_n (pc := 30) hC 3 dX3_tellSwings_30 rfl rfl ?_
        refine V_dup2 (pc := 31) hC dX3_tellSwings_31 rfl rfl ?_
        obtain ⟨h5, hf⟩ := if_some hf
        refine V_iald (pc := 32) hC (ia_st hs (by decide) (by decide)) (inB_of h5) dX3_tellSwings_32 ?_
        refine V_iconst (pc := 33) hC dX3_tellSwings_33 (v := (nI 1)) (by decide) ?_
        refine V_iadd (pc := 34) hC dX3_tellSwings_34 ?_
        obtain ⟨h6, hf⟩ := if_some hf
        obtain ⟨J7, eJ7, hf⟩ := bind_some hf
        have eJ7 := Option.some.inj eJ7
        refine V_iast (pc := 35) hC (ia_st hs (by decide) (by decide)) (inB_of h6) dX3_tellSwings_35 ?_
        rw [eJ7]
        refine V_iinc (pc := 36) (lv' := [(3, .int (v3 + (nI 1))), (0, .ref (E.2.1 (8 * s))), (1, .int v1), (2, .int v2)]) hC (nI 1) 3 dX3_tellSwings_36 rfl (by decide) (by decide) rfl ?_
        refine V_goto (pc := 39) (tgt := 2) hC dX3_tellSwings_39 (by decide) ?_
        refine V_sub (pc := 2) (lv' := [(0, .ref (E.2.1 (8 * s))), (1, .int v1), (2, .int v2), (3, .int (v3 + (nI 1)))]) [1, 2, 3, 0] rfl ?_
        exact ih (v3 + (nI 1)) J7 hf
def f_X3_tellSwings (k : Nat) (s : Nat) (v1 : Int32) (v2 : Int32) (I : Mem) : Option (Mem) := f_X3_tellSwings_2 k s v1 v2 k (nI 0) I
set_option maxHeartbeats 4000000 in
set_option maxRecDepth 100000 in
theorem c_X3_tellSwings {E : EN} {k : Nat} {s : Nat} {v1 : Int32} {v2 : Int32} {I : Mem} {r : Mem} (hs : s < 6) (hf : f_X3_tellSwings k s v1 v2 I = some r) : Ct E yX3_tellSwings cX3_tellSwings 4 none 4 85 [.ref (E.2.1 (8 * s)), .int v1, .int v2] I none r := by
  refine Ct_of (by decide) (Nat.le_of_ble_eq_true rfl) (fun X hC0 hR => ?_)
  have hC : Cx X E cX3_tellSwings 4 RX3 4 85 := hC0
  change V X E 4 0 [(0, .ref (E.2.1 (8 * s))), (1, .int v1), (2, .int v2)] [] I
  unfold f_X3_tellSwings at hf
  refine V_iconst (pc := 0) hC dX3_tellSwings_0 (v := (nI 0)) (by decide) ?_
  refine V_istore_n (pc := 1) (lv' := [(3, .int (nI 0)), (0, .ref (E.2.1 (8 * s))), (1, .int v1), (2, .int v2)]) hC dX3_tellSwings_1 rfl (by decide) rfl ?_
  refine V_sub (pc := 2) (lv' := [(0, .ref (E.2.1 (8 * s))), (1, .int v1), (2, .int v2), (3, .int (nI 0))]) [1, 2, 3, 0] rfl ?_
  exact b_X3_tellSwings_2 hC hs hR k (nI 0) I hf
def f_X4_at (k : Nat) (v1 : Int32) (I : Mem) : Option (Int32) := (if v1 < 0 then some (nI 48) else (if (I (51) 1) ≤ v1 then some (nI 48) else (if inB v1 60 = true then (if vp_nar .char (I (52) (Int32.toNatClampNeg v1)) = (I (52) (Int32.toNatClampNeg v1)) then some (I (52) (Int32.toNatClampNeg v1)) else none) else none)))
set_option maxHeartbeats 4000000 in
set_option maxRecDepth 100000 in
theorem c_X4_at {E : EN} {k : Nat} {v1 : Int32} {I : Mem} {r : Int32} (hf : f_X4_at k v1 I = some r) : Ct E yX4_at cX4_at 2 (some .char) 0 0 [.ref (E.2.1 (51)), .int v1] I (some (.int r)) I := by
  refine Ct_of (by decide) (Nat.le_of_ble_eq_true rfl) (fun X hC0 hR => ?_)
  have hC : Cx X E cX4_at 2 RX4 0 0 := hC0
  change V X E 2 0 [(0, .ref (E.2.1 (51))), (1, .int v1)] [] I
  unfold f_X4_at at hf
  refine V_iload_n (pc := 0) hC 1 dX4_at_0 rfl rfl ?_
  refine V_if_lt (pc := 1) (tgt := 21) hC dX4_at_1 (by decide) (fun c1 => ?_) (fun c1 => ?_)
  · have hf := ite_t hf c1
    refine V_bipush (pc := 21) hC dX4_at_21 (v := (nI 48)) (by decide) ?_
    have hf := Option.some.inj hf; subst hf
    exact V_ireturn (pc := 23) hR (nar_c (by decide)) dX4_at_23
  · have hf := ite_f hf c1
    refine V_iload_n (pc := 4) hC 1 dX4_at_4 rfl rfl ?_
    refine V_aload_n (pc := 5) hC 0 dX4_at_5 rfl rfl ?_
    refine gf_X4_15 (pc := 6) hC dX4_at_6 ?_
    refine V_icmp_ge (pc := 9) (tgt := 21) hC dX4_at_9 (by decide) (fun c2 => ?_) (fun c2 => ?_)
    · have hf := ite_t hf c2
      refine V_bipush (pc := 21) hC dX4_at_21 (v := (nI 48)) (by decide) ?_
      have hf := Option.some.inj hf; subst hf
      exact V_ireturn (pc := 23) hR (nar_c (by decide)) dX4_at_23
    · have hf := ite_f hf c2
      refine V_aload_n (pc := 12) hC 0 dX4_at_12 rfl rfl ?_
      refine gf_X4_9 (pc := 13) hC dX4_at_13 ?_
      refine V_iload_n (pc := 16) hC 1 dX4_at_16 rfl rfl ?_
      obtain ⟨h3, hf⟩ := if_some hf
      refine V_cald (pc := 17) hC ca_52 (inB_of h3) dX4_at_17 ?_
      refine V_goto (pc := 18) (tgt := 23) hC dX4_at_18 (by decide) ?_
      obtain ⟨h4, hf⟩ := if_some hf
      have hf := Option.some.inj hf; subst hf
      exact V_ireturn (pc := 23) hR (nar_c h4) dX4_at_23
def f_X3_hold_46 (k : Nat) (s : Nat) (I : Mem) (v2 : Int32) (v3 : Int32) (v4 : Int32) (v5 : Int32) (v6 : Int32) (sh8 : Int32 → Int32 → Int32 → Option (Mem)) : Option (Mem) := (Option.bind (f_X4_at k (v2 + v5) I) (fun r9 => (if r9 = v6 then sh8 v3 v4 (v5 + (nI 1)) else sh8 v3 (v4 + (nI 1)) (v5 + (nI 1)))))
set_option maxHeartbeats 4000000 in
set_option maxRecDepth 100000 in
theorem b_X3_hold_46 {X : XT} {E : EN} {k : Nat} {s : Nat} {I : Mem} {v2 : Int32} {v3 : Int32} {v4 : Int32} {v5 : Int32} {v6 : Int32} {sh8 : Int32 → Int32 → Int32 → Option (Mem)} {r : Mem} (hC : Cx X E cX3_hold 7 RX3 5 108) (hs : s < 6) (hs8 : ∀ (v3 : Int32) (v4 : Int32) (v5 : Int32), sh8 v3 v4 v5 = some r → V X E 7 8 [(0, .ref (E.2.1 (8 * s))), (1, .ref (E.2.1 (51))), (2, .int v2), (3, .int v3), (4, .int v4), (5, .int v5)] [] I) (hR : Rt X E cX3_hold none none r) (hf : f_X3_hold_46 k s I v2 v3 v4 v5 v6 sh8 = some r) : V X E 7 46 [(0, .ref (E.2.1 (8 * s))), (1, .ref (E.2.1 (51))), (2, .int v2), (3, .int v3), (4, .int v4), (5, .int v5), (6, .int v6)] [] I := by
  unfold f_X3_hold_46 at hf
  refine V_aload_n (pc := 46) hC 1 dX3_hold_46 rfl rfl ?_
  refine V_iload_n (pc := 47) hC 2 dX3_hold_47 rfl rfl ?_
  refine V_iload (pc := 48) hC 5 dX3_hold_48 rfl ?_
  refine V_iadd (pc := 50) hC dX3_hold_50 ?_
  obtain ⟨r9, g9, hf⟩ := bind_some hf
  refine V_callV (pc := 51) (rest := []) (As := [.int (v2 + v5)]) hC lk_X3_73 (by decide) cel_X4 rfl (c_X4_at  g9) rfl rfl (Nat.le_of_ble_eq_true rfl) (by decide) dX3_hold_51 ?_
  change V X E 7 54 [(0, .ref (E.2.1 (8 * s))), (1, .ref (E.2.1 (51))), (2, .int v2), (3, .int v3), (4, .int v4), (5, .int v5), (6, .int v6)] [.int r9] I
  refine V_iload (pc := 54) hC 6 dX3_hold_54 rfl ?_
  refine V_icmp_eq (pc := 56) (tgt := 62) hC dX3_hold_56 (by decide) (fun c10 => ?_) (fun c10 => ?_)
  · have hf := ite_t hf c10
    refine V_iinc (pc := 62) (lv' := [(5, .int (v5 + (nI 1))), (0, .ref (E.2.1 (8 * s))), (1, .ref (E.2.1 (51))), (2, .int v2), (3, .int v3), (4, .int v4), (6, .int v6)]) hC (nI 1) 5 dX3_hold_62 rfl (by decide) (by decide) rfl ?_
    refine V_goto (pc := 65) (tgt := 8) hC dX3_hold_65 (by decide) ?_
    refine V_sub (pc := 8) (lv' := [(0, .ref (E.2.1 (8 * s))), (1, .ref (E.2.1 (51))), (2, .int v2), (3, .int v3), (4, .int v4), (5, .int (v5 + (nI 1)))]) [1, 2, 3, 4, 5, 0] rfl ?_
    exact hs8 v3 v4 (v5 + (nI 1)) hf
  · have hf := ite_f hf c10
    refine V_iinc (pc := 59) (lv' := [(4, .int (v4 + (nI 1))), (0, .ref (E.2.1 (8 * s))), (1, .ref (E.2.1 (51))), (2, .int v2), (3, .int v3), (5, .int v5), (6, .int v6)]) hC (nI 1) 4 dX3_hold_59 rfl (by decide) (by decide) rfl ?_
    refine V_iinc (pc := 62) (lv' := [(5, .int (v5 + (nI 1))), (4, .int (v4 + (nI 1))), (0, .ref (E.2.1 (8 * s))), (1, .ref (E.2.1 (51))), (2, .int v2), (3, .int v3), (6, .int v6)]) hC (nI 1) 5 dX3_hold_62 rfl (by decide) (by decide) rfl ?_
    refine V_goto (pc := 65) (tgt := 8) hC dX3_hold_65 (by decide) ?_
    refine V_sub (pc := 8) (lv' := [(0, .ref (E.2.1 (8 * s))), (1, .ref (E.2.1 (51))), (2, .int v2), (3, .int v3), (4, .int (v4 + (nI 1))), (5, .int (v5 + (nI 1)))]) [2, 3, 4, 5, 1, 0] rfl ?_
    exact hs8 v3 (v4 + (nI 1)) (v5 + (nI 1)) hf
def f_X3_hold_8 (k : Nat) (s : Nat) (I : Mem) (v2 : Int32) : Nat → Int32 → Int32 → Int32 → Option (Mem)
  | 0, _, _, _ => none
  | n + 1, v3, v4, v5 => (if (I (8 * s) 0) ≤ v5 then (Option.bind (f_X3_isWinning k s v3 I) (fun r2 => (Option.bind (f_X3_tellSwings k s v3 r2 I) (fun r3 => (Option.bind (f_X3_weightOf k s v3 r3) (fun r4 => (Option.bind (f_X0_add k s r2 r4 v4 r3) (fun r5 => some r5)))))))) else (Option.bind (f_X3_leaderOf k s v5 I) (fun r6 => (Option.bind (f_X4_at k (v2 + r6) I) (fun r7 => (if r7 = (nI 43) then f_X3_hold_46 k s I v2 (v3 ||| (f_X5_bit v5)) v4 v5 r7 (f_X3_hold_8 k s I v2 n) else f_X3_hold_46 k s I v2 v3 v4 v5 r7 (f_X3_hold_8 k s I v2 n)))))))
set_option maxHeartbeats 4000000 in
set_option maxRecDepth 100000 in
theorem b_X3_hold_8 {X : XT} {E : EN} {k : Nat} {s : Nat} {I : Mem} {v2 : Int32} {r : Mem} (hC : Cx X E cX3_hold 7 RX3 5 108) (hs : s < 6) (hR : Rt X E cX3_hold none none r) : ∀ (n : Nat) (v3 : Int32) (v4 : Int32) (v5 : Int32), f_X3_hold_8 k s I v2 n v3 v4 v5 = some r → V X E 7 8 [(0, .ref (E.2.1 (8 * s))), (1, .ref (E.2.1 (51))), (2, .int v2), (3, .int v3), (4, .int v4), (5, .int v5)] [] I := by
  intro n
  induction n with
  | zero =>
    intro v3 v4 v5 hf
    rw [f_X3_hold_8] at hf
    cases hf
  | succ n ih =>
    intro v3 v4 v5 hf
    rw [f_X3_hold_8] at hf
    refine V_iload (pc := 8) hC 5 dX3_hold_8 rfl ?_
    refine V_aload_n (pc := 10) hC 0 dX3_hold_10 rfl rfl ?_
    refine gf_X3_32 (pc := 11) hs hC dX3_hold_11 ?_
    refine V_icmp_ge (pc := 14) (tgt := 68) hC dX3_hold_14 (by decide) (fun c1 => ?_) (fun c1 => ?_)
    · have hf := ite_t hf c1
      refine V_aload_n (pc := 68) hC 0 dX3_hold_68 rfl rfl ?_
      refine V_iload_n (pc := 69) hC 3 dX3_hold_69 rfl rfl ?_
      obtain ⟨r2, g2, hf⟩ := bind_some hf
      refine V_callV (pc := 70) (rest := []) (As := [.int v3]) hC lk_X3_79 (by omega) (cel_State hs) rfl (c_X3_isWinning hs g2) rfl rfl (Nat.le_of_ble_eq_true rfl) (by decide) dX3_hold_70 ?_
      change V X E 7 73 [(0, .ref (E.2.1 (8 * s))), (1, .ref (E.2.1 (51))), (2, .int v2), (3, .int v3), (4, .int v4), (5, .int v5)] [.int r2] I
      refine V_istore (pc := 73) (lv' := [(5, .int r2), (0, .ref (E.2.1 (8 * s))), (1, .ref (E.2.1 (51))), (2, .int v2), (3, .int v3), (4, .int v4)]) hC dX3_hold_73 (by decide) rfl ?_
      refine V_aload_n (pc := 75) hC 1 dX3_hold_75 rfl rfl ?_
      refine V_iload_n (pc := 76) hC 4 dX3_hold_76 rfl rfl ?_
      refine V_iload (pc := 77) hC 0 dX3_hold_77 rfl ?_
      obtain ⟨r3, g3, hf⟩ := bind_some hf
      refine V_callV (pc := 79) (rest := []) (As := [.int v3, .int r2]) hC lk_X3_82 (by omega) (cel_State hs) rfl (c_X3_tellSwings hs g3) rfl rfl (Nat.le_of_ble_eq_true rfl) (by decide) dX3_hold_79 ?_
      change V X E 7 82 [(5, .int r2), (0, .ref (E.2.1 (8 * s))), (1, .ref (E.2.1 (51))), (2, .int v2), (3, .int v3), (4, .int v4)] [] r3
      refine V_aload_n (pc := 82) hC 1 dX3_hold_82 rfl rfl ?_
      refine gf_X3_28 (pc := 83) hs hC dX3_hold_83 ?_
      refine V_iload (pc := 86) hC 0 dX3_hold_86 rfl ?_
      refine V_aload_n (pc := 88) hC 1 dX3_hold_88 rfl rfl ?_
      refine V_iload_n (pc := 89) hC 4 dX3_hold_89 rfl rfl ?_
      obtain ⟨r4, g4, hf⟩ := bind_some hf
      refine V_callV (pc := 90) (rest := [.int r2, .ref (E.2.1 (8 * s + 4))]) (As := [.int v3]) hC lk_X3_67 (by omega) (cel_State hs) rfl (c_X3_weightOf hs g4) rfl rfl (Nat.le_of_ble_eq_true rfl) (by decide) dX3_hold_90 ?_
      change V X E 7 93 [(5, .int r2), (0, .ref (E.2.1 (8 * s))), (1, .ref (E.2.1 (51))), (2, .int v2), (3, .int v3), (4, .int v4)] [.int r4, .int r2, .ref (E.2.1 (8 * s + 4))] r3
      refine V_iload (pc := 93) hC 5 dX3_hold_93 rfl ?_
      obtain ⟨r5, g5, hf⟩ := bind_some hf
      refine V_callV (pc := 95) (rest := []) (As := [.int r2, .int r4, .int v4]) hC lk_X3_86 (by omega) (cel_Ballots hs) rfl (c_X0_add hs g5) rfl rfl (Nat.le_of_ble_eq_true rfl) (by decide) dX3_hold_95 ?_
      change V X E 7 98 [(5, .int r2), (0, .ref (E.2.1 (8 * s))), (1, .ref (E.2.1 (51))), (2, .int v2), (3, .int v3), (4, .int v4)] [] r5
      have hf := Option.some.inj hf; subst hf
      exact V_return (pc := 98) hR trivial dX3_hold_98
    · have hf := ite_f hf c1
      refine V_aload_n (pc := 17) hC 1 dX3_hold_17 rfl rfl ?_
      refine V_iload_n (pc := 18) hC 2 dX3_hold_18 rfl rfl ?_
      refine V_aload_n (pc := 19) hC 0 dX3_hold_19 rfl rfl ?_
      refine V_iload (pc := 20) hC 5 dX3_hold_20 rfl ?_
      obtain ⟨r6, g6, hf⟩ := bind_some hf
      refine V_callV (pc := 22) (rest := [.int v2, .ref (E.2.1 (51))]) (As := [.int v5]) hC lk_X3_70 (by omega) (cel_State hs) rfl (c_X3_leaderOf hs g6) rfl rfl (Nat.le_of_ble_eq_true rfl) (by decide) dX3_hold_22 ?_
      change V X E 7 25 [(0, .ref (E.2.1 (8 * s))), (1, .ref (E.2.1 (51))), (2, .int v2), (3, .int v3), (4, .int v4), (5, .int v5)] [.int r6, .int v2, .ref (E.2.1 (51))] I
      refine V_iadd (pc := 25) hC dX3_hold_25 ?_
      obtain ⟨r7, g7, hf⟩ := bind_some hf
      refine V_callV (pc := 26) (rest := []) (As := [.int (v2 + r6)]) hC lk_X3_73 (by decide) cel_X4 rfl (c_X4_at  g7) rfl rfl (Nat.le_of_ble_eq_true rfl) (by decide) dX3_hold_26 ?_
      change V X E 7 29 [(0, .ref (E.2.1 (8 * s))), (1, .ref (E.2.1 (51))), (2, .int v2), (3, .int v3), (4, .int v4), (5, .int v5)] [.int r7] I
      refine V_istore (pc := 29) (lv' := [(6, .int r7), (0, .ref (E.2.1 (8 * s))), (1, .ref (E.2.1 (51))), (2, .int v2), (3, .int v3), (4, .int v4), (5, .int v5)]) hC dX3_hold_29 (by decide) rfl ?_
      refine V_iload (pc := 31) hC 0 dX3_hold_31 rfl ?_
      refine V_bipush (pc := 33) hC dX3_hold_33 (v := (nI 43)) (by decide) ?_
      refine V_icmp_ne (pc := 35) (tgt := 46) hC dX3_hold_35 (by decide) (fun c8 => ?_) (fun c8 => ?_)
      · have hf := ite_f hf c8
        refine V_sub (pc := 46) (lv' := [(0, .ref (E.2.1 (8 * s))), (1, .ref (E.2.1 (51))), (2, .int v2), (3, .int v3), (4, .int v4), (5, .int v5), (6, .int r7)]) [1, 2, 3, 4, 5, 6, 0] rfl ?_
        exact b_X3_hold_46 hC hs ih hR hf
      · have hf := ite_t hf c8
        refine V_iload_n (pc := 38) hC 4 dX3_hold_38 rfl rfl ?_
        refine V_iload (pc := 39) hC 6 dX3_hold_39 rfl ?_
        refine V_callN (pc := 41) (rest := [.int v3]) (As := [.int v5]) hC lk_X3_48 (c_X5_bit  rfl) rfl rfl (Nat.le_of_ble_eq_true rfl) (by decide) dX3_hold_41 ?_
        change V X E 7 44 [(6, .int r7), (0, .ref (E.2.1 (8 * s))), (1, .ref (E.2.1 (51))), (2, .int v2), (3, .int v3), (4, .int v4), (5, .int v5)] [.int (f_X5_bit v5), .int v3] I
        refine V_ior (pc := 44) hC dX3_hold_44 ?_
        refine V_istore_n (pc := 45) (lv' := [(3, .int (v3 ||| (f_X5_bit v5))), (6, .int r7), (0, .ref (E.2.1 (8 * s))), (1, .ref (E.2.1 (51))), (2, .int v2), (4, .int v4), (5, .int v5)]) hC dX3_hold_45 rfl (by decide) rfl ?_
        refine V_sub (pc := 46) (lv' := [(0, .ref (E.2.1 (8 * s))), (1, .ref (E.2.1 (51))), (2, .int v2), (3, .int (v3 ||| (f_X5_bit v5))), (4, .int v4), (5, .int v5), (6, .int r7)]) [2, 3, 4, 0, 5, 6, 1] rfl ?_
        exact b_X3_hold_46 hC hs ih hR hf
def f_X3_hold (k : Nat) (s : Nat) (v2 : Int32) (I : Mem) : Option (Mem) := f_X3_hold_8 k s I v2 k (nI 0) (nI 0) (nI 0)
set_option maxHeartbeats 4000000 in
set_option maxRecDepth 100000 in
theorem c_X3_hold {E : EN} {k : Nat} {s : Nat} {v2 : Int32} {I : Mem} {r : Mem} (hs : s < 6) (hf : f_X3_hold k s v2 I = some r) : Ct E yX3_hold cX3_hold 7 none 5 108 [.ref (E.2.1 (8 * s)), .ref (E.2.1 (51)), .int v2] I none r := by
  refine Ct_of (by decide) (Nat.le_of_ble_eq_true rfl) (fun X hC0 hR => ?_)
  have hC : Cx X E cX3_hold 7 RX3 5 108 := hC0
  change V X E 7 0 [(0, .ref (E.2.1 (8 * s))), (1, .ref (E.2.1 (51))), (2, .int v2)] [] I
  unfold f_X3_hold at hf
  refine V_iconst (pc := 0) hC dX3_hold_0 (v := (nI 0)) (by decide) ?_
  refine V_istore_n (pc := 1) (lv' := [(3, .int (nI 0)), (0, .ref (E.2.1 (8 * s))), (1, .ref (E.2.1 (51))), (2, .int v2)]) hC dX3_hold_1 rfl (by decide) rfl ?_
  refine V_iconst (pc := 2) hC dX3_hold_2 (v := (nI 0)) (by decide) ?_
  refine V_istore (pc := 3) (lv' := [(4, .int (nI 0)), (3, .int (nI 0)), (0, .ref (E.2.1 (8 * s))), (1, .ref (E.2.1 (51))), (2, .int v2)]) hC dX3_hold_3 (by decide) rfl ?_
  refine V_iconst (pc := 5) hC dX3_hold_5 (v := (nI 0)) (by decide) ?_
  refine V_istore (pc := 6) (lv' := [(5, .int (nI 0)), (4, .int (nI 0)), (3, .int (nI 0)), (0, .ref (E.2.1 (8 * s))), (1, .ref (E.2.1 (51))), (2, .int v2)]) hC dX3_hold_6 (by decide) rfl ?_
  refine V_sub (pc := 8) (lv' := [(0, .ref (E.2.1 (8 * s))), (1, .ref (E.2.1 (51))), (2, .int v2), (3, .int (nI 0)), (4, .int (nI 0)), (5, .int (nI 0))]) [3, 4, 5, 2, 1, 0] rfl ?_
  exact b_X3_hold_8 hC hs hR k (nI 0) (nI 0) (nI 0) hf
def f_X4_append (k : Nat) (v1 : Int32) (I : Mem) : Option (Mem) := (if (nI 60) ≤ (I (51) 1) then some I else (if inB (I (51) 1) 60 = true then some (up2 (up2 I (52) (Int32.toNatClampNeg (I (51) 1)) (vp_nar .char v1)) (51) 1 (((up2 I (52) (Int32.toNatClampNeg (I (51) 1)) (vp_nar .char v1)) (51) 1) + (nI 1))) else none))
set_option maxHeartbeats 4000000 in
set_option maxRecDepth 100000 in
theorem c_X4_append {E : EN} {k : Nat} {v1 : Int32} {I : Mem} {r : Mem} (hf : f_X4_append k v1 I = some r) : Ct E yX4_append cX4_append 2 none 0 0 [.ref (E.2.1 (51)), .int v1] I none r := by
  refine Ct_of (by decide) (Nat.le_of_ble_eq_true rfl) (fun X hC0 hR => ?_)
  have hC : Cx X E cX4_append 2 RX4 0 0 := hC0
  change V X E 2 0 [(0, .ref (E.2.1 (51))), (1, .int v1)] [] I
  unfold f_X4_append at hf
  refine V_aload_n (pc := 0) hC 0 dX4_append_0 rfl rfl ?_
  refine gf_X4_15 (pc := 1) hC dX4_append_1 ?_
  refine V_bipush (pc := 4) hC dX4_append_4 (v := (nI 60)) (by decide) ?_
  refine V_icmp_ge (pc := 6) (tgt := 29) hC dX4_append_6 (by decide) (fun c1 => ?_) (fun c1 => ?_)
  · have hf := ite_t hf c1
    have hf := Option.some.inj hf; subst hf
    exact V_return (pc := 29) hR trivial dX4_append_29
  · have hf := ite_f hf c1
    refine V_aload_n (pc := 9) hC 0 dX4_append_9 rfl rfl ?_
    refine gf_X4_9 (pc := 10) hC dX4_append_10 ?_
    refine V_aload_n (pc := 13) hC 0 dX4_append_13 rfl rfl ?_
    refine gf_X4_15 (pc := 14) hC dX4_append_14 ?_
    refine V_iload_n (pc := 17) hC 1 dX4_append_17 rfl rfl ?_
    obtain ⟨h2, hf⟩ := if_some hf
    refine V_cast (pc := 18) hC ca_52 (inB_of h2) dX4_append_18 ?_
    refine V_aload_n (pc := 19) hC 0 dX4_append_19 rfl rfl ?_
    refine V_dup (pc := 20) hC dX4_append_20 rfl ?_
    refine gf_X4_15 (pc := 21) hC dX4_append_21 ?_
    refine V_iconst (pc := 24) hC dX4_append_24 (v := (nI 1)) (by decide) ?_
    refine V_iadd (pc := 25) hC dX4_append_25 ?_
    refine pf_X4_15 (pc := 26) hC dX4_append_26 ?_
    have hf := Option.some.inj hf; subst hf
    exact V_return (pc := 29) hR trivial dX4_append_29
def f_X4_isSign (v0 : Int32) : Int32 := (if v0 = (nI 43) then (nI 1) else (if v0 = (nI 45) then (nI 1) else (if v0 = (nI 48) then (nI 1) else (nI 0))))
set_option maxHeartbeats 4000000 in
set_option maxRecDepth 100000 in
theorem c_X4_isSign {E : EN} {v0 : Int32} {I : Mem} {r : Int32} (hf : f_X4_isSign v0 = r) : Ct E yX4_isSign cX4_isSign 1 (some .boolean) 0 0 [.int v0] I (some (.int r)) I := by
  refine Ct_of (by decide) (Nat.le_of_ble_eq_true rfl) (fun X hC0 hR => ?_)
  have hC : Cx X E cX4_isSign 1 RX4 0 0 := hC0
  change V X E 1 0 [(0, .int v0)] [] I
  unfold f_X4_isSign at hf
  refine V_iload_n (pc := 0) hC 0 dX4_isSign_0 rfl rfl ?_
  refine V_bipush (pc := 1) hC dX4_isSign_1 (v := (nI 43)) (by decide) ?_
  refine V_icmp_eq (pc := 3) (tgt := 18) hC dX4_isSign_3 (by decide) (fun c1 => ?_) (fun c1 => ?_)
  · have hf := ite_t hf c1
    refine V_iconst (pc := 18) hC dX4_isSign_18 (v := (nI 1)) (by decide) ?_
    refine V_goto (pc := 19) (tgt := 23) hC dX4_isSign_19 (by decide) ?_
    subst hf
    exact V_ireturn (pc := 23) hR (nar_z (by decide)) dX4_isSign_23
  · have hf := ite_f hf c1
    refine V_iload_n (pc := 6) hC 0 dX4_isSign_6 rfl rfl ?_
    refine V_bipush (pc := 7) hC dX4_isSign_7 (v := (nI 45)) (by decide) ?_
    refine V_icmp_eq (pc := 9) (tgt := 18) hC dX4_isSign_9 (by decide) (fun c2 => ?_) (fun c2 => ?_)
    · have hf := ite_t hf c2
      refine V_iconst (pc := 18) hC dX4_isSign_18 (v := (nI 1)) (by decide) ?_
      refine V_goto (pc := 19) (tgt := 23) hC dX4_isSign_19 (by decide) ?_
      subst hf
      exact V_ireturn (pc := 23) hR (nar_z (by decide)) dX4_isSign_23
    · have hf := ite_f hf c2
      refine V_iload_n (pc := 12) hC 0 dX4_isSign_12 rfl rfl ?_
      refine V_bipush (pc := 13) hC dX4_isSign_13 (v := (nI 48)) (by decide) ?_
      refine V_icmp_ne (pc := 15) (tgt := 22) hC dX4_isSign_15 (by decide) (fun c3 => ?_) (fun c3 => ?_)
      · have hf := ite_f hf c3
        refine V_iconst (pc := 22) hC dX4_isSign_22 (v := (nI 0)) (by decide) ?_
        subst hf
        exact V_ireturn (pc := 23) hR (nar_z (by decide)) dX4_isSign_23
      · have hf := ite_t hf c3
        refine V_iconst (pc := 18) hC dX4_isSign_18 (v := (nI 1)) (by decide) ?_
        refine V_goto (pc := 19) (tgt := 23) hC dX4_isSign_19 (by decide) ?_
        subst hf
        exact V_ireturn (pc := 23) hR (nar_z (by decide)) dX4_isSign_23
def f_X4_fault_63 (k : Nat) (I : Mem) (v1 : Int32) (v2 : Int32) (v3 : Int32) (v4 : Int32) (sh10 : Int32 → Int32 → Option (Int32)) : Option (Int32) := (if v4 = 0 then sh10 (v2 + (nI 1)) (v3 + (nI 1)) else sh10 (nI 0) (v3 + (nI 1)))
set_option maxHeartbeats 4000000 in
set_option maxRecDepth 100000 in
theorem b_X4_fault_63 {X : XT} {E : EN} {k : Nat} {I : Mem} {v1 : Int32} {v2 : Int32} {v3 : Int32} {v4 : Int32} {sh10 : Int32 → Int32 → Option (Int32)} {r : Int32} (hC : Cx X E cX4_fault 5 RX4 1 20) (hs10 : ∀ (v2 : Int32) (v3 : Int32), sh10 v2 v3 = some r → V X E 5 10 [(0, .ref (E.2.1 (51))), (1, .int v1), (2, .int v2), (3, .int v3)] [] I) (hR : Rt X E cX4_fault (some .int) (some (.int r)) I) (hf : f_X4_fault_63 k I v1 v2 v3 v4 sh10 = some r) : V X E 5 63 [(0, .ref (E.2.1 (51))), (1, .int v1), (2, .int v2), (3, .int v3), (4, .int v4)] [] I := by
  unfold f_X4_fault_63 at hf
  refine V_iload (pc := 63) hC 4 dX4_fault_63 rfl ?_
  refine V_if_eq (pc := 65) (tgt := 72) hC dX4_fault_65 (by decide) (fun c10 => ?_) (fun c10 => ?_)
  · have hf := ite_t hf c10
    refine V_iload_n (pc := 72) hC 2 dX4_fault_72 rfl rfl ?_
    refine V_iconst (pc := 73) hC dX4_fault_73 (v := (nI 1)) (by decide) ?_
    refine V_iadd (pc := 74) hC dX4_fault_74 ?_
    refine V_istore_n (pc := 75) (lv' := [(2, .int (v2 + (nI 1))), (0, .ref (E.2.1 (51))), (1, .int v1), (3, .int v3), (4, .int v4)]) hC dX4_fault_75 rfl (by decide) rfl ?_
    refine V_iinc (pc := 76) (lv' := [(3, .int (v3 + (nI 1))), (2, .int (v2 + (nI 1))), (0, .ref (E.2.1 (51))), (1, .int v1), (4, .int v4)]) hC (nI 1) 3 dX4_fault_76 rfl (by decide) (by decide) rfl ?_
    refine V_goto (pc := 79) (tgt := 10) hC dX4_fault_79 (by decide) ?_
    refine V_sub (pc := 10) (lv' := [(0, .ref (E.2.1 (51))), (1, .int v1), (2, .int (v2 + (nI 1))), (3, .int (v3 + (nI 1)))]) [2, 3, 1, 0] rfl ?_
    exact hs10 (v2 + (nI 1)) (v3 + (nI 1)) hf
  · have hf := ite_f hf c10
    refine V_iconst (pc := 68) hC dX4_fault_68 (v := (nI 0)) (by decide) ?_
    refine V_goto (pc := 69) (tgt := 75) hC dX4_fault_69 (by decide) ?_
    refine V_istore_n (pc := 75) (lv' := [(2, .int (nI 0)), (0, .ref (E.2.1 (51))), (1, .int v1), (3, .int v3), (4, .int v4)]) hC dX4_fault_75 rfl (by decide) rfl ?_
    refine V_iinc (pc := 76) (lv' := [(3, .int (v3 + (nI 1))), (2, .int (nI 0)), (0, .ref (E.2.1 (51))), (1, .int v1), (4, .int v4)]) hC (nI 1) 3 dX4_fault_76 rfl (by decide) (by decide) rfl ?_
    refine V_goto (pc := 79) (tgt := 10) hC dX4_fault_79 (by decide) ?_
    refine V_sub (pc := 10) (lv' := [(0, .ref (E.2.1 (51))), (1, .int v1), (2, .int (nI 0)), (3, .int (v3 + (nI 1)))]) [2, 3, 1, 0] rfl ?_
    exact hs10 (nI 0) (v3 + (nI 1)) hf
def f_X4_fault_28 (k : Nat) (I : Mem) (v1 : Int32) (v2 : Int32) (v3 : Int32) (sh10 : Int32 → Int32 → Option (Int32)) (w0 : Int32) : Option (Int32) := (if w0 = 0 then (if inB v3 60 = true then (if (f_X4_isSign (I (52) (Int32.toNatClampNeg v3))) = 0 then some v3 else f_X4_fault_63 k I v1 v2 v3 w0 sh10) else none) else (if inB v3 60 = true then (if (I (52) (Int32.toNatClampNeg v3)) = (nI 44) then f_X4_fault_63 k I v1 v2 v3 w0 sh10 else some v3) else none))
set_option maxHeartbeats 4000000 in
set_option maxRecDepth 100000 in
theorem b_X4_fault_28 {X : XT} {E : EN} {k : Nat} {I : Mem} {v1 : Int32} {v2 : Int32} {v3 : Int32} {sh10 : Int32 → Int32 → Option (Int32)} {w0 : Int32} {r : Int32} (hC : Cx X E cX4_fault 5 RX4 1 20) (hs10 : ∀ (v2 : Int32) (v3 : Int32), sh10 v2 v3 = some r → V X E 5 10 [(0, .ref (E.2.1 (51))), (1, .int v1), (2, .int v2), (3, .int v3)] [] I) (hR : Rt X E cX4_fault (some .int) (some (.int r)) I) (hf : f_X4_fault_28 k I v1 v2 v3 sh10 w0 = some r) : V X E 5 28 [(0, .ref (E.2.1 (51))), (1, .int v1), (2, .int v2), (3, .int v3)] [.int w0] I := by
  unfold f_X4_fault_28 at hf
  refine V_istore (pc := 28) (lv' := [(4, .int w0), (0, .ref (E.2.1 (51))), (1, .int v1), (2, .int v2), (3, .int v3)]) hC dX4_fault_28 (by decide) rfl ?_
  refine V_iload (pc := 30) hC 0 dX4_fault_30 rfl ?_
  refine V_if_eq (pc := 32) (tgt := 49) hC dX4_fault_32 (by decide) (fun c5 => ?_) (fun c5 => ?_)
  · have hf := ite_t hf c5
    refine V_aload_n (pc := 49) hC 1 dX4_fault_49 rfl rfl ?_
    refine gf_X4_9 (pc := 50) hC dX4_fault_50 ?_
    refine V_iload_n (pc := 53) hC 4 dX4_fault_53 rfl rfl ?_
    obtain ⟨h6, hf⟩ := if_some hf
    refine V_cald (pc := 54) hC ca_52 (inB_of h6) dX4_fault_54 ?_
    refine V_callS (pc := 55) (rest := []) (As := [.int (I (52) (Int32.toNatClampNeg v3))]) hC lk_X4_19 (c_X4_isSign  rfl) rfl rfl (Nat.le_of_ble_eq_true rfl) (by decide) dX4_fault_55 ?_
    change V X E 5 58 [(4, .int w0), (0, .ref (E.2.1 (51))), (1, .int v1), (2, .int v2), (3, .int v3)] [.int (f_X4_isSign (I (52) (Int32.toNatClampNeg v3)))] I
    refine V_if_ne (pc := 58) (tgt := 63) hC dX4_fault_58 (by decide) (fun c7 => ?_) (fun c7 => ?_)
    · have hf := ite_f hf c7
      refine V_sub (pc := 63) (lv' := [(0, .ref (E.2.1 (51))), (1, .int v1), (2, .int v2), (3, .int v3), (4, .int w0)]) [1, 2, 3, 4, 0] rfl ?_
      exact b_X4_fault_63 hC hs10 hR hf
    · have hf := ite_t hf c7
      refine V_iload_n (pc := 61) hC 4 dX4_fault_61 rfl rfl ?_
      have hf := Option.some.inj hf; subst hf
      exact V_ireturn (pc := 62) hR rfl dX4_fault_62
  · have hf := ite_f hf c5
    refine V_aload_n (pc := 35) hC 1 dX4_fault_35 rfl rfl ?_
    refine gf_X4_9 (pc := 36) hC dX4_fault_36 ?_
    refine V_iload_n (pc := 39) hC 4 dX4_fault_39 rfl rfl ?_
    obtain ⟨h8, hf⟩ := if_some hf
    refine V_cald (pc := 40) hC ca_52 (inB_of h8) dX4_fault_40 ?_
    refine V_bipush (pc := 41) hC dX4_fault_41 (v := (nI 44)) (by decide) ?_
    refine V_icmp_eq (pc := 43) (tgt := 63) hC dX4_fault_43 (by decide) (fun c9 => ?_) (fun c9 => ?_)
    · have hf := ite_t hf c9
      refine V_sub (pc := 63) (lv' := [(0, .ref (E.2.1 (51))), (1, .int v1), (2, .int v2), (3, .int v3), (4, .int w0)]) [1, 2, 3, 4, 0] rfl ?_
      exact b_X4_fault_63 hC hs10 hR hf
    · have hf := ite_f hf c9
      refine V_goto (pc := 46) (tgt := 61) hC dX4_fault_46 (by decide) ?_
      refine V_iload_n (pc := 61) hC 4 dX4_fault_61 rfl rfl ?_
      have hf := Option.some.inj hf; subst hf
      exact V_ireturn (pc := 62) hR rfl dX4_fault_62
def f_X4_fault_10 (k : Nat) (I : Mem) (v1 : Int32) : Nat → Int32 → Int32 → Option (Int32)
  | 0, _, _ => none
  | n + 1, v2, v3 => (if (I (51) 1) ≤ v3 then (if v2 = v1 then some (-1 : Int32) else some (I (51) 1)) else (if v2 = v1 then f_X4_fault_28 k I v1 v2 v3 (f_X4_fault_10 k I v1 n) (nI 1) else f_X4_fault_28 k I v1 v2 v3 (f_X4_fault_10 k I v1 n) (nI 0)))
set_option maxHeartbeats 4000000 in
set_option maxRecDepth 100000 in
theorem b_X4_fault_10 {X : XT} {E : EN} {k : Nat} {I : Mem} {v1 : Int32} {r : Int32} (hC : Cx X E cX4_fault 5 RX4 1 20) (hR : Rt X E cX4_fault (some .int) (some (.int r)) I) : ∀ (n : Nat) (v2 : Int32) (v3 : Int32), f_X4_fault_10 k I v1 n v2 v3 = some r → V X E 5 10 [(0, .ref (E.2.1 (51))), (1, .int v1), (2, .int v2), (3, .int v3)] [] I := by
  intro n
  induction n with
  | zero =>
    intro v2 v3 hf
    rw [f_X4_fault_10] at hf
    cases hf
  | succ n ih =>
    intro v2 v3 hf
    rw [f_X4_fault_10] at hf
    refine V_iload_n (pc := 10) hC 3 dX4_fault_10 rfl rfl ?_
    refine V_aload_n (pc := 11) hC 0 dX4_fault_11 rfl rfl ?_
    refine gf_X4_15 (pc := 12) hC dX4_fault_12 ?_
    refine V_icmp_ge (pc := 15) (tgt := 82) hC dX4_fault_15 (by decide) (fun c2 => ?_) (fun c2 => ?_)
    · have hf := ite_t hf c2
      refine V_iload_n (pc := 82) hC 2 dX4_fault_82 rfl rfl ?_
      refine V_iload_n (pc := 83) hC 1 dX4_fault_83 rfl rfl ?_
      refine V_icmp_ne (pc := 84) (tgt := 91) hC dX4_fault_84 (by decide) (fun c3 => ?_) (fun c3 => ?_)
      · have hf := ite_f hf c3
        refine V_aload_n (pc := 91) hC 0 dX4_fault_91 rfl rfl ?_
        refine gf_X4_15 (pc := 92) hC dX4_fault_92 ?_
        have hf := Option.some.inj hf; subst hf
        exact V_ireturn (pc := 95) hR rfl dX4_fault_95
      · have hf := ite_t hf c3
        refine V_iconst (pc := 87) hC dX4_fault_87 (v := (-1 : Int32)) (by decide) ?_
        refine V_goto (pc := 88) (tgt := 95) hC dX4_fault_88 (by decide) ?_
        have hf := Option.some.inj hf; subst hf
        exact V_ireturn (pc := 95) hR rfl dX4_fault_95
    · have hf := ite_f hf c2
      refine V_iload_n (pc := 18) hC 2 dX4_fault_18 rfl rfl ?_
      refine V_iload_n (pc := 19) hC 1 dX4_fault_19 rfl rfl ?_
      refine V_icmp_ne (pc := 20) (tgt := 27) hC dX4_fault_20 (by decide) (fun c4 => ?_) (fun c4 => ?_)
      · have hf := ite_f hf c4
        refine V_iconst (pc := 27) hC dX4_fault_27 (v := (nI 0)) (by decide) ?_
        exact b_X4_fault_28 hC ih hR hf
      · have hf := ite_t hf c4
        refine V_iconst (pc := 23) hC dX4_fault_23 (v := (nI 1)) (by decide) ?_
        refine V_goto (pc := 24) (tgt := 28) hC dX4_fault_24 (by decide) ?_
        exact b_X4_fault_28 hC ih hR hf
def f_X4_fault (k : Nat) (v1 : Int32) (I : Mem) : Option (Int32) := (if v1 = 0 then some (nI 0) else f_X4_fault_10 k I v1 k (nI 0) (nI 0))
set_option maxHeartbeats 4000000 in
set_option maxRecDepth 100000 in
theorem c_X4_fault {E : EN} {k : Nat} {v1 : Int32} {I : Mem} {r : Int32} (hf : f_X4_fault k v1 I = some r) : Ct E yX4_fault cX4_fault 5 (some .int) 1 20 [.ref (E.2.1 (51)), .int v1] I (some (.int r)) I := by
  refine Ct_of (by decide) (Nat.le_of_ble_eq_true rfl) (fun X hC0 hR => ?_)
  have hC : Cx X E cX4_fault 5 RX4 1 20 := hC0
  change V X E 5 0 [(0, .ref (E.2.1 (51))), (1, .int v1)] [] I
  unfold f_X4_fault at hf
  refine V_iload_n (pc := 0) hC 1 dX4_fault_0 rfl rfl ?_
  refine V_if_ne (pc := 1) (tgt := 6) hC dX4_fault_1 (by decide) (fun c1 => ?_) (fun c1 => ?_)
  · have hf := ite_f hf c1
    refine V_iconst (pc := 6) hC dX4_fault_6 (v := (nI 0)) (by decide) ?_
    refine V_istore_n (pc := 7) (lv' := [(2, .int (nI 0)), (0, .ref (E.2.1 (51))), (1, .int v1)]) hC dX4_fault_7 rfl (by decide) rfl ?_
    refine V_iconst (pc := 8) hC dX4_fault_8 (v := (nI 0)) (by decide) ?_
    refine V_istore_n (pc := 9) (lv' := [(3, .int (nI 0)), (2, .int (nI 0)), (0, .ref (E.2.1 (51))), (1, .int v1)]) hC dX4_fault_9 rfl (by decide) rfl ?_
    refine V_sub (pc := 10) (lv' := [(0, .ref (E.2.1 (51))), (1, .int v1), (2, .int (nI 0)), (3, .int (nI 0))]) [2, 3, 1, 0] rfl ?_
    exact b_X4_fault_10 hC hR k (nI 0) (nI 0) hf
  · have hf := ite_t hf c1
    refine V_iconst (pc := 4) hC dX4_fault_4 (v := (nI 0)) (by decide) ?_
    have hf := Option.some.inj hf; subst hf
    exact V_ireturn (pc := 5) hR rfl dX4_fault_5
