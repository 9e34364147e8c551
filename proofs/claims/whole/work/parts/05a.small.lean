theorem cel_X5 {ad cc : Nat → Nat} {f : Nat → Int32} : cel ad cc 48 f = .inr (5, [.ref (ad (8 * 0)), .ref (ad (8 * 1)), .int (f 2), .ref (ad 49), .ref (ad 51), .ref (ad 53), .int (f 6)]) := rfl
theorem cel_X1 {ad cc : Nat → Nat} {f : Nat → Int32} : cel ad cc 49 f = .inr (1, [.ref (ad 50), .int (f 1)]) := rfl
theorem cel_X4 {ad cc : Nat → Nat} {f : Nat → Int32} : cel ad cc 51 f = .inr (4, [.ref (ad 52), .int (f 1)]) := rfl
theorem cel_X2 {ad cc : Nat → Nat} {f : Nat → Int32} : cel ad cc 53 f = .inr (2, [.int (f 0), .int (f 1), .int (f 2), .int (f 3), .int (f 4), .ref (ad 54), .ref (ad 55), .ref (ad 56), .ref (ad 57), .int (f 9), .ref (ad 58), .ref (ad 59), .int (f 12)]) := rfl
theorem cel_X6 {ad cc : Nat → Nat} {f : Nat → Int32} : cel ad cc 71 f = .inr (6, [.ref (ad 72), .ref (ad 73), .ref (ad 74), .int (f 3), .int (f 4), .ref (ad 75), .int (f 6), .int (f 7), .int (f 8), .ref (ad 76), .ref (ad 77), .ref (ad 78), .int (f 12), .ref (ad 79), .ref (ad 80), .int (f 15), .ref (ad 81), .int (f 17)]) := rfl
def f_X5_oneIf (v0 : Int32) : Int32 := (if v0 = 0 then (nI 0) else (nI 1))
set_option maxHeartbeats 4000000 in
set_option maxRecDepth 100000 in
theorem c_X5_oneIf {E : EN} {v0 : Int32} {I : Mem} {r : Int32} (hf : f_X5_oneIf v0 = r) : Ct E yX5_oneIf cX5_oneIf 1 (some .int) 0 0 [.int v0] I (some (.int r)) I := by
  refine Ct_of (by decide) (Nat.le_of_ble_eq_true rfl) (fun X hC0 hR => ?_)
  have hC : Cx X E cX5_oneIf 1 RX5 0 0 := hC0
  change V X E 1 0 [(0, .int v0)] [] I
  unfold f_X5_oneIf at hf
  refine V_iload_n (pc := 0) hC 0 dX5_oneIf_0 rfl rfl ?_
  refine V_if_eq (pc := 1) (tgt := 8) hC dX5_oneIf_1 (by decide) (fun c1 => ?_) (fun c1 => ?_)
  · have hf := ite_t hf c1
    refine V_iconst (pc := 8) hC dX5_oneIf_8 (v := (nI 0)) (by decide) ?_
    subst hf
    exact V_ireturn (pc := 9) hR rfl dX5_oneIf_9
  · have hf := ite_f hf c1
    refine V_iconst (pc := 4) hC dX5_oneIf_4 (v := (nI 1)) (by decide) ?_
    refine V_goto (pc := 5) (tgt := 9) hC dX5_oneIf_5 (by decide) ?_
    subst hf
    exact V_ireturn (pc := 9) hR rfl dX5_oneIf_9
def f_J6_bitCount_0f7a4 (v0 : Int32) : Int32 := ((((((((v0 - ((iushr v0 (nI 1)) &&& (nI 1431655765))) &&& (nI 858993459)) + ((iushr (v0 - ((iushr v0 (nI 1)) &&& (nI 1431655765))) (nI 2)) &&& (nI 858993459))) + (iushr (((v0 - ((iushr v0 (nI 1)) &&& (nI 1431655765))) &&& (nI 858993459)) + ((iushr (v0 - ((iushr v0 (nI 1)) &&& (nI 1431655765))) (nI 2)) &&& (nI 858993459))) (nI 4))) &&& (nI 252645135)) + (iushr (((((v0 - ((iushr v0 (nI 1)) &&& (nI 1431655765))) &&& (nI 858993459)) + ((iushr (v0 - ((iushr v0 (nI 1)) &&& (nI 1431655765))) (nI 2)) &&& (nI 858993459))) + (iushr (((v0 - ((iushr v0 (nI 1)) &&& (nI 1431655765))) &&& (nI 858993459)) + ((iushr (v0 - ((iushr v0 (nI 1)) &&& (nI 1431655765))) (nI 2)) &&& (nI 858993459))) (nI 4))) &&& (nI 252645135)) (nI 8))) + (iushr ((((((v0 - ((iushr v0 (nI 1)) &&& (nI 1431655765))) &&& (nI 858993459)) + ((iushr (v0 - ((iushr v0 (nI 1)) &&& (nI 1431655765))) (nI 2)) &&& (nI 858993459))) + (iushr (((v0 - ((iushr v0 (nI 1)) &&& (nI 1431655765))) &&& (nI 858993459)) + ((iushr (v0 - ((iushr v0 (nI 1)) &&& (nI 1431655765))) (nI 2)) &&& (nI 858993459))) (nI 4))) &&& (nI 252645135)) + (iushr (((((v0 - ((iushr v0 (nI 1)) &&& (nI 1431655765))) &&& (nI 858993459)) + ((iushr (v0 - ((iushr v0 (nI 1)) &&& (nI 1431655765))) (nI 2)) &&& (nI 858993459))) + (iushr (((v0 - ((iushr v0 (nI 1)) &&& (nI 1431655765))) &&& (nI 858993459)) + ((iushr (v0 - ((iushr v0 (nI 1)) &&& (nI 1431655765))) (nI 2)) &&& (nI 858993459))) (nI 4))) &&& (nI 252645135)) (nI 8))) (nI 16))) &&& (nI 63))
set_option maxHeartbeats 4000000 in
set_option maxRecDepth 100000 in
theorem c_J6_bitCount_0f7a4 {E : EN} {v0 : Int32} {I : Mem} {r : Int32} (hf : f_J6_bitCount_0f7a4 v0 = r) : Ct E yJ6_bitCount_0f7a4 cJ6_bitCount_0f7a4 1 (some .int) 0 0 [.int v0] I (some (.int r)) I := by
  refine Ct_of (by decide) (Nat.le_of_ble_eq_true rfl) (fun X hC0 hR => ?_)
  have hC : Cx X E cJ6_bitCount_0f7a4 1 RJ6 0 0 := hC0
  change V X E 1 0 [(0, .int v0)] [] I
  unfold f_J6_bitCount_0f7a4 at hf
  refine V_iload_n (pc := 0) hC 0 dJ6_bitCount_0f7a4_0 rfl rfl ?_
  refine V_iload_n (pc := 1) hC 0 dJ6_bitCount_0f7a4_1 rfl rfl ?_
  refine V_iconst (pc := 2) hC dJ6_bitCount_0f7a4_2 (v := (nI 1)) (by decide) ?_
  refine V_iushr (pc := 3) hC dJ6_bitCount_0f7a4_3 ?_
  refine V_ldcw (pc := 4) hC ct_J6_265 dJ6_bitCount_0f7a4_4 ?_
  refine V_iand (pc := 7) hC dJ6_bitCount_0f7a4_7 ?_
  refine V_isub (pc := 8) hC dJ6_bitCount_0f7a4_8 ?_
  refine V_istore_n (pc := 9) (lv' := [(0, .int (v0 - ((iushr v0 (nI 1)) &&& (nI 1431655765))))]) hC dJ6_bitCount_0f7a4_9 rfl (by decide) rfl ?_
  refine V_iload_n (pc := 10) hC 0 dJ6_bitCount_0f7a4_10 rfl rfl ?_
  refine V_ldcw (pc := 11) hC ct_J6_266 dJ6_bitCount_0f7a4_11 ?_
  refine V_iand (pc := 14) hC dJ6_bitCount_0f7a4_14 ?_
  refine V_iload_n (pc := 15) hC 0 dJ6_bitCount_0f7a4_15 rfl rfl ?_
  refine V_iconst (pc := 16) hC dJ6_bitCount_0f7a4_16 (v := (nI 2)) (by decide) ?_
  refine V_iushr (pc := 17) hC dJ6_bitCount_0f7a4_17 ?_
  refine V_ldcw (pc := 18) hC ct_J6_266 dJ6_bitCount_0f7a4_18 ?_
  refine V_iand (pc := 21) hC dJ6_bitCount_0f7a4_21 ?_
  refine V_iadd (pc := 22) hC dJ6_bitCount_0f7a4_22 ?_
  refine V_istore_n (pc := 23) (lv' := [(0, .int (((v0 - ((iushr v0 (nI 1)) &&& (nI 1431655765))) &&& (nI 858993459)) + ((iushr (v0 - ((iushr v0 (nI 1)) &&& (nI 1431655765))) (nI 2)) &&& (nI 858993459))))]) hC dJ6_bitCount_0f7a4_23 rfl (by decide) rfl ?_
  refine V_iload_n (pc := 24) hC 0 dJ6_bitCount_0f7a4_24 rfl rfl ?_
  refine V_iload_n (pc := 25) hC 0 dJ6_bitCount_0f7a4_25 rfl rfl ?_
  refine V_iconst (pc := 26) hC dJ6_bitCount_0f7a4_26 (v := (nI 4)) (by decide) ?_
  refine V_iushr (pc := 27) hC dJ6_bitCount_0f7a4_27 ?_
  refine V_iadd (pc := 28) hC dJ6_bitCount_0f7a4_28 ?_
  refine V_ldcw (pc := 29) hC ct_J6_267 dJ6_bitCount_0f7a4_29 ?_
  refine V_iand (pc := 32) hC dJ6_bitCount_0f7a4_32 ?_
  refine V_istore_n (pc := 33) (lv' := [(0, .int (((((v0 - ((iushr v0 (nI 1)) &&& (nI 1431655765))) &&& (nI 858993459)) + ((iushr (v0 - ((iushr v0 (nI 1)) &&& (nI 1431655765))) (nI 2)) &&& (nI 858993459))) + (iushr (((v0 - ((iushr v0 (nI 1)) &&& (nI 1431655765))) &&& (nI 858993459)) + ((iushr (v0 - ((iushr v0 (nI 1)) &&& (nI 1431655765))) (nI 2)) &&& (nI 858993459))) (nI 4))) &&& (nI 252645135)))]) hC dJ6_bitCount_0f7a4_33 rfl (by decide) rfl ?_
  refine V_iload_n (pc := 34) hC 0 dJ6_bitCount_0f7a4_34 rfl rfl ?_
  refine V_iload_n (pc := 35) hC 0 dJ6_bitCount_0f7a4_35 rfl rfl ?_
  refine V_bipush (pc := 36) hC dJ6_bitCount_0f7a4_36 (v := (nI 8)) (by decide) ?_
  refine V_iushr (pc := 38) hC dJ6_bitCount_0f7a4_38 ?_
  refine V_iadd (pc := 39) hC dJ6_bitCount_0f7a4_39 ?_
  refine V_istore_n (pc := 40) (lv' := [(0, .int ((((((v0 - ((iushr v0 (nI 1)) &&& (nI 1431655765))) &&& (nI 858993459)) + ((iushr (v0 - ((iushr v0 (nI 1)) &&& (nI 1431655765))) (nI 2)) &&& (nI 858993459))) + (iushr (((v0 - ((iushr v0 (nI 1)) &&& (nI 1431655765))) &&& (nI 858993459)) + ((iushr (v0 - ((iushr v0 (nI 1)) &&& (nI 1431655765))) (nI 2)) &&& (nI 858993459))) (nI 4))) &&& (nI 252645135)) + (iushr (((((v0 - ((iushr v0 (nI 1)) &&& (nI 1431655765))) &&& (nI 858993459)) + ((iushr (v0 - ((iushr v0 (nI 1)) &&& (nI 1431655765))) (nI 2)) &&& (nI 858993459))) + (iushr (((v0 - ((iushr v0 (nI 1)) &&& (nI 1431655765))) &&& (nI 858993459)) + ((iushr (v0 - ((iushr v0 (nI 1)) &&& (nI 1431655765))) (nI 2)) &&& (nI 858993459))) (nI 4))) &&& (nI 252645135)) (nI 8))))]) hC dJ6_bitCount_0f7a4_40 rfl (by decide) rfl ?_
  refine V_iload_n (pc := 41) hC 0 dJ6_bitCount_0f7a4_41 rfl rfl ?_
  refine V_iload_n (pc := 42) hC 0 dJ6_bitCount_0f7a4_42 rfl rfl ?_
  refine V_bipush (pc := 43) hC dJ6_bitCount_0f7a4_43 (v := (nI 16)) (by decide) ?_
  refine V_iushr (pc := 45) hC dJ6_bitCount_0f7a4_45 ?_
  refine V_iadd (pc := 46) hC dJ6_bitCount_0f7a4_46 ?_
  refine V_istore_n (pc := 47) (lv' := [(0, .int (((((((v0 - ((iushr v0 (nI 1)) &&& (nI 1431655765))) &&& (nI 858993459)) + ((iushr (v0 - ((iushr v0 (nI 1)) &&& (nI 1431655765))) (nI 2)) &&& (nI 858993459))) + (iushr (((v0 - ((iushr v0 (nI 1)) &&& (nI 1431655765))) &&& (nI 858993459)) + ((iushr (v0 - ((iushr v0 (nI 1)) &&& (nI 1431655765))) (nI 2)) &&& (nI 858993459))) (nI 4))) &&& (nI 252645135)) + (iushr (((((v0 - ((iushr v0 (nI 1)) &&& (nI 1431655765))) &&& (nI 858993459)) + ((iushr (v0 - ((iushr v0 (nI 1)) &&& (nI 1431655765))) (nI 2)) &&& (nI 858993459))) + (iushr (((v0 - ((iushr v0 (nI 1)) &&& (nI 1431655765))) &&& (nI 858993459)) + ((iushr (v0 - ((iushr v0 (nI 1)) &&& (nI 1431655765))) (nI 2)) &&& (nI 858993459))) (nI 4))) &&& (nI 252645135)) (nI 8))) + (iushr ((((((v0 - ((iushr v0 (nI 1)) &&& (nI 1431655765))) &&& (nI 858993459)) + ((iushr (v0 - ((iushr v0 (nI 1)) &&& (nI 1431655765))) (nI 2)) &&& (nI 858993459))) + (iushr (((v0 - ((iushr v0 (nI 1)) &&& (nI 1431655765))) &&& (nI 858993459)) + ((iushr (v0 - ((iushr v0 (nI 1)) &&& (nI 1431655765))) (nI 2)) &&& (nI 858993459))) (nI 4))) &&& (nI 252645135)) + (iushr (((((v0 - ((iushr v0 (nI 1)) &&& (nI 1431655765))) &&& (nI 858993459)) + ((iushr (v0 - ((iushr v0 (nI 1)) &&& (nI 1431655765))) (nI 2)) &&& (nI 858993459))) + (iushr (((v0 - ((iushr v0 (nI 1)) &&& (nI 1431655765))) &&& (nI 858993459)) + ((iushr (v0 - ((iushr v0 (nI 1)) &&& (nI 1431655765))) (nI 2)) &&& (nI 858993459))) (nI 4))) &&& (nI 252645135)) (nI 8))) (nI 16))))]) hC dJ6_bitCount_0f7a4_47 rfl (by decide) rfl ?_
  refine V_iload_n (pc := 48) hC 0 dJ6_bitCount_0f7a4_48 rfl rfl ?_
  refine V_bipush (pc := 49) hC dJ6_bitCount_0f7a4_49 (v := (nI 63)) (by decide) ?_
  refine V_iand (pc := 51) hC dJ6_bitCount_0f7a4_51 ?_
  subst hf
  exact V_ireturn (pc := 52) hR rfl dJ6_bitCount_0f7a4_52
def f_J7_fill_53178_5 (k : Nat) (a0 : Nat) (v1 : Int32) (v3 : Int32) : Nat → Int32 → Mem → Option (Mem)
  | 0, _, _ => none
  | n + 1, v2, I => (if v3 ≤ v2 then some I else (if inB v2 501 = true then (f_J7_fill_53178_5 k a0 v1 v3 n) (v2 + (nI 1)) (up2 I (a0) (Int32.toNatClampNeg v2) v1) else none))
set_option maxHeartbeats 4000000 in
set_option maxRecDepth 100000 in
theorem b_J7_fill_53178_5 {X : XT} {E : EN} {k : Nat} {a0 : Nat} {v1 : Int32} {v3 : Int32} {r : Mem} (hC : Cx X E cJ7_fill_53178 4 RJ7 0 0) (ha0 : IA a0 501) (hR : Rt X E cJ7_fill_53178 none none r) : ∀ (n : Nat) (v2 : Int32) (I : Mem), f_J7_fill_53178_5 k a0 v1 v3 n v2 I = some r → V X E 4 5 [(0, .ref (E.2.1 (a0))), (1, .int v1), (2, .int v2), (3, .int v3)] [] I := by
  intro n
  induction n with
  | zero =>
    intro v2 I hf
    rw [f_J7_fill_53178_5] at hf
    cases hf
  | succ n ih =>
    intro v2 I hf
    rw [f_J7_fill_53178_5] at hf
    refine V_iload_n (pc := 5) hC 2 dJ7_fill_53178_5 rfl rfl ?_
    refine V_iload_n (pc := 6) hC 3 dJ7_fill_53178_6 rfl rfl ?_
    refine V_icmp_ge (pc := 7) (tgt := 20) hC dJ7_fill_53178_7 (by decide) (fun c1 => ?_) (fun c1 => ?_)
    · have hf := ite_t hf c1
      have hf := Option.some.inj hf; subst hf
      exact V_return (pc := 20) hR trivial dJ7_fill_53178_20
    · have hf := ite_f hf c1
      refine V_aload_n (pc := 10) hC 0 dJ7_fill_53178_10 rfl rfl ?_
      refine V_iload_n (pc := 11) hC 2 dJ7_fill_53178_11 rfl rfl ?_
      refine V_iload_n (pc := 12) hC 1 dJ7_fill_53178_12 rfl rfl ?_
      obtain ⟨h2, hf⟩ := if_some hf
      refine V_iast (pc := 13) hC ha0 (inB_of h2) dJ7_fill_53178_13 ?_
      refine V_iinc (pc := 14) (lv' := [(2, .int (v2 + (nI 1))), (0, .ref (E.2.1 (a0))), (1, .int v1), (3, .int v3)]) hC (nI 1) 2 dJ7_fill_53178_14 rfl (by decide) (by decide) rfl ?_
      refine V_goto (pc := 17) (tgt := 5) hC dJ7_fill_53178_17 (by decide) ?_
      refine V_sub (pc := 5) (lv' := [(0, .ref (E.2.1 (a0))), (1, .int v1), (2, .int (v2 + (nI 1))), (3, .int v3)]) [1, 2, 0, 3] rfl ?_
      exact ih (v2 + (nI 1)) (up2 I (a0) (Int32.toNatClampNeg v2) v1) hf
def f_J7_fill_53178 (k : Nat) (a0 : Nat) (v1 : Int32) (I : Mem) : Option (Mem) := f_J7_fill_53178_5 k a0 v1 (nI 501) k (nI 0) I
set_option maxHeartbeats 4000000 in
set_option maxRecDepth 100000 in
theorem c_J7_fill_53178 {E : EN} {k : Nat} {a0 : Nat} {v1 : Int32} {I : Mem} {r : Mem} (ha0 : IA a0 501) (hf : f_J7_fill_53178 k a0 v1 I = some r) : Ct E yJ7_fill_53178 cJ7_fill_53178 4 none 0 0 [.ref (E.2.1 (a0)), .int v1] I none r := by
  refine Ct_of (by decide) (Nat.le_of_ble_eq_true rfl) (fun X hC0 hR => ?_)
  have hC : Cx X E cJ7_fill_53178 4 RJ7 0 0 := hC0
  change V X E 4 0 [(0, .ref (E.2.1 (a0))), (1, .int v1)] [] I
  unfold f_J7_fill_53178 at hf
  refine V_iconst (pc := 0) hC dJ7_fill_53178_0 (v := (nI 0)) (by decide) ?_
  refine V_istore_n (pc := 1) (lv' := [(2, .int (nI 0)), (0, .ref (E.2.1 (a0))), (1, .int v1)]) hC dJ7_fill_53178_1 rfl (by decide) rfl ?_
  refine V_aload_n (pc := 2) hC 1 dJ7_fill_53178_2 rfl rfl ?_
  refine V_ialen (pc := 3) (v := (nI 501)) hC ha0 (by decide) dJ7_fill_53178_3 ?_
  refine V_istore_n (pc := 4) (lv' := [(3, .int (nI 501)), (2, .int (nI 0)), (0, .ref (E.2.1 (a0))), (1, .int v1)]) hC dJ7_fill_53178_4 rfl (by decide) rfl ?_
  refine V_sub (pc := 5) (lv' := [(0, .ref (E.2.1 (a0))), (1, .int v1), (2, .int (nI 0)), (3, .int (nI 501))]) [2, 3, 1, 0] rfl ?_
  exact b_J7_fill_53178_5 hC ha0 hR k (nI 0) I hf
def f_X5_bit (v0 : Int32) : Int32 := ((nI 1) <<< (v0 &&& 31))
set_option maxHeartbeats 4000000 in
set_option maxRecDepth 100000 in
theorem c_X5_bit {E : EN} {v0 : Int32} {I : Mem} {r : Int32} (hf : f_X5_bit v0 = r) : Ct E yX5_bit cX5_bit 1 (some .int) 0 0 [.int v0] I (some (.int r)) I := by
  refine Ct_of (by decide) (Nat.le_of_ble_eq_true rfl) (fun X hC0 hR => ?_)
  have hC : Cx X E cX5_bit 1 RX5 0 0 := hC0
  change V X E 1 0 [(0, .int v0)] [] I
  unfold f_X5_bit at hf
  refine V_iconst (pc := 0) hC dX5_bit_0 (v := (nI 1)) (by decide) ?_
  refine V_iload_n (pc := 1) hC 0 dX5_bit_1 rfl rfl ?_
  refine V_ishl (pc := 2) hC dX5_bit_2 ?_
  subst hf
  exact V_ireturn (pc := 3) hR rfl dX5_bit_3
def f_X5_holds (v0 : Int32) (v1 : Int32) : Int32 := (if (v0 &&& (f_X5_bit v1)) = 0 then (nI 0) else (nI 1))
set_option maxHeartbeats 4000000 in
set_option maxRecDepth 100000 in
theorem c_X5_holds {E : EN} {v0 : Int32} {v1 : Int32} {I : Mem} {r : Int32} (hf : f_X5_holds v0 v1 = r) : Ct E yX5_holds cX5_holds 2 (some .boolean) 1 20 [.int v0, .int v1] I (some (.int r)) I := by
  refine Ct_of (by decide) (Nat.le_of_ble_eq_true rfl) (fun X hC0 hR => ?_)
  have hC : Cx X E cX5_holds 2 RX5 1 20 := hC0
  change V X E 2 0 [(0, .int v0), (1, .int v1)] [] I
  unfold f_X5_holds at hf
  refine V_iload_n (pc := 0) hC 0 dX5_holds_0 rfl rfl ?_
  refine V_iload_n (pc := 1) hC 1 dX5_holds_1 rfl rfl ?_
  refine V_callS (pc := 2) (rest := [.int v0]) (As := [.int v1]) hC lk_X5_69 (c_X5_bit  rfl) rfl rfl (Nat.le_of_ble_eq_true rfl) (by decide) dX5_holds_2 ?_
  change V X E 2 5 [(0, .int v0), (1, .int v1)] [.int (f_X5_bit v1), .int v0] I
  refine V_iand (pc := 5) hC dX5_holds_5 ?_
  refine V_if_eq (pc := 6) (tgt := 13) hC dX5_holds_6 (by decide) (fun c1 => ?_) (fun c1 => ?_)
  · have hf := ite_t hf c1
    refine V_iconst (pc := 13) hC dX5_holds_13 (v := (nI 0)) (by decide) ?_
    subst hf
    exact V_ireturn (pc := 14) hR (nar_z (by decide)) dX5_holds_14
  · have hf := ite_f hf c1
    refine V_iconst (pc := 9) hC dX5_holds_9 (v := (nI 1)) (by decide) ?_
    refine V_goto (pc := 10) (tgt := 14) hC dX5_holds_10 (by decide) ?_
    subst hf
    exact V_ireturn (pc := 14) hR (nar_z (by decide)) dX5_holds_14
def f_X5_factorial (k : Nat) (v0 : Int32) (I : Mem) : Option (Int32) := (if v0 < 0 then some (nI 0) else (if (nI 11) ≤ v0 then some (nI 0) else (if inB v0 11 = true then some (facI (Int32.toNatClampNeg v0)) else none)))
set_option maxHeartbeats 4000000 in
set_option maxRecDepth 100000 in
theorem c_X5_factorial {E : EN} {k : Nat} {v0 : Int32} {I : Mem} {r : Int32} (hf : f_X5_factorial k v0 I = some r) : Ct E yX5_factorial cX5_factorial 1 (some .int) 0 0 [.int v0] I (some (.int r)) I := by
  refine Ct_of (by decide) (Nat.le_of_ble_eq_true rfl) (fun X hC0 hR => ?_)
  have hC : Cx X E cX5_factorial 1 RX5 0 0 := hC0
  change V X E 1 0 [(0, .int v0)] [] I
  unfold f_X5_factorial at hf
  refine V_iload_n (pc := 0) hC 0 dX5_factorial_0 rfl rfl ?_
  refine V_if_lt (pc := 1) (tgt := 20) hC dX5_factorial_1 (by decide) (fun c1 => ?_) (fun c1 => ?_)
  · have hf := ite_t hf c1
    refine V_iconst (pc := 20) hC dX5_factorial_20 (v := (nI 0)) (by decide) ?_
    have hf := Option.some.inj hf; subst hf
    exact V_ireturn (pc := 21) hR rfl dX5_factorial_21
  · have hf := ite_f hf c1
    refine V_iload_n (pc := 4) hC 0 dX5_factorial_4 rfl rfl ?_
    refine V_gets (pc := 5) hC gs_X5_238 dX5_factorial_5 ?_
    refine V_tlen (pc := 8) hC dX5_factorial_8 ?_
    refine V_icmp_ge (pc := 9) (tgt := 20) hC dX5_factorial_9 (by decide) (fun c2 => ?_) (fun c2 => ?_)
    · have hf := ite_t hf c2
      refine V_iconst (pc := 20) hC dX5_factorial_20 (v := (nI 0)) (by decide) ?_
      have hf := Option.some.inj hf; subst hf
      exact V_ireturn (pc := 21) hR rfl dX5_factorial_21
    · have hf := ite_f hf c2
      refine V_gets (pc := 12) hC gs_X5_238 dX5_factorial_12 ?_
      refine V_iload_n (pc := 15) hC 0 dX5_factorial_15 rfl rfl ?_
      obtain ⟨h3, hf⟩ := if_some hf
      refine V_tld (pc := 16) hC (inB_of h3) dX5_factorial_16 ?_
      refine V_goto (pc := 17) (tgt := 21) hC dX5_factorial_17 (by decide) ?_
      have hf := Option.some.inj hf; subst hf
      exact V_ireturn (pc := 21) hR rfl dX5_factorial_21
def f_J6_compare_7cf53 (v0 : Int32) (v1 : Int32) : Int32 := (if v1 ≤ v0 then (if v0 = v1 then (nI 0) else (nI 1)) else (-1 : Int32))
set_option maxHeartbeats 4000000 in
set_option maxRecDepth 100000 in
theorem c_J6_compare_7cf53 {E : EN} {v0 : Int32} {v1 : Int32} {I : Mem} {r : Int32} (hf : f_J6_compare_7cf53 v0 v1 = r) : Ct E yJ6_compare_7cf53 cJ6_compare_7cf53 2 (some .int) 0 0 [.int v0, .int v1] I (some (.int r)) I := by
  refine Ct_of (by decide) (Nat.le_of_ble_eq_true rfl) (fun X hC0 hR => ?_)
  have hC : Cx X E cJ6_compare_7cf53 2 RJ6 0 0 := hC0
  change V X E 2 0 [(0, .int v0), (1, .int v1)] [] I
  unfold f_J6_compare_7cf53 at hf
  refine V_iload_n (pc := 0) hC 0 dJ6_compare_7cf53_0 rfl rfl ?_
  refine V_iload_n (pc := 1) hC 1 dJ6_compare_7cf53_1 rfl rfl ?_
  refine V_icmp_ge (pc := 2) (tgt := 9) hC dJ6_compare_7cf53_2 (by decide) (fun c1 => ?_) (fun c1 => ?_)
  · have hf := ite_t hf c1
    refine V_iload_n (pc := 9) hC 0 dJ6_compare_7cf53_9 rfl rfl ?_
    refine V_iload_n (pc := 10) hC 1 dJ6_compare_7cf53_10 rfl rfl ?_
    refine V_icmp_ne (pc := 11) (tgt := 18) hC dJ6_compare_7cf53_11 (by decide) (fun c2 => ?_) (fun c2 => ?_)
    · have hf := ite_f hf c2
      refine V_iconst (pc := 18) hC dJ6_compare_7cf53_18 (v := (nI 1)) (by decide) ?_
      subst hf
      exact V_ireturn (pc := 19) hR rfl dJ6_compare_7cf53_19
    · have hf := ite_t hf c2
      refine V_iconst (pc := 14) hC dJ6_compare_7cf53_14 (v := (nI 0)) (by decide) ?_
      refine V_goto (pc := 15) (tgt := 19) hC dJ6_compare_7cf53_15 (by decide) ?_
      subst hf
      exact V_ireturn (pc := 19) hR rfl dJ6_compare_7cf53_19
  · have hf := ite_f hf c1
    refine V_iconst (pc := 5) hC dJ6_compare_7cf53_5 (v := (-1 : Int32)) (by decide) ?_
    refine V_goto (pc := 6) (tgt := 19) hC dJ6_compare_7cf53_6 (by decide) ?_
    subst hf
    exact V_ireturn (pc := 19) hR rfl dJ6_compare_7cf53_19
