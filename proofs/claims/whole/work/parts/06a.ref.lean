def f_X6_in (v0 : Int32) (v1 : Int32) (v2 : Int32) : Int32 := (if v0 < v1 then (nI 0) else (if v2 < v0 then (nI 0) else (nI 1)))
set_option maxHeartbeats 4000000 in
set_option maxRecDepth 100000 in
theorem c_X6_in {E : EN} {v0 : Int32} {v1 : Int32} {v2 : Int32} {I : Mem} {r : Int32} (hf : f_X6_in v0 v1 v2 = r) : Ct E yX6_in cX6_in 3 (some .boolean) 0 0 [.int v0, .int v1, .int v2] I (some (.int r)) I := by
  refine Ct_of (by decide) (Nat.le_of_ble_eq_true rfl) (fun X hC0 hR => ?_)
  have hC : Cx X E cX6_in 3 RX6 0 0 := hC0
  change V X E 3 0 [(0, .int v0), (1, .int v1), (2, .int v2)] [] I
  unfold f_X6_in at hf
  refine V_iload_n (pc := 0) hC 0 dX6_in_0 rfl rfl ?_
  refine V_iload_n (pc := 1) hC 1 dX6_in_1 rfl rfl ?_
  refine V_icmp_lt (pc := 2) (tgt := 14) hC dX6_in_2 (by decide) (fun c1 => ?_) (fun c1 => ?_)
  · have hf := ite_t hf c1
    refine V_iconst (pc := 14) hC dX6_in_14 (v := (nI 0)) (by decide) ?_
    subst hf
    exact V_ireturn (pc := 15) hR (nar_z (by decide)) dX6_in_15
  · have hf := ite_f hf c1
    refine V_iload_n (pc := 5) hC 0 dX6_in_5 rfl rfl ?_
    refine V_iload_n (pc := 6) hC 2 dX6_in_6 rfl rfl ?_
    refine V_icmp_gt (pc := 7) (tgt := 14) hC dX6_in_7 (by decide) (fun c2 => ?_) (fun c2 => ?_)
    · have hf := ite_t hf c2
      refine V_iconst (pc := 14) hC dX6_in_14 (v := (nI 0)) (by decide) ?_
      subst hf
      exact V_ireturn (pc := 15) hR (nar_z (by decide)) dX6_in_15
    · have hf := ite_f hf c2
      refine V_iconst (pc := 10) hC dX6_in_10 (v := (nI 1)) (by decide) ?_
      refine V_goto (pc := 11) (tgt := 15) hC dX6_in_11 (by decide) ?_
      subst hf
      exact V_ireturn (pc := 15) hR (nar_z (by decide)) dX6_in_15
def f_X6_isIn (v0 : Int32) (v1 : Int32) : Int32 := (if ((v0 >>> (v1 &&& 31)) &&& (nI 1)) = (nI 1) then (nI 1) else (nI 0))
set_option maxHeartbeats 4000000 in
set_option maxRecDepth 100000 in
theorem c_X6_isIn {E : EN} {v0 : Int32} {v1 : Int32} {I : Mem} {r : Int32} (hf : f_X6_isIn v0 v1 = r) : Ct E yX6_isIn cX6_isIn 2 (some .boolean) 0 0 [.int v0, .int v1] I (some (.int r)) I := by
  refine Ct_of (by decide) (Nat.le_of_ble_eq_true rfl) (fun X hC0 hR => ?_)
  have hC : Cx X E cX6_isIn 2 RX6 0 0 := hC0
  change V X E 2 0 [(0, .int v0), (1, .int v1)] [] I
  unfold f_X6_isIn at hf
  refine V_iload_n (pc := 0) hC 0 dX6_isIn_0 rfl rfl ?_
  refine V_iload_n (pc := 1) hC 1 dX6_isIn_1 rfl rfl ?_
  refine V_ishr (pc := 2) hC dX6_isIn_2 ?_
  refine V_iconst (pc := 3) hC dX6_isIn_3 (v := (nI 1)) (by decide) ?_
  refine V_iand (pc := 4) hC dX6_isIn_4 ?_
  refine V_iconst (pc := 5) hC dX6_isIn_5 (v := (nI 1)) (by decide) ?_
  refine V_icmp_ne (pc := 6) (tgt := 13) hC dX6_isIn_6 (by decide) (fun c1 => ?_) (fun c1 => ?_)
  · have hf := ite_f hf c1
    refine V_iconst (pc := 13) hC dX6_isIn_13 (v := (nI 0)) (by decide) ?_
    subst hf
    exact V_ireturn (pc := 14) hR (nar_z (by decide)) dX6_isIn_14
  · have hf := ite_t hf c1
    refine V_iconst (pc := 9) hC dX6_isIn_9 (v := (nI 1)) (by decide) ?_
    refine V_goto (pc := 10) (tgt := 14) hC dX6_isIn_10 (by decide) ?_
    subst hf
    exact V_ireturn (pc := 14) hR (nar_z (by decide)) dX6_isIn_14
def f_X6_many_4 (k : Nat) (v0 : Int32) : Nat → Int32 → Int32 → Option (Int32)
  | 0, _, _ => none
  | n + 1, v1, v2 => (if (nI 10) ≤ v2 then some v1 else (f_X6_many_4 k v0 n) (v1 + ((v0 >>> (v2 &&& 31)) &&& (nI 1))) (v2 + (nI 1)))
set_option maxHeartbeats 4000000 in
set_option maxRecDepth 100000 in
theorem b_X6_many_4 {X : XT} {E : EN} {k : Nat} {I : Mem} {v0 : Int32} {r : Int32} (hC : Cx X E cX6_many 3 RX6 0 0) (hR : Rt X E cX6_many (some .int) (some (.int r)) I) : ∀ (n : Nat) (v1 : Int32) (v2 : Int32), f_X6_many_4 k v0 n v1 v2 = some r → V X E 3 4 [(0, .int v0), (1, .int v1), (2, .int v2)] [] I := by
  intro n
  induction n with
  | zero =>
    intro v1 v2 hf
    rw [f_X6_many_4] at hf
    cases hf
  | succ n ih =>
    intro v1 v2 hf
    rw [f_X6_many_4] at hf
    refine V_iload_n (pc := 4) hC 2 dX6_many_4 rfl rfl ?_
    refine V_bipush (pc := 5) hC dX6_many_5 (v := (nI 10)) (by decide) ?_
    refine V_icmp_ge (pc := 7) (tgt := 24) hC dX6_many_7 (by decide) (fun c1 => ?_) (fun c1 => ?_)
    · have hf := ite_t hf c1
      refine V_iload_n (pc := 24) hC 1 dX6_many_24 rfl rfl ?_
      have hf := Option.some.inj hf; subst hf
      exact V_ireturn (pc := 25) hR rfl dX6_many_25
    · have hf := ite_f hf c1
      refine V_iload_n (pc := 10) hC 1 dX6_many_10 rfl rfl ?_
      refine V_iload_n (pc := 11) hC 0 dX6_many_11 rfl rfl ?_
      refine V_iload_n (pc := 12) hC 2 dX6_many_12 rfl rfl ?_
      refine V_ishr (pc := 13) hC dX6_many_13 ?_
      refine V_iconst (pc := 14) hC dX6_many_14 (v := (nI 1)) (by decide) ?_
      refine V_iand (pc := 15) hC dX6_many_15 ?_
      refine V_iadd (pc := 16) hC dX6_many_16 ?_
      refine V_istore_n (pc := 17) (lv' := [(1, .int (v1 + ((v0 >>> (v2 &&& 31)) &&& (nI 1)))), (0, .int v0), (2, .int v2)]) hC dX6_many_17 rfl (by decide) rfl ?_
      refine V_iinc (pc := 18) (lv' := [(2, .int (v2 + (nI 1))), (1, .int (v1 + ((v0 >>> (v2 &&& 31)) &&& (nI 1)))), (0, .int v0)]) hC (nI 1) 2 dX6_many_18 rfl (by decide) (by decide) rfl ?_
      refine V_goto (pc := 21) (tgt := 4) hC dX6_many_21 (by decide) ?_
      refine V_sub (pc := 4) (lv' := [(0, .int v0), (1, .int (v1 + ((v0 >>> (v2 &&& 31)) &&& (nI 1)))), (2, .int (v2 + (nI 1)))]) [2, 1, 0] rfl ?_
      exact ih (v1 + ((v0 >>> (v2 &&& 31)) &&& (nI 1))) (v2 + (nI 1)) hf
def f_X6_many (k : Nat) (v0 : Int32) : Option (Int32) := f_X6_many_4 k v0 k (nI 0) (nI 0)
set_option maxHeartbeats 4000000 in
set_option maxRecDepth 100000 in
theorem c_X6_many {E : EN} {k : Nat} {v0 : Int32} {I : Mem} {r : Int32} (hf : f_X6_many k v0 = some r) : Ct E yX6_many cX6_many 3 (some .int) 0 0 [.int v0] I (some (.int r)) I := by
  refine Ct_of (by decide) (Nat.le_of_ble_eq_true rfl) (fun X hC0 hR => ?_)
  have hC : Cx X E cX6_many 3 RX6 0 0 := hC0
  change V X E 3 0 [(0, .int v0)] [] I
  unfold f_X6_many at hf
  refine V_iconst (pc := 0) hC dX6_many_0 (v := (nI 0)) (by decide) ?_
  refine V_istore_n (pc := 1) (lv' := [(1, .int (nI 0)), (0, .int v0)]) hC dX6_many_1 rfl (by decide) rfl ?_
  refine V_iconst (pc := 2) hC dX6_many_2 (v := (nI 0)) (by decide) ?_
  refine V_istore_n (pc := 3) (lv' := [(2, .int (nI 0)), (1, .int (nI 0)), (0, .int v0)]) hC dX6_many_3 rfl (by decide) rfl ?_
  refine V_sub (pc := 4) (lv' := [(0, .int v0), (1, .int (nI 0)), (2, .int (nI 0))]) [2, 1, 0] rfl ?_
  exact b_X6_many_4 hC hR k (nI 0) (nI 0) hf
def f_X6_record_50 (k : Nat) : Nat → Int32 → Mem → Option (Mem)
  | 0, _, _ => none
  | n + 1, v1, I => (if (nI 69) ≤ v1 then some (up2 I (71) 3 ((I (71) 3) + (nI 1))) else (if inB v1 69 = true then (if inB (((nI 69) * (I (71) 3)) + v1) 276 = true then (Option.bind (some (up2 I (73) (Int32.toNatClampNeg (((nI 69) * (I (71) 3)) + v1)) (I (72) (Int32.toNatClampNeg v1)))) (fun J8 => (f_X6_record_50 k n) (v1 + (nI 1)) J8)) else none) else none))
set_option maxHeartbeats 4000000 in
set_option maxRecDepth 100000 in
theorem b_X6_record_50 {X : XT} {E : EN} {k : Nat} {r : Mem} (hC : Cx X E cX6_record 2 RX6 0 0) (hR : Rt X E cX6_record none none r) : ∀ (n : Nat) (v1 : Int32) (I : Mem), f_X6_record_50 k n v1 I = some r → V X E 2 50 [(0, .ref (E.2.1 (71))), (1, .int v1)] [] I := by
  intro n
  induction n with
  | zero =>
    intro v1 I hf
    rw [f_X6_record_50] at hf
    cases hf
  | succ n ih =>
    intro v1 I hf
    rw [f_X6_record_50] at hf
    refine V_iload_n (pc := 50) hC 1 dX6_record_50 rfl rfl ?_
    refine V_bipush (pc := 51) hC dX6_record_51 (v := (nI 69)) (by decide) ?_
    refine V_icmp_ge (pc := 53) (tgt := 82) hC dX6_record_53 (by decide) (fun c5 => ?_) (fun c5 => ?_)
    · have hf := ite_t hf c5
      refine V_aload_n (pc := 82) hC 0 dX6_record_82 rfl rfl ?_
      refine V_dup (pc := 83) hC dX6_record_83 rfl ?_
      refine gf_X6_42 (pc := 84) hC dX6_record_84 ?_
      refine V_iconst (pc := 87) hC dX6_record_87 (v := (nI 1)) (by decide) ?_
      refine V_iadd (pc := 88) hC dX6_record_88 ?_
      refine pf_X6_42 (pc := 89) hC dX6_record_89 ?_
      have hf := Option.some.inj hf; subst hf
      exact V_return (pc := 92) hR trivial dX6_record_92
    · have hf := ite_f hf c5
      refine V_aload_n (pc := 56) hC 0 dX6_record_56 rfl rfl ?_
      refine gf_X6_13 (pc := 57) hC dX6_record_57 ?_
      refine V_bipush (pc := 60) hC dX6_record_60 (v := (nI 69)) (by decide) ?_
      refine V_aload_n (pc := 62) hC 0 dX6_record_62 rfl rfl ?_
      refine gf_X6_42 (pc := 63) hC dX6_record_63 ?_
      refine V_imul (pc := 66) hC dX6_record_66 ?_
      refine V_iload_n (pc := 67) hC 1 dX6_record_67 rfl rfl ?_
      refine V_iadd (pc := 68) hC dX6_record_68 ?_
      refine V_aload_n (pc := 69) hC 0 dX6_record_69 rfl rfl ?_
      refine gf_X6_7 (pc := 70) hC dX6_record_70 ?_
      refine V_iload_n (pc := 73) hC 1 dX6_record_73 rfl rfl ?_
      obtain ⟨h6, hf⟩ := if_some hf
      refine V_iald (pc := 74) hC ia_72 (inB_of h6) dX6_record_74 ?_
      obtain ⟨h7, hf⟩ := if_some hf
      obtain ⟨J8, eJ8, hf⟩ := bind_some hf
      have eJ8 := Option.some.inj eJ8
      refine V_iast (pc := 75) hC ia_73 (inB_of h7) dX6_record_75 ?_
      rw [eJ8]
      refine V_iinc (pc := 76) (lv' := [(1, .int (v1 + (nI 1))), (0, .ref (E.2.1 (71)))]) hC (nI 1) 1 dX6_record_76 rfl (by decide) (by decide) rfl ?_
      refine V_goto (pc := 79) (tgt := 50) hC dX6_record_79 (by decide) ?_
      refine V_sub (pc := 50) (lv' := [(0, .ref (E.2.1 (71))), (1, .int (v1 + (nI 1)))]) [1, 0] rfl ?_
      exact ih (v1 + (nI 1)) J8 hf
def f_X6_record_10 (k : Nat) : Nat → Int32 → Mem → Option (Mem)
  | 0, _, _ => none
  | n + 1, v1, I => (if (nI 207) ≤ v1 then f_X6_record_50 k k (nI 0) (up2 I (71) 3 ((I (71) 3) - (nI 1))) else (if inB ((nI 69) + v1) 276 = true then (if inB v1 276 = true then (f_X6_record_10 k n) (v1 + (nI 1)) (up2 I (73) (Int32.toNatClampNeg v1) (I (73) (Int32.toNatClampNeg ((nI 69) + v1)))) else none) else none))
set_option maxHeartbeats 4000000 in
set_option maxRecDepth 100000 in
theorem b_X6_record_10 {X : XT} {E : EN} {k : Nat} {r : Mem} (hC : Cx X E cX6_record 2 RX6 0 0) (hR : Rt X E cX6_record none none r) : ∀ (n : Nat) (v1 : Int32) (I : Mem), f_X6_record_10 k n v1 I = some r → V X E 2 10 [(0, .ref (E.2.1 (71))), (1, .int v1)] [] I := by
  intro n
  induction n with
  | zero =>
    intro v1 I hf
    rw [f_X6_record_10] at hf
    cases hf
  | succ n ih =>
    intro v1 I hf
    rw [f_X6_record_10] at hf
    refine V_iload_n (pc := 10) hC 1 dX6_record_10 rfl rfl ?_
    refine V_sipush (pc := 11) hC dX6_record_11 (v := (nI 207)) (by decide) ?_
    refine V_icmp_ge (pc := 14) (tgt := 38) hC dX6_record_14 (by decide) (fun c2 => ?_) (fun c2 => ?_)
    · have hf := ite_t hf c2
      refine V_aload_n (pc := 38) hC 0 dX6_record_38 rfl rfl ?_
      refine V_dup (pc := 39) hC dX6_record_39 rfl ?_
      refine gf_X6_42 (pc := 40) hC dX6_record_40 ?_
      refine V_iconst (pc := 43) hC dX6_record_43 (v := (nI 1)) (by decide) ?_
      refine V_isub (pc := 44) hC dX6_record_44 ?_
      refine pf_X6_42 (pc := 45) hC dX6_record_45 ?_
      refine V_iconst (pc := 48) hC dX6_record_48 (v := (nI 0)) (by decide) ?_
      refine V_istore_n (pc := 49) (lv' := [(1, .int (nI 0)), (0, .ref (E.2.1 (71)))]) hC dX6_record_49 rfl (by decide) rfl ?_
      refine V_sub (pc := 50) (lv' := [(0, .ref (E.2.1 (71))), (1, .int (nI 0))]) [1, 0] rfl ?_
      exact b_X6_record_50 hC hR k (nI 0) (up2 I (71) 3 ((I (71) 3) - (nI 1))) hf
    · have hf := ite_f hf c2
      refine V_aload_n (pc := 17) hC 0 dX6_record_17 rfl rfl ?_
      refine gf_X6_13 (pc := 18) hC dX6_record_18 ?_
      refine V_iload_n (pc := 21) hC 1 dX6_record_21 rfl rfl ?_
      refine V_aload_n (pc := 22) hC 0 dX6_record_22 rfl rfl ?_
      refine gf_X6_13 (pc := 23) hC dX6_record_23 ?_
      refine V_bipush (pc := 26) hC dX6_record_26 (v := (nI 69)) (by decide) ?_
      refine V_iload_n (pc := 28) hC 1 dX6_record_28 rfl rfl ?_
      refine V_iadd (pc := 29) hC dX6_record_29 ?_
      obtain ⟨h3, hf⟩ := if_some hf
      refine V_iald (pc := 30) hC ia_73 (inB_of h3) dX6_record_30 ?_
      obtain ⟨h4, hf⟩ := if_some hf
      refine V_iast (pc := 31) hC ia_73 (inB_of h4) dX6_record_31 ?_
      refine V_iinc (pc := 32) (lv' := [(1, .int (v1 + (nI 1))), (0, .ref (E.2.1 (71)))]) hC (nI 1) 1 dX6_record_32 rfl (by decide) (by decide) rfl ?_
      refine V_goto (pc := 35) (tgt := 10) hC dX6_record_35 (by decide) ?_
      refine V_sub (pc := 10) (lv' := [(0, .ref (E.2.1 (71))), (1, .int (v1 + (nI 1)))]) [1, 0] rfl ?_
      exact ih (v1 + (nI 1)) (up2 I (73) (Int32.toNatClampNeg v1) (I (73) (Int32.toNatClampNeg ((nI 69) + v1)))) hf
def f_X6_record (k : Nat) (I : Mem) : Option (Mem) := (if (I (71) 3) = (nI 4) then f_X6_record_10 k k (nI 0) I else f_X6_record_50 k k (nI 0) I)
set_option maxHeartbeats 4000000 in
set_option maxRecDepth 100000 in
theorem c_X6_record {E : EN} {k : Nat} {I : Mem} {r : Mem} (hf : f_X6_record k I = some r) : Ct E yX6_record cX6_record 2 none 0 0 [.ref (E.2.1 (71))] I none r := by
  refine Ct_of (by decide) (Nat.le_of_ble_eq_true rfl) (fun X hC0 hR => ?_)
  have hC : Cx X E cX6_record 2 RX6 0 0 := hC0
  change V X E 2 0 [(0, .ref (E.2.1 (71)))] [] I
  unfold f_X6_record at hf
  refine V_aload_n (pc := 0) hC 0 dX6_record_0 rfl rfl ?_
  refine gf_X6_42 (pc := 1) hC dX6_record_1 ?_
  refine V_iconst (pc := 4) hC dX6_record_4 (v := (nI 4)) (by decide) ?_
  refine V_icmp_ne (pc := 5) (tgt := 48) hC dX6_record_5 (by decide) (fun c1 => ?_) (fun c1 => ?_)
  · have hf := ite_f hf c1
    refine V_iconst (pc := 48) hC dX6_record_48 (v := (nI 0)) (by decide) ?_
    refine V_istore_n (pc := 49) (lv' := [(1, .int (nI 0)), (0, .ref (E.2.1 (71)))]) hC dX6_record_49 rfl (by decide) rfl ?_
    refine V_sub (pc := 50) (lv' := [(0, .ref (E.2.1 (71))), (1, .int (nI 0))]) [1, 0] rfl ?_
    exact b_X6_record_50 hC hR k (nI 0) I hf
  · have hf := ite_t hf c1
    refine V_iconst (pc := 8) hC dX6_record_8 (v := (nI 0)) (by decide) ?_
    refine V_istore_n (pc := 9) (lv' := [(1, .int (nI 0)), (0, .ref (E.2.1 (71)))]) hC dX6_record_9 rfl (by decide) rfl ?_
    refine V_sub (pc := 10) (lv' := [(0, .ref (E.2.1 (71))), (1, .int (nI 0))]) [1, 0] rfl ?_
    exact b_X6_record_10 hC hR k (nI 0) I hf
def f_X6_undo_22 (k : Nat) : Nat → Int32 → Mem → Option (Int32 × Mem)
  | 0, _, _ => none
  | n + 1, v1, I => (if (nI 69) ≤ v1 then some (I (71) 3, I) else (if inB (((nI 69) * (I (71) 3)) + v1) 276 = true then (if inB v1 69 = true then (Option.bind (some (up2 I (72) (Int32.toNatClampNeg v1) (I (73) (Int32.toNatClampNeg (((nI 69) * (I (71) 3)) + v1))))) (fun J5 => (f_X6_undo_22 k n) (v1 + (nI 1)) J5)) else none) else none))
set_option maxHeartbeats 4000000 in
set_option maxRecDepth 100000 in
theorem b_X6_undo_22 {X : XT} {E : EN} {k : Nat} {r : Int32 × Mem} (hC : Cx X E cX6_undo 2 RX6 0 0) (hR : Rt X E cX6_undo (some .int) (some (.int r.1)) r.2) : ∀ (n : Nat) (v1 : Int32) (I : Mem), f_X6_undo_22 k n v1 I = some r → V X E 2 22 [(0, .ref (E.2.1 (71))), (1, .int v1)] [] I := by
  intro n
  induction n with
  | zero =>
    intro v1 I hf
    rw [f_X6_undo_22] at hf
    cases hf
  | succ n ih =>
    intro v1 I hf
    rw [f_X6_undo_22] at hf
    refine V_iload_n (pc := 22) hC 1 dX6_undo_22 rfl rfl ?_
    refine V_bipush (pc := 23) hC dX6_undo_23 (v := (nI 69)) (by decide) ?_
    refine V_icmp_ge (pc := 25) (tgt := 54) hC dX6_undo_25 (by decide) (fun c2 => ?_) (fun c2 => ?_)
    · have hf := ite_t hf c2
      refine V_aload_n (pc := 54) hC 0 dX6_undo_54 rfl rfl ?_
      refine gf_X6_42 (pc := 55) hC dX6_undo_55 ?_
      have hf := Option.some.inj hf; subst hf
      exact V_ireturn (pc := 58) hR rfl dX6_undo_58
    · have hf := ite_f hf c2
      refine V_aload_n (pc := 28) hC 0 dX6_undo_28 rfl rfl ?_
      refine gf_X6_7 (pc := 29) hC dX6_undo_29 ?_
      refine V_iload_n (pc := 32) hC 1 dX6_undo_32 rfl rfl ?_
      refine V_aload_n (pc := 33) hC 0 dX6_undo_33 rfl rfl ?_
      refine gf_X6_13 (pc := 34) hC dX6_undo_34 ?_
      refine V_bipush (pc := 37) hC dX6_undo_37 (v := (nI 69)) (by decide) ?_
      refine V_aload_n (pc := 39) hC 0 dX6_undo_39 rfl rfl ?_
      refine gf_X6_42 (pc := 40) hC dX6_undo_40 ?_
      refine V_imul (pc := 43) hC dX6_undo_43 ?_
      refine V_iload_n (pc := 44) hC 1 dX6_undo_44 rfl rfl ?_
      refine V_iadd (pc := 45) hC dX6_undo_45 ?_
      obtain ⟨h3, hf⟩ := if_some hf
      refine V_iald (pc := 46) hC ia_73 (inB_of h3) dX6_undo_46 ?_
      obtain ⟨h4, hf⟩ := if_some hf
      obtain ⟨J5, eJ5, hf⟩ := bind_some hf
      have eJ5 := Option.some.inj eJ5
      refine V_iast (pc := 47) hC ia_72 (inB_of h4) dX6_undo_47 ?_
      rw [eJ5]
      refine V_iinc (pc := 48) (lv' := [(1, .int (v1 + (nI 1))), (0, .ref (E.2.1 (71)))]) hC (nI 1) 1 dX6_undo_48 rfl (by decide) (by decide) rfl ?_
      refine V_goto (pc := 51) (tgt := 22) hC dX6_undo_51 (by decide) ?_
      refine V_sub (pc := 22) (lv' := [(0, .ref (E.2.1 (71))), (1, .int (v1 + (nI 1)))]) [1, 0] rfl ?_
      exact ih (v1 + (nI 1)) J5 hf
def f_X6_undo (k : Nat) (I : Mem) : Option (Int32 × Mem) := (if (I (71) 3) = 0 then some ((-5 : Int32), I) else f_X6_undo_22 k k (nI 0) (up2 I (71) 3 ((I (71) 3) - (nI 1))))
set_option maxHeartbeats 4000000 in
set_option maxRecDepth 100000 in
theorem c_X6_undo {E : EN} {k : Nat} {I : Mem} {r : Int32 × Mem} (hf : f_X6_undo k I = some r) : Ct E yX6_undo cX6_undo 2 (some .int) 0 0 [.ref (E.2.1 (71))] I (some (.int r.1)) r.2 := by
  refine Ct_of (by decide) (Nat.le_of_ble_eq_true rfl) (fun X hC0 hR => ?_)
  have hC : Cx X E cX6_undo 2 RX6 0 0 := hC0
  change V X E 2 0 [(0, .ref (E.2.1 (71)))] [] I
  unfold f_X6_undo at hf
  refine V_aload_n (pc := 0) hC 0 dX6_undo_0 rfl rfl ?_
  refine gf_X6_42 (pc := 1) hC dX6_undo_1 ?_
  refine V_if_ne (pc := 4) (tgt := 10) hC dX6_undo_4 (by decide) (fun c1 => ?_) (fun c1 => ?_)
  · have hf := ite_f hf c1
    refine V_aload_n (pc := 10) hC 0 dX6_undo_10 rfl rfl ?_
    refine V_dup (pc := 11) hC dX6_undo_11 rfl ?_
    refine gf_X6_42 (pc := 12) hC dX6_undo_12 ?_
    refine V_iconst (pc := 15) hC dX6_undo_15 (v := (nI 1)) (by decide) ?_
    refine V_isub (pc := 16) hC dX6_undo_16 ?_
    refine pf_X6_42 (pc := 17) hC dX6_undo_17 ?_
    refine V_iconst (pc := 20) hC dX6_undo_20 (v := (nI 0)) (by decide) ?_
    refine V_istore_n (pc := 21) (lv' := [(1, .int (nI 0)), (0, .ref (E.2.1 (71)))]) hC dX6_undo_21 rfl (by decide) rfl ?_
    refine V_sub (pc := 22) (lv' := [(0, .ref (E.2.1 (71))), (1, .int (nI 0))]) [1, 0] rfl ?_
    exact b_X6_undo_22 hC hR k (nI 0) (up2 I (71) 3 ((I (71) 3) - (nI 1))) hf
  · have hf := ite_t hf c1
    refine V_bipush (pc := 7) hC dX6_undo_7 (v := (-5 : Int32)) (by decide) ?_
    have hf := Option.some.inj hf; subst hf
    exact V_ireturn (pc := 9) hR rfl dX6_undo_9
def f_X6_keep_2 (k : Nat) : Nat → Int32 → Mem → Option (Int32 × Mem)
  | 0, _, _ => none
  | n + 1, v1, I => (if (nI 69) ≤ v1 then some ((up2 I (71) 4 (nI 1)) (72) (Int32.toNatClampNeg (nI 0)), up2 I (71) 4 (nI 1)) else (if inB v1 69 = true then (if inB v1 69 = true then (f_X6_keep_2 k n) (v1 + (nI 1)) (up2 I (74) (Int32.toNatClampNeg v1) (I (72) (Int32.toNatClampNeg v1))) else none) else none))
set_option maxHeartbeats 4000000 in
set_option maxRecDepth 100000 in
theorem b_X6_keep_2 {X : XT} {E : EN} {k : Nat} {r : Int32 × Mem} (hC : Cx X E cX6_keep 2 RX6 0 0) (hR : Rt X E cX6_keep (some .int) (some (.int r.1)) r.2) : ∀ (n : Nat) (v1 : Int32) (I : Mem), f_X6_keep_2 k n v1 I = some r → V X E 2 2 [(0, .ref (E.2.1 (71))), (1, .int v1)] [] I := by
  intro n
  induction n with
  | zero =>
    intro v1 I hf
    rw [f_X6_keep_2] at hf
    cases hf
  | succ n ih =>
    intro v1 I hf
    rw [f_X6_keep_2] at hf
    refine V_iload_n (pc := 2) hC 1 dX6_keep_2 rfl rfl ?_
    refine V_bipush (pc := 3) hC dX6_keep_3 (v := (nI 69)) (by decide) ?_
    refine V_icmp_ge (pc := 5) (tgt := 26) hC dX6_keep_5 (by decide) (fun c1 => ?_) (fun c1 => ?_)
    · have hf := ite_t hf c1
      refine V_aload_n (pc := 26) hC 0 dX6_keep_26 rfl rfl ?_
      refine V_iconst (pc := 27) hC dX6_keep_27 (v := (nI 1)) (by decide) ?_
      refine pf_X6_46 (pc := 28) (by decide) (by decide) hC dX6_keep_28 ?_
      refine V_aload_n (pc := 31) hC 0 dX6_keep_31 rfl rfl ?_
      refine gf_X6_7 (pc := 32) hC dX6_keep_32 ?_
      refine V_iconst (pc := 35) hC dX6_keep_35 (v := (nI 0)) (by decide) ?_
      refine V_iald (pc := 36) hC ia_72 (inB_of (by decide)) dX6_keep_36 ?_
      have hf := Option.some.inj hf; subst hf
      exact V_ireturn (pc := 37) hR rfl dX6_keep_37
    · have hf := ite_f hf c1
      refine V_aload_n (pc := 8) hC 0 dX6_keep_8 rfl rfl ?_
      refine gf_X6_16 (pc := 9) hC dX6_keep_9 ?_
      refine V_iload_n (pc := 12) hC 1 dX6_keep_12 rfl rfl ?_
      refine V_aload_n (pc := 13) hC 0 dX6_keep_13 rfl rfl ?_
      refine gf_X6_7 (pc := 14) hC dX6_keep_14 ?_
      refine V_iload_n (pc := 17) hC 1 dX6_keep_17 rfl rfl ?_
      obtain ⟨h2, hf⟩ := if_some hf
      refine V_iald (pc := 18) hC ia_72 (inB_of h2) dX6_keep_18 ?_
      obtain ⟨h3, hf⟩ := if_some hf
      refine V_iast (pc := 19) hC ia_74 (inB_of h3) dX6_keep_19 ?_
      refine V_iinc (pc := 20) (lv' := [(1, .int (v1 + (nI 1))), (0, .ref (E.2.1 (71)))]) hC (nI 1) 1 dX6_keep_20 rfl (by decide) (by decide) rfl ?_
      refine V_goto (pc := 23) (tgt := 2) hC dX6_keep_23 (by decide) ?_
      refine V_sub (pc := 2) (lv' := [(0, .ref (E.2.1 (71))), (1, .int (v1 + (nI 1)))]) [1, 0] rfl ?_
      exact ih (v1 + (nI 1)) (up2 I (74) (Int32.toNatClampNeg v1) (I (72) (Int32.toNatClampNeg v1))) hf
def f_X6_keep (k : Nat) (I : Mem) : Option (Int32 × Mem) := f_X6_keep_2 k k (nI 0) I
set_option maxHeartbeats 4000000 in
set_option maxRecDepth 100000 in
theorem c_X6_keep {E : EN} {k : Nat} {I : Mem} {r : Int32 × Mem} (hf : f_X6_keep k I = some r) : Ct E yX6_keep cX6_keep 2 (some .int) 0 0 [.ref (E.2.1 (71))] I (some (.int r.1)) r.2 := by
  refine Ct_of (by decide) (Nat.le_of_ble_eq_true rfl) (fun X hC0 hR => ?_)
  have hC : Cx X E cX6_keep 2 RX6 0 0 := hC0
  change V X E 2 0 [(0, .ref (E.2.1 (71)))] [] I
  unfold f_X6_keep at hf
  refine V_iconst (pc := 0) hC dX6_keep_0 (v := (nI 0)) (by decide) ?_
  refine V_istore_n (pc := 1) (lv' := [(1, .int (nI 0)), (0, .ref (E.2.1 (71)))]) hC dX6_keep_1 rfl (by decide) rfl ?_
  refine V_sub (pc := 2) (lv' := [(0, .ref (E.2.1 (71))), (1, .int (nI 0))]) [1, 0] rfl ?_
  exact b_X6_keep_2 hC hR k (nI 0) I hf
def f_X6_restore_16 (k : Nat) : Nat → Int32 → Mem → Option (Int32 × Mem)
  | 0, _, _ => none
  | n + 1, v1, I => (if (nI 69) ≤ v1 then some (I (72) (Int32.toNatClampNeg (nI 0)), I) else (if inB v1 69 = true then (if inB v1 69 = true then (f_X6_restore_16 k n) (v1 + (nI 1)) (up2 I (72) (Int32.toNatClampNeg v1) (I (74) (Int32.toNatClampNeg v1))) else none) else none))
set_option maxHeartbeats 4000000 in
set_option maxRecDepth 100000 in
theorem b_X6_restore_16 {X : XT} {E : EN} {k : Nat} {r : Int32 × Mem} (hC : Cx X E cX6_restore 2 RX6 1 21) (hR : Rt X E cX6_restore (some .int) (some (.int r.1)) r.2) : ∀ (n : Nat) (v1 : Int32) (I : Mem), f_X6_restore_16 k n v1 I = some r → V X E 2 16 [(0, .ref (E.2.1 (71))), (1, .int v1)] [] I := by
  intro n
  induction n with
  | zero =>
    intro v1 I hf
    rw [f_X6_restore_16] at hf
    cases hf
  | succ n ih =>
    intro v1 I hf
    rw [f_X6_restore_16] at hf
    refine V_iload_n (pc := 16) hC 1 dX6_restore_16 rfl rfl ?_
    refine V_bipush (pc := 17) hC dX6_restore_17 (v := (nI 69)) (by decide) ?_
    refine V_icmp_ge (pc := 19) (tgt := 40) hC dX6_restore_19 (by decide) (fun c3 => ?_) (fun c3 => ?_)
    · have hf := ite_t hf c3
      refine V_aload_n (pc := 40) hC 0 dX6_restore_40 rfl rfl ?_
      refine gf_X6_7 (pc := 41) hC dX6_restore_41 ?_
      refine V_iconst (pc := 44) hC dX6_restore_44 (v := (nI 0)) (by decide) ?_
      refine V_iald (pc := 45) hC ia_72 (inB_of (by decide)) dX6_restore_45 ?_
      have hf := Option.some.inj hf; subst hf
      exact V_ireturn (pc := 46) hR rfl dX6_restore_46
    · have hf := ite_f hf c3
      refine V_aload_n (pc := 22) hC 0 dX6_restore_22 rfl rfl ?_
      refine gf_X6_7 (pc := 23) hC dX6_restore_23 ?_
      refine V_iload_n (pc := 26) hC 1 dX6_restore_26 rfl rfl ?_
      refine V_aload_n (pc := 27) hC 0 dX6_restore_27 rfl rfl ?_
      refine gf_X6_16 (pc := 28) hC dX6_restore_28 ?_
      refine V_iload_n (pc := 31) hC 1 dX6_restore_31 rfl rfl ?_
      obtain ⟨h4, hf⟩ := if_some hf
      refine V_iald (pc := 32) hC ia_74 (inB_of h4) dX6_restore_32 ?_
      obtain ⟨h5, hf⟩ := if_some hf
      refine V_iast (pc := 33) hC ia_72 (inB_of h5) dX6_restore_33 ?_
      refine V_iinc (pc := 34) (lv' := [(1, .int (v1 + (nI 1))), (0, .ref (E.2.1 (71)))]) hC (nI 1) 1 dX6_restore_34 rfl (by decide) (by decide) rfl ?_
      refine V_goto (pc := 37) (tgt := 16) hC dX6_restore_37 (by decide) ?_
      refine V_sub (pc := 16) (lv' := [(0, .ref (E.2.1 (71))), (1, .int (v1 + (nI 1)))]) [1, 0] rfl ?_
      exact ih (v1 + (nI 1)) (up2 I (72) (Int32.toNatClampNeg v1) (I (74) (Int32.toNatClampNeg v1))) hf
def f_X6_restore (k : Nat) (I : Mem) : Option (Int32 × Mem) := (if (I (71) 4) = 0 then some ((-5 : Int32), I) else (Option.bind (f_X6_record k I) (fun r2 => f_X6_restore_16 k k (nI 0) r2)))
set_option maxHeartbeats 4000000 in
set_option maxRecDepth 100000 in
theorem c_X6_restore {E : EN} {k : Nat} {I : Mem} {r : Int32 × Mem} (hf : f_X6_restore k I = some r) : Ct E yX6_restore cX6_restore 2 (some .int) 1 21 [.ref (E.2.1 (71))] I (some (.int r.1)) r.2 := by
  refine Ct_of (by decide) (Nat.le_of_ble_eq_true rfl) (fun X hC0 hR => ?_)
  have hC : Cx X E cX6_restore 2 RX6 1 21 := hC0
  change V X E 2 0 [(0, .ref (E.2.1 (71)))] [] I
  unfold f_X6_restore at hf
  refine V_aload_n (pc := 0) hC 0 dX6_restore_0 rfl rfl ?_
  refine gf_X6_46 (pc := 1) hC dX6_restore_1 ?_
  refine V_if_ne (pc := 4) (tgt := 10) hC dX6_restore_4 (by decide) (fun c1 => ?_) (fun c1 => ?_)
  · have hf := ite_f hf c1
    refine V_aload_n (pc := 10) hC 0 dX6_restore_10 rfl rfl ?_
    obtain ⟨r2, g2, hf⟩ := bind_some hf
    refine V_callV (pc := 11) (rest := []) (As := []) hC lk_X6_50 (by decide) cel_X6 rfl (c_X6_record  g2) rfl rfl (Nat.le_of_ble_eq_true rfl) (by decide) dX6_restore_11 ?_
    change V X E 2 14 [(0, .ref (E.2.1 (71)))] [] r2
    refine V_iconst (pc := 14) hC dX6_restore_14 (v := (nI 0)) (by decide) ?_
    refine V_istore_n (pc := 15) (lv' := [(1, .int (nI 0)), (0, .ref (E.2.1 (71)))]) hC dX6_restore_15 rfl (by decide) rfl ?_
    refine V_sub (pc := 16) (lv' := [(0, .ref (E.2.1 (71))), (1, .int (nI 0))]) [1, 0] rfl ?_
    exact b_X6_restore_16 hC hR k (nI 0) r2 hf
  · have hf := ite_t hf c1
    refine V_bipush (pc := 7) hC dX6_restore_7 (v := (-5 : Int32)) (by decide) ?_
    have hf := Option.some.inj hf; subst hf
    exact V_ireturn (pc := 9) hR rfl dX6_restore_9
def f_X6_noMember (k : Nat) (v1 : Int32) (I : Mem) : Option (Int32) := (if (f_X6_in v1 (nI 0) ((I (72) (Int32.toNatClampNeg (nI 0))) - (nI 1))) = 0 then some (nI 1) else some (nI 0))
set_option maxHeartbeats 4000000 in
set_option maxRecDepth 100000 in
theorem c_X6_noMember {E : EN} {k : Nat} {v1 : Int32} {I : Mem} {r : Int32} (hf : f_X6_noMember k v1 I = some r) : Ct E yX6_noMember cX6_noMember 2 (some .boolean) 1 22 [.ref (E.2.1 (71)), .int v1] I (some (.int r)) I := by
  refine Ct_of (by decide) (Nat.le_of_ble_eq_true rfl) (fun X hC0 hR => ?_)
  have hC : Cx X E cX6_noMember 2 RX6 1 22 := hC0
  change V X E 2 0 [(0, .ref (E.2.1 (71))), (1, .int v1)] [] I
  unfold f_X6_noMember at hf
  refine V_iload_n (pc := 0) hC 1 dX6_noMember_0 rfl rfl ?_
  refine V_iconst (pc := 1) hC dX6_noMember_1 (v := (nI 0)) (by decide) ?_
  refine V_aload_n (pc := 2) hC 0 dX6_noMember_2 rfl rfl ?_
  refine gf_X6_7 (pc := 3) hC dX6_noMember_3 ?_
  refine V_iconst (pc := 6) hC dX6_noMember_6 (v := (nI 0)) (by decide) ?_
  refine V_iald (pc := 7) hC ia_72 (inB_of (by decide)) dX6_noMember_7 ?_
  refine V_iconst (pc := 8) hC dX6_noMember_8 (v := (nI 1)) (by decide) ?_
  refine V_isub (pc := 9) hC dX6_noMember_9 ?_
  refine V_callS (pc := 10) (rest := []) (As := [.int v1, .int (nI 0), .int ((I (72) (Int32.toNatClampNeg (nI 0))) - (nI 1))]) hC lk_X6_53 (c_X6_in  rfl) rfl rfl (Nat.le_of_ble_eq_true rfl) (by decide) dX6_noMember_10 ?_
  change V X E 2 13 [(0, .ref (E.2.1 (71))), (1, .int v1)] [.int (f_X6_in v1 (nI 0) ((I (72) (Int32.toNatClampNeg (nI 0))) - (nI 1)))] I
  refine V_if_ne (pc := 13) (tgt := 20) hC dX6_noMember_13 (by decide) (fun c1 => ?_) (fun c1 => ?_)
  · have hf := ite_f hf c1
    refine V_iconst (pc := 20) hC dX6_noMember_20 (v := (nI 0)) (by decide) ?_
    have hf := Option.some.inj hf; subst hf
    exact V_ireturn (pc := 21) hR (nar_z (by decide)) dX6_noMember_21
  · have hf := ite_t hf c1
    refine V_iconst (pc := 16) hC dX6_noMember_16 (v := (nI 1)) (by decide) ?_
    refine V_goto (pc := 17) (tgt := 21) hC dX6_noMember_17 (by decide) ?_
    have hf := Option.some.inj hf; subst hf
    exact V_ireturn (pc := 21) hR (nar_z (by decide)) dX6_noMember_21
def f_X6_addMember (k : Nat) (v1 : Int32) (I : Mem) : Option (Int32 × Mem) := (if (f_X6_in v1 (nI 0) (nI 50)) = 0 then some ((-2 : Int32), I) else (if (I (72) (Int32.toNatClampNeg (nI 0))) = (nI 10) then some ((-3 : Int32), I) else (Option.bind (f_X6_record k I) (fun r3 => (if inB ((nI 29) + (I (72) (Int32.toNatClampNeg (nI 0)))) 69 = true then (if inB ((nI 39) + (I (72) (Int32.toNatClampNeg (nI 0)))) 69 = true then (Option.bind (some (up2 (up2 r3 (72) (Int32.toNatClampNeg ((nI 29) + (I (72) (Int32.toNatClampNeg (nI 0))))) v1) (72) (Int32.toNatClampNeg ((nI 39) + (I (72) (Int32.toNatClampNeg (nI 0))))) (nI 0))) (fun J6 => (if inB ((nI 49) + (I (72) (Int32.toNatClampNeg (nI 0)))) 69 = true then (Option.bind (some (up2 J6 (72) (Int32.toNatClampNeg ((nI 49) + (I (72) (Int32.toNatClampNeg (nI 0))))) (I (72) (Int32.toNatClampNeg (nI 0))))) (fun J8 => (if inB ((nI 59) + (I (72) (Int32.toNatClampNeg (nI 0)))) 69 = true then (Option.bind (some (up2 (up2 J8 (72) (Int32.toNatClampNeg ((nI 59) + (I (72) (Int32.toNatClampNeg (nI 0))))) (nI 0)) (72) (Int32.toNatClampNeg (nI 0)) (((up2 J8 (72) (Int32.toNatClampNeg ((nI 59) + (I (72) (Int32.toNatClampNeg (nI 0))))) (nI 0)) (72) (Int32.toNatClampNeg (nI 0))) + (nI 1)))) (fun J10 => some (I (72) (Int32.toNatClampNeg (nI 0)), J10))) else none))) else none))) else none) else none)))))
set_option maxHeartbeats 4000000 in
set_option maxRecDepth 100000 in
theorem c_X6_addMember {E : EN} {k : Nat} {v1 : Int32} {I : Mem} {r : Int32 × Mem} (hf : f_X6_addMember k v1 I = some r) : Ct E yX6_addMember cX6_addMember 3 (some .int) 1 22 [.ref (E.2.1 (71)), .int v1] I (some (.int r.1)) r.2 := by
  refine Ct_of (by decide) (Nat.le_of_ble_eq_true rfl) (fun X hC0 hR => ?_)
  have hC : Cx X E cX6_addMember 3 RX6 1 22 := hC0
  change V X E 3 0 [(0, .ref (E.2.1 (71))), (1, .int v1)] [] I
  unfold f_X6_addMember at hf
  refine V_iload_n (pc := 0) hC 1 dX6_addMember_0 rfl rfl ?_
  refine V_iconst (pc := 1) hC dX6_addMember_1 (v := (nI 0)) (by decide) ?_
  refine V_bipush (pc := 2) hC dX6_addMember_2 (v := (nI 50)) (by decide) ?_
  refine V_callS (pc := 4) (rest := []) (As := [.int v1, .int (nI 0), .int (nI 50)]) hC lk_X6_53 (c_X6_in  rfl) rfl rfl (Nat.le_of_ble_eq_true rfl) (by decide) dX6_addMember_4 ?_
  change V X E 3 7 [(0, .ref (E.2.1 (71))), (1, .int v1)] [.int (f_X6_in v1 (nI 0) (nI 50))] I
  refine V_if_ne (pc := 7) (tgt := 13) hC dX6_addMember_7 (by decide) (fun c1 => ?_) (fun c1 => ?_)
  · have hf := ite_f hf c1
    refine V_aload_n (pc := 13) hC 0 dX6_addMember_13 rfl rfl ?_
    refine gf_X6_7 (pc := 14) hC dX6_addMember_14 ?_
    refine V_iconst (pc := 17) hC dX6_addMember_17 (v := (nI 0)) (by decide) ?_
    refine V_iald (pc := 18) hC ia_72 (inB_of (by decide)) dX6_addMember_18 ?_
    refine V_istore_n (pc := 19) (lv' := [(2, .int (I (72) (Int32.toNatClampNeg (nI 0)))), (0, .ref (E.2.1 (71))), (1, .int v1)]) hC dX6_addMember_19 rfl (by decide) rfl ?_
    refine V_iload_n (pc := 20) hC 0 dX6_addMember_20 rfl rfl ?_
    refine V_bipush (pc := 21) hC dX6_addMember_21 (v := (nI 10)) (by decide) ?_
    refine V_icmp_ne (pc := 23) (tgt := 29) hC dX6_addMember_23 (by decide) (fun c2 => ?_) (fun c2 => ?_)
    · have hf := ite_f hf c2
      refine V_aload_n (pc := 29) hC 1 dX6_addMember_29 rfl rfl ?_
      obtain ⟨r3, g3, hf⟩ := bind_some hf
      refine V_callV (pc := 30) (rest := []) (As := []) hC lk_X6_50 (by decide) cel_X6 rfl (c_X6_record  g3) rfl rfl (Nat.le_of_ble_eq_true rfl) (by decide) dX6_addMember_30 ?_
      change V X E 3 33 [(2, .int (I (72) (Int32.toNatClampNeg (nI 0)))), (0, .ref (E.2.1 (71))), (1, .int v1)] [] r3
      refine V_aload_n (pc := 33) hC 1 dX6_addMember_33 rfl rfl ?_
      refine gf_X6_7 (pc := 34) hC dX6_addMember_34 ?_
      refine V_bipush (pc := 37) hC dX6_addMember_37 (v := (nI 29)) (by decide) ?_
      refine V_iload_n (pc := 39) hC 0 dX6_addMember_39 rfl rfl ?_
      refine V_iadd (pc := 40) hC dX6_addMember_40 ?_
      refine V_iload_n (pc := 41) hC 2 dX6_addMember_41 rfl rfl ?_
      obtain ⟨h4, hf⟩ := if_some hf
      refine V_iast (pc := 42) hC ia_72 (inB_of h4) dX6_addMember_42 ?_
      refine V_aload_n (pc := 43) hC 1 dX6_addMember_43 rfl rfl ?_
      refine gf_X6_7 (pc := 44) hC dX6_addMember_44 ?_
      refine V_bipush (pc := 47) hC dX6_addMember_47 (v := (nI 39)) (by decide) ?_
      refine V_iload_n (pc := 49) hC 0 dX6_addMember_49 rfl rfl ?_
      refine V_iadd (pc := 50) hC dX6_addMember_50 ?_
      refine V_iconst (pc := 51) hC dX6_addMember_51 (v := (nI 0)) (by decide) ?_
      obtain ⟨h5, hf⟩ := if_some hf
      obtain ⟨J6, eJ6, hf⟩ := bind_some hf
      have eJ6 := Option.some.inj eJ6
      refine V_iast (pc := 52) hC ia_72 (inB_of h5) dX6_addMember_52 ?_
      rw [eJ6]
      refine V_aload_n (pc := 53) hC 1 dX6_addMember_53 rfl rfl ?_
      refine gf_X6_7 (pc := 54) hC dX6_addMember_54 ?_
      refine V_bipush (pc := 57) hC dX6_addMember_57 (v := (nI 49)) (by decide) ?_
      refine V_iload_n (pc := 59) hC 0 dX6_addMember_59 rfl rfl ?_
      refine V_iadd (pc := 60) hC dX6_addMember_60 ?_
      refine V_iload_n (pc := 61) hC 0 dX6_addMember_61 rfl rfl ?_
      obtain ⟨h7, hf⟩ := if_some hf
      obtain ⟨J8, eJ8, hf⟩ := bind_some hf
      have eJ8 := Option.some.inj eJ8
      refine V_iast (pc := 62) hC ia_72 (inB_of h7) dX6_addMember_62 ?_
      rw [eJ8]
      refine V_aload_n (pc := 63) hC 1 dX6_addMember_63 rfl rfl ?_
      refine gf_X6_7 (pc := 64) hC dX6_addMember_64 ?_
      refine V_bipush (pc := 67) hC dX6_addMember_67 (v := (nI 59)) (by decide) ?_
      refine V_iload_n (pc := 69) hC 0 dX6_addMember_69 rfl rfl ?_
      refine V_iadd (pc := 70) hC dX6_addMember_70 ?_
      refine V_iconst (pc := 71) hC dX6_addMember_71 (v := (nI 0)) (by decide) ?_
      obtain ⟨h9, hf⟩ := if_some hf
      refine V_iast (pc := 72) hC ia_72 (inB_of h9) dX6_addMember_72 ?_
      refine V_aload_n (pc := 73) hC 1 dX6_addMember_73 rfl rfl ?_
      refine gf_X6_7 (pc := 74) hC dX6_addMember_74 ?_
      refine V_iconst (pc := 77) hC dX6_addMember_77 (v := (nI 0)) (by decide) ?_
      refine V_dup2 (pc := 78) hC dX6_addMember_78 rfl rfl ?_
      refine V_iald (pc := 79) hC ia_72 (inB_of (by decide)) dX6_addMember_79 ?_
      refine V_iconst (pc := 80) hC dX6_addMember_80 (v := (nI 1)) (by decide) ?_
      refine V_iadd (pc := 81) hC dX6_addMember_81 ?_
      obtain ⟨J10, eJ10, hf⟩ := bind_some hf
      have eJ10 := Option.some.inj eJ10
      refine V_iast (pc := 82) hC ia_72 (inB_of (by decide)) dX6_addMember_82 ?_
      rw [eJ10]
      refine V_iload_n (pc := 83) hC 0 dX6_addMember_83 rfl rfl ?_
      have hf := Option.some.inj hf; subst hf
      exact V_ireturn (pc := 84) hR rfl dX6_addMember_84
    · have hf := ite_t hf c2
      refine V_bipush (pc := 26) hC dX6_addMember_26 (v := (-3 : Int32)) (by decide) ?_
      have hf := Option.some.inj hf; subst hf
      exact V_ireturn (pc := 28) hR rfl dX6_addMember_28
  · have hf := ite_t hf c1
    refine V_bipush (pc := 10) hC dX6_addMember_10 (v := (-2 : Int32)) (by decide) ?_
    have hf := Option.some.inj hf; subst hf
    exact V_ireturn (pc := 12) hR rfl dX6_addMember_12
def f_X6_part_57 (k : Nat) (I : Mem) (v1 : Int32) (v2 : Int32) (v4 : Int32) (sh16 : Int32 → Int32 → Mem → Option (Mem)) (w0 : Int32) : Option (Mem) := (if inB ((nI 49) + v4) 69 = true then sh16 w0 (v4 + (nI 1)) (up2 I (72) (Int32.toNatClampNeg ((nI 49) + v4)) w0) else none)
set_option maxHeartbeats 4000000 in
set_option maxRecDepth 100000 in
theorem b_X6_part_57 {X : XT} {E : EN} {k : Nat} {I : Mem} {v1 : Int32} {v2 : Int32} {v4 : Int32} {sh16 : Int32 → Int32 → Mem → Option (Mem)} {w0 : Int32} {r : Mem} (hC : Cx X E cX6_part 5 RX6 0 0) (hs16 : ∀ (v3 : Int32) (v4 : Int32) (J : Mem), sh16 v3 v4 J = some r → V X E 5 16 [(0, .ref (E.2.1 (71))), (1, .int v1), (2, .int v2), (3, .int v3), (4, .int v4)] [] J) (hR : Rt X E cX6_part none none r) (hf : f_X6_part_57 k I v1 v2 v4 sh16 w0 = some r) : V X E 5 57 [(0, .ref (E.2.1 (71))), (1, .int v1), (2, .int v2), (4, .int v4)] [.int w0] I := by
  unfold f_X6_part_57 at hf
  refine V_istore_n (pc := 57) (lv' := [(3, .int w0), (0, .ref (E.2.1 (71))), (1, .int v1), (2, .int v2), (4, .int v4)]) hC dX6_part_57 rfl (by decide) rfl ?_
  refine V_aload_n (pc := 58) hC 1 dX6_part_58 rfl rfl ?_
  refine gf_X6_7 (pc := 59) hC dX6_part_59 ?_
  refine V_bipush (pc := 62) hC dX6_part_62 (v := (nI 49)) (by decide) ?_
  refine V_iload (pc := 64) hC 4 dX6_part_64 rfl ?_
  refine V_iadd (pc := 66) hC dX6_part_66 ?_
  refine V_iload_n (pc := 67) hC 0 dX6_part_67 rfl rfl ?_
  obtain ⟨h8, hf⟩ := if_some hf
  refine V_iast (pc := 68) hC ia_72 (inB_of h8) dX6_part_68 ?_
  refine V_iinc (pc := 69) (lv' := [(4, .int (v4 + (nI 1))), (3, .int w0), (0, .ref (E.2.1 (71))), (1, .int v1), (2, .int v2)]) hC (nI 1) 4 dX6_part_69 rfl (by decide) (by decide) rfl ?_
  refine V_goto (pc := 72) (tgt := 16) hC dX6_part_72 (by decide) ?_
  refine V_sub (pc := 16) (lv' := [(0, .ref (E.2.1 (71))), (1, .int v1), (2, .int v2), (3, .int w0), (4, .int (v4 + (nI 1)))]) [2, 3, 4, 1, 0] rfl ?_
  exact hs16 w0 (v4 + (nI 1)) (up2 I (72) (Int32.toNatClampNeg ((nI 49) + v4)) w0) hf
def f_X6_part_16 (k : Nat) (v1 : Int32) (v2 : Int32) : Nat → Int32 → Int32 → Mem → Option (Mem)
  | 0, _, _, _ => none
  | n + 1, v3, v4, I => (if (I (72) (Int32.toNatClampNeg (nI 0))) ≤ v4 then (if inB ((nI 49) + v1) 69 = true then some (up2 I (72) (Int32.toNatClampNeg ((nI 49) + v1)) v1) else none) else (if v4 = v1 then (f_X6_part_16 k v1 v2 n) v3 (v4 + (nI 1)) I else (if inB ((nI 49) + v4) 69 = true then (if (I (72) (Int32.toNatClampNeg ((nI 49) + v4))) = v2 then (if 0 ≤ v3 then f_X6_part_57 k I v1 v2 v4 (f_X6_part_16 k v1 v2 n) v3 else f_X6_part_57 k I v1 v2 v4 (f_X6_part_16 k v1 v2 n) v4) else (f_X6_part_16 k v1 v2 n) v3 (v4 + (nI 1)) I) else none)))
set_option maxHeartbeats 4000000 in
set_option maxRecDepth 100000 in
theorem b_X6_part_16 {X : XT} {E : EN} {k : Nat} {v1 : Int32} {v2 : Int32} {r : Mem} (hC : Cx X E cX6_part 5 RX6 0 0) (hR : Rt X E cX6_part none none r) : ∀ (n : Nat) (v3 : Int32) (v4 : Int32) (I : Mem), f_X6_part_16 k v1 v2 n v3 v4 I = some r → V X E 5 16 [(0, .ref (E.2.1 (71))), (1, .int v1), (2, .int v2), (3, .int v3), (4, .int v4)] [] I := by
  intro n
  induction n with
  | zero =>
    intro v3 v4 I hf
    rw [f_X6_part_16] at hf
    cases hf
  | succ n ih =>
    intro v3 v4 I hf
    rw [f_X6_part_16] at hf
    refine V_iload (pc := 16) hC 4 dX6_part_16 rfl ?_
    refine V_aload_n (pc := 18) hC 0 dX6_part_18 rfl rfl ?_
    refine gf_X6_7 (pc := 19) hC dX6_part_19 ?_
    refine V_iconst (pc := 22) hC dX6_part_22 (v := (nI 0)) (by decide) ?_
    refine V_iald (pc := 23) hC ia_72 (inB_of (by decide)) dX6_part_23 ?_
    refine V_icmp_ge (pc := 24) (tgt := 75) hC dX6_part_24 (by decide) (fun c2 => ?_) (fun c2 => ?_)
    · have hf := ite_t hf c2
      refine V_aload_n (pc := 75) hC 0 dX6_part_75 rfl rfl ?_
      refine gf_X6_7 (pc := 76) hC dX6_part_76 ?_
      refine V_bipush (pc := 79) hC dX6_part_79 (v := (nI 49)) (by decide) ?_
      refine V_iload_n (pc := 81) hC 1 dX6_part_81 rfl rfl ?_
      refine V_iadd (pc := 82) hC dX6_part_82 ?_
      refine V_iload_n (pc := 83) hC 1 dX6_part_83 rfl rfl ?_
      obtain ⟨h3, hf⟩ := if_some hf
      refine V_iast (pc := 84) hC ia_72 (inB_of h3) dX6_part_84 ?_
      have hf := Option.some.inj hf; subst hf
      exact V_return (pc := 85) hR trivial dX6_part_85
    · have hf := ite_f hf c2
      refine V_iload (pc := 27) hC 4 dX6_part_27 rfl ?_
      refine V_iload_n (pc := 29) hC 1 dX6_part_29 rfl rfl ?_
      refine V_icmp_eq (pc := 30) (tgt := 69) hC dX6_part_30 (by decide) (fun c4 => ?_) (fun c4 => ?_)
      · have hf := ite_t hf c4
        refine V_iinc (pc := 69) (lv' := [(4, .int (v4 + (nI 1))), (0, .ref (E.2.1 (71))), (1, .int v1), (2, .int v2), (3, .int v3)]) hC (nI 1) 4 dX6_part_69 rfl (by decide) (by decide) rfl ?_
        refine V_goto (pc := 72) (tgt := 16) hC dX6_part_72 (by decide) ?_
        refine V_sub (pc := 16) (lv' := [(0, .ref (E.2.1 (71))), (1, .int v1), (2, .int v2), (3, .int v3), (4, .int (v4 + (nI 1)))]) [1, 2, 3, 4, 0] rfl ?_
        exact ih v3 (v4 + (nI 1)) I hf
      · have hf := ite_f hf c4
        refine V_aload_n (pc := 33) hC 0 dX6_part_33 rfl rfl ?_
        refine gf_X6_7 (pc := 34) hC dX6_part_34 ?_
        refine V_bipush (pc := 37) hC dX6_part_37 (v := (nI 49)) (by decide) ?_
        refine V_iload (pc := 39) hC 4 dX6_part_39 rfl ?_
        refine V_iadd (pc := 41) hC dX6_part_41 ?_
        obtain ⟨h5, hf⟩ := if_some hf
        refine V_iald (pc := 42) hC ia_72 (inB_of h5) dX6_part_42 ?_
        refine V_iload_n (pc := 43) hC 2 dX6_part_43 rfl rfl ?_
        refine V_icmp_ne (pc := 44) (tgt := 69) hC dX6_part_44 (by decide) (fun c6 => ?_) (fun c6 => ?_)
        · have hf := ite_f hf c6
          refine V_iinc (pc := 69) (lv' := [(4, .int (v4 + (nI 1))), (0, .ref (E.2.1 (71))), (1, .int v1), (2, .int v2), (3, .int v3)]) hC (nI 1) 4 dX6_part_69 rfl (by decide) (by decide) rfl ?_
          refine V_goto (pc := 72) (tgt := 16) hC dX6_part_72 (by decide) ?_
          refine V_sub (pc := 16) (lv' := [(0, .ref (E.2.1 (71))), (1, .int v1), (2, .int v2), (3, .int v3), (4, .int (v4 + (nI 1)))]) [1, 2, 3, 4, 0] rfl ?_
          exact ih v3 (v4 + (nI 1)) I hf
        · have hf := ite_t hf c6
          refine V_iload_n (pc := 47) hC 3 dX6_part_47 rfl rfl ?_
          refine V_if_ge (pc := 48) (tgt := 56) hC dX6_part_48 (by decide) (fun c7 => ?_) (fun c7 => ?_)
          · have hf := ite_t hf c7
            refine V_iload_n (pc := 56) hC 3 dX6_part_56 rfl rfl ?_
            refine V_sub (pc := 57) (lv' := [(0, .ref (E.2.1 (71))), (1, .int v1), (2, .int v2), (4, .int v4)]) [0, 1, 2, 4] rfl ?_
            exact b_X6_part_57 hC ih hR hf
          · have hf := ite_f hf c7
            refine V_iload (pc := 51) hC 4 dX6_part_51 rfl ?_
            refine V_goto (pc := 53) (tgt := 57) hC dX6_part_53 (by decide) ?_
            refine V_sub (pc := 57) (lv' := [(0, .ref (E.2.1 (71))), (1, .int v1), (2, .int v2), (4, .int v4)]) [0, 1, 2, 4] rfl ?_
            exact b_X6_part_57 hC ih hR hf
def f_X6_part (k : Nat) (v1 : Int32) (I : Mem) : Option (Mem) := (if inB ((nI 49) + v1) 69 = true then f_X6_part_16 k v1 (I (72) (Int32.toNatClampNeg ((nI 49) + v1))) k (-5 : Int32) (nI 0) I else none)
set_option maxHeartbeats 4000000 in
set_option maxRecDepth 100000 in
theorem c_X6_part {E : EN} {k : Nat} {v1 : Int32} {I : Mem} {r : Mem} (hf : f_X6_part k v1 I = some r) : Ct E yX6_part cX6_part 5 none 0 0 [.ref (E.2.1 (71)), .int v1] I none r := by
  refine Ct_of (by decide) (Nat.le_of_ble_eq_true rfl) (fun X hC0 hR => ?_)
  have hC : Cx X E cX6_part 5 RX6 0 0 := hC0
  change V X E 5 0 [(0, .ref (E.2.1 (71))), (1, .int v1)] [] I
  unfold f_X6_part at hf
  refine V_aload_n (pc := 0) hC 0 dX6_part_0 rfl rfl ?_
  refine gf_X6_7 (pc := 1) hC dX6_part_1 ?_
  refine V_bipush (pc := 4) hC dX6_part_4 (v := (nI 49)) (by decide) ?_
  refine V_iload_n (pc := 6) hC 1 dX6_part_6 rfl rfl ?_
  refine V_iadd (pc := 7) hC dX6_part_7 ?_
  obtain ⟨h1, hf⟩ := if_some hf
  refine V_iald (pc := 8) hC ia_72 (inB_of h1) dX6_part_8 ?_
  refine V_istore_n (pc := 9) (lv' := [(2, .int (I (72) (Int32.toNatClampNeg ((nI 49) + v1)))), (0, .ref (E.2.1 (71))), (1, .int v1)]) hC dX6_part_9 rfl (by decide) rfl ?_
  refine V_bipush (pc := 10) hC dX6_part_10 (v := (-5 : Int32)) (by decide) ?_
  refine V_istore_n (pc := 12) (lv' := [(3, .int (-5 : Int32)), (2, .int (I (72) (Int32.toNatClampNeg ((nI 49) + v1)))), (0, .ref (E.2.1 (71))), (1, .int v1)]) hC dX6_part_12 rfl (by decide) rfl ?_
  refine V_iconst (pc := 13) hC dX6_part_13 (v := (nI 0)) (by decide) ?_
  refine V_istore (pc := 14) (lv' := [(4, .int (nI 0)), (3, .int (-5 : Int32)), (2, .int (I (72) (Int32.toNatClampNeg ((nI 49) + v1)))), (0, .ref (E.2.1 (71))), (1, .int v1)]) hC dX6_part_14 (by decide) rfl ?_
  refine V_sub (pc := 16) (lv' := [(0, .ref (E.2.1 (71))), (1, .int v1), (2, .int (I (72) (Int32.toNatClampNeg ((nI 49) + v1)))), (3, .int (-5 : Int32)), (4, .int (nI 0))]) [3, 4, 2, 1, 0] rfl ?_
  exact b_X6_part_16 hC hR k (-5 : Int32) (nI 0) I hf
def f_X6_removeMember_129 (k : Nat) (v1 : Int32) : Nat → Int32 → Mem → Option (Int32 × Mem)
  | 0, _, _ => none
  | n + 1, v2, I => (if (I (72) (Int32.toNatClampNeg (nI 0))) ≤ v2 then some (I (72) (Int32.toNatClampNeg (nI 0)), I) else (if inB ((nI 49) + v2) 69 = true then (if inB ((nI 49) + v2) 69 = true then (if (I (72) (Int32.toNatClampNeg ((nI 49) + v2))) ≤ v1 then (if inB ((nI 49) + v2) 69 = true then (Option.bind (some (up2 I (72) (Int32.toNatClampNeg ((nI 49) + v2)) ((I (72) (Int32.toNatClampNeg ((nI 49) + v2))) - (nI 0)))) (fun J23 => (f_X6_removeMember_129 k v1 n) (v2 + (nI 1)) J23)) else none) else (if inB ((nI 49) + v2) 69 = true then (Option.bind (some (up2 I (72) (Int32.toNatClampNeg ((nI 49) + v2)) ((I (72) (Int32.toNatClampNeg ((nI 49) + v2))) - (nI 1)))) (fun J25 => (f_X6_removeMember_129 k v1 n) (v2 + (nI 1)) J25)) else none)) else none) else none))
set_option maxHeartbeats 4000000 in
set_option maxRecDepth 100000 in
theorem b_X6_removeMember_129 {X : XT} {E : EN} {k : Nat} {v1 : Int32} {r : Int32 × Mem} (hC : Cx X E cX6_removeMember 3 RX6 2 43) (hR : Rt X E cX6_removeMember (some .int) (some (.int r.1)) r.2) : ∀ (n : Nat) (v2 : Int32) (I : Mem), f_X6_removeMember_129 k v1 n v2 I = some r → V X E 3 129 [(0, .ref (E.2.1 (71))), (1, .int v1), (2, .int v2)] [] I := by
  intro n
  induction n with
  | zero =>
    intro v2 I hf
    rw [f_X6_removeMember_129] at hf
    cases hf
  | succ n ih =>
    intro v2 I hf
    rw [f_X6_removeMember_129] at hf
    refine V_iload_n (pc := 129) hC 2 dX6_removeMember_129 rfl rfl ?_
    refine V_aload_n (pc := 130) hC 0 dX6_removeMember_130 rfl rfl ?_
    refine gf_X6_7 (pc := 131) hC dX6_removeMember_131 ?_
    refine V_iconst (pc := 134) hC dX6_removeMember_134 (v := (nI 0)) (by decide) ?_
    refine V_iald (pc := 135) hC ia_72 (inB_of (by decide)) dX6_removeMember_135 ?_
    refine V_icmp_ge (pc := 136) (tgt := 175) hC dX6_removeMember_136 (by decide) (fun c18 => ?_) (fun c18 => ?_)
    · have hf := ite_t hf c18
      refine V_aload_n (pc := 175) hC 0 dX6_removeMember_175 rfl rfl ?_
      refine gf_X6_7 (pc := 176) hC dX6_removeMember_176 ?_
      refine V_iconst (pc := 179) hC dX6_removeMember_179 (v := (nI 0)) (by decide) ?_
      refine V_iald (pc := 180) hC ia_72 (inB_of (by decide)) dX6_removeMember_180 ?_
      have hf := Option.some.inj hf; subst hf
      exact V_ireturn (pc := 181) hR rfl dX6_removeMember_181
    · have hf := ite_f hf c18
      refine V_aload_n (pc := 139) hC 0 dX6_removeMember_139 rfl rfl ?_
      refine gf_X6_7 (pc := 140) hC dX6_removeMember_140 ?_
      refine V_bipush (pc := 143) hC dX6_removeMember_143 (v := (nI 49)) (by decide) ?_
      refine V_iload_n (pc := 145) hC 2 dX6_removeMember_145 rfl rfl ?_
      refine V_iadd (pc := 146) hC dX6_removeMember_146 ?_
      refine V_dup2 (pc := 147) hC dX6_removeMember_147 rfl rfl ?_
      obtain ⟨h19, hf⟩ := if_some hf
      refine V_iald (pc := 148) hC ia_72 (inB_of h19) dX6_removeMember_148 ?_
      refine V_aload_n (pc := 149) hC 0 dX6_removeMember_149 rfl rfl ?_
      refine gf_X6_7 (pc := 150) hC dX6_removeMember_150 ?_
      refine V_bipush (pc := 153) hC dX6_removeMember_153 (v := (nI 49)) (by decide) ?_
      refine V_iload_n (pc := 155) hC 2 dX6_removeMember_155 rfl rfl ?_
      refine V_iadd (pc := 156) hC dX6_removeMember_156 ?_
      obtain ⟨h20, hf⟩ := if_some hf
      refine V_iald (pc := 157) hC ia_72 (inB_of h20) dX6_removeMember_157 ?_
      refine V_iload_n (pc := 158) hC 1 dX6_removeMember_158 rfl rfl ?_
      refine V_icmp_le (pc := 159) (tgt := 166) hC dX6_removeMember_159 (by decide) (fun c21 => ?_) (fun c21 => ?_)
      · have hf := ite_t hf c21
        refine V_iconst (pc := 166) hC dX6_removeMember_166 (v := (nI 0)) (by decide) ?_
        refine V_isub (pc := 167) hC dX6_removeMember_167 ?_
        obtain ⟨h22, hf⟩ := if_some hf
        obtain ⟨J23, eJ23, hf⟩ := bind_some hf
        have eJ23 := Option.some.inj eJ23
        refine V_iast (pc := 168) hC ia_72 (inB_of h22) dX6_removeMember_168 ?_
        rw [eJ23]
        refine V_iinc (pc := 169) (lv' := [(2, .int (v2 + (nI 1))), (0, .ref (E.2.1 (71))), (1, .int v1)]) hC (nI 1) 2 dX6_removeMember_169 rfl (by decide) (by decide) rfl ?_
        refine V_goto (pc := 172) (tgt := 129) hC dX6_removeMember_172 (by decide) ?_
        refine V_sub (pc := 129) (lv' := [(0, .ref (E.2.1 (71))), (1, .int v1), (2, .int (v2 + (nI 1)))]) [1, 2, 0] rfl ?_
        exact ih (v2 + (nI 1)) J23 hf
      · have hf := ite_f hf c21
        refine V_iconst (pc := 162) hC dX6_removeMember_162 (v := (nI 1)) (by decide) ?_
        refine V_goto (pc := 163) (tgt := 167) hC dX6_removeMember_163 (by decide) ?_
        refine V_isub (pc := 167) hC dX6_removeMember_167 ?_
        obtain ⟨h24, hf⟩ := if_some hf
        obtain ⟨J25, eJ25, hf⟩ := bind_some hf
        have eJ25 := Option.some.inj eJ25
        refine V_iast (pc := 168) hC ia_72 (inB_of h24) dX6_removeMember_168 ?_
        rw [eJ25]
        refine V_iinc (pc := 169) (lv' := [(2, .int (v2 + (nI 1))), (0, .ref (E.2.1 (71))), (1, .int v1)]) hC (nI 1) 2 dX6_removeMember_169 rfl (by decide) (by decide) rfl ?_
        refine V_goto (pc := 172) (tgt := 129) hC dX6_removeMember_172 (by decide) ?_
        refine V_sub (pc := 129) (lv' := [(0, .ref (E.2.1 (71))), (1, .int v1), (2, .int (v2 + (nI 1)))]) [1, 2, 0] rfl ?_
        exact ih (v2 + (nI 1)) J25 hf
def f_X6_removeMember_31 (k : Nat) (v1 : Int32) : Nat → Int32 → Mem → Option (Int32 × Mem)
  | 0, _, _ => none
  | n + 1, v2, I => (if (I (72) (Int32.toNatClampNeg (nI 0))) ≤ v2 then f_X6_removeMember_129 k v1 k (nI 0) I else (if inB (((nI 29) + v2) + (nI 1)) 69 = true then (if inB ((nI 29) + v2) 69 = true then (Option.bind (some (up2 I (72) (Int32.toNatClampNeg ((nI 29) + v2)) (I (72) (Int32.toNatClampNeg (((nI 29) + v2) + (nI 1)))))) (fun J8 => (if inB (((nI 39) + v2) + (nI 1)) 69 = true then (if inB ((nI 39) + v2) 69 = true then (Option.bind (some (up2 J8 (72) (Int32.toNatClampNeg ((nI 39) + v2)) (J8 (72) (Int32.toNatClampNeg (((nI 39) + v2) + (nI 1)))))) (fun J11 => (if inB (((nI 49) + v2) + (nI 1)) 69 = true then (if inB ((nI 49) + v2) 69 = true then (Option.bind (some (up2 J11 (72) (Int32.toNatClampNeg ((nI 49) + v2)) (J11 (72) (Int32.toNatClampNeg (((nI 49) + v2) + (nI 1)))))) (fun J14 => (if inB (((nI 59) + v2) + (nI 1)) 69 = true then (if inB ((nI 59) + v2) 69 = true then (Option.bind (some (up2 J14 (72) (Int32.toNatClampNeg ((nI 59) + v2)) (J14 (72) (Int32.toNatClampNeg (((nI 59) + v2) + (nI 1)))))) (fun J17 => (f_X6_removeMember_31 k v1 n) (v2 + (nI 1)) J17)) else none) else none))) else none) else none))) else none) else none))) else none) else none))
set_option maxHeartbeats 4000000 in
set_option maxRecDepth 100000 in
theorem b_X6_removeMember_31 {X : XT} {E : EN} {k : Nat} {v1 : Int32} {r : Int32 × Mem} (hC : Cx X E cX6_removeMember 3 RX6 2 43) (hR : Rt X E cX6_removeMember (some .int) (some (.int r.1)) r.2) : ∀ (n : Nat) (v2 : Int32) (I : Mem), f_X6_removeMember_31 k v1 n v2 I = some r → V X E 3 31 [(0, .ref (E.2.1 (71))), (1, .int v1), (2, .int v2)] [] I := by
  intro n
  induction n with
  | zero =>
    intro v2 I hf
    rw [f_X6_removeMember_31] at hf
    cases hf
  | succ n ih =>
    intro v2 I hf
    rw [f_X6_removeMember_31] at hf
    refine V_iload_n (pc := 31) hC 2 dX6_removeMember_31 rfl rfl ?_
    refine V_aload_n (pc := 32) hC 0 dX6_removeMember_32 rfl rfl ?_
    refine gf_X6_7 (pc := 33) hC dX6_removeMember_33 ?_
    refine V_iconst (pc := 36) hC dX6_removeMember_36 (v := (nI 0)) (by decide) ?_
    refine V_iald (pc := 37) hC ia_72 (inB_of (by decide)) dX6_removeMember_37 ?_
    refine V_icmp_ge (pc := 38) (tgt := 127) hC dX6_removeMember_38 (by decide) (fun c5 => ?_) (fun c5 => ?_)
    · have hf := ite_t hf c5
      refine V_iconst (pc := 127) hC dX6_removeMember_127 (v := (nI 0)) (by decide) ?_
      refine V_istore_n (pc := 128) (lv' := [(2, .int (nI 0)), (0, .ref (E.2.1 (71))), (1, .int v1)]) hC dX6_removeMember_128 rfl (by decide) rfl ?_
      refine V_sub (pc := 129) (lv' := [(0, .ref (E.2.1 (71))), (1, .int v1), (2, .int (nI 0))]) [1, 2, 0] rfl ?_
      exact b_X6_removeMember_129 hC hR k (nI 0) I hf
    · have hf := ite_f hf c5
      refine V_aload_n (pc := 41) hC 0 dX6_removeMember_41 rfl rfl ?_
      refine gf_X6_7 (pc := 42) hC dX6_removeMember_42 ?_
      refine V_bipush (pc := 45) hC dX6_removeMember_45 (v := (nI 29)) (by decide) ?_
      refine V_iload_n (pc := 47) hC 2 dX6_removeMember_47 rfl rfl ?_
      refine V_iadd (pc := 48) hC dX6_removeMember_48 ?_
      refine V_aload_n (pc := 49) hC 0 dX6_removeMember_49 rfl rfl ?_
      refine gf_X6_7 (pc := 50) hC dX6_removeMember_50 ?_
      refine V_bipush (pc := 53) hC dX6_removeMember_53 (v := (nI 29)) (by decide) ?_
      refine V_iload_n (pc := 55) hC 2 dX6_removeMember_55 rfl rfl ?_
      refine V_iadd (pc := 56) hC dX6_removeMember_56 ?_
      refine V_iconst (pc := 57) hC dX6_removeMember_57 (v := (nI 1)) (by decide) ?_
      refine V_iadd (pc := 58) hC dX6_removeMember_58 ?_
      obtain ⟨h6, hf⟩ := if_some hf
      refine V_iald (pc := 59) hC ia_72 (inB_of h6) dX6_removeMember_59 ?_
      obtain ⟨h7, hf⟩ := if_some hf
      obtain ⟨J8, eJ8, hf⟩ := bind_some hf
      have eJ8 := Option.some.inj eJ8
      refine V_iast (pc := 60) hC ia_72 (inB_of h7) dX6_removeMember_60 ?_
      rw [eJ8]
      refine V_aload_n (pc := 61) hC 0 dX6_removeMember_61 rfl rfl ?_
      refine gf_X6_7 (pc := 62) hC dX6_removeMember_62 ?_
      refine V_bipush (pc := 65) hC dX6_removeMember_65 (v := (nI 39)) (by decide) ?_
      refine V_iload_n (pc := 67) hC 2 dX6_removeMember_67 rfl rfl ?_
      refine V_iadd (pc := 68) hC dX6_removeMember_68 ?_
      refine V_aload_n (pc := 69) hC 0 dX6_removeMember_69 rfl rfl ?_
      refine gf_X6_7 (pc := 70) hC dX6_removeMember_70 ?_
      refine V_bipush (pc := 73) hC dX6_removeMember_73 (v := (nI 39)) (by decide) ?_
      refine V_iload_n (pc := 75) hC 2 dX6_removeMember_75 rfl rfl ?_
      refine V_iadd (pc := 76) hC dX6_removeMember_76 ?_
      refine V_iconst (pc := 77) hC dX6_removeMember_77 (v := (nI 1)) (by decide) ?_
      refine V_iadd (pc := 78) hC dX6_removeMember_78 ?_
      obtain ⟨h9, hf⟩ := if_some hf
      refine V_iald (pc := 79) hC ia_72 (inB_of h9) dX6_removeMember_79 ?_
      obtain ⟨h10, hf⟩ := if_some hf
      obtain ⟨J11, eJ11, hf⟩ := bind_some hf
      have eJ11 := Option.some.inj eJ11
      refine V_iast (pc := 80) hC ia_72 (inB_of h10) dX6_removeMember_80 ?_
      rw [eJ11]
      refine V_aload_n (pc := 81) hC 0 dX6_removeMember_81 rfl rfl ?_
      refine gf_X6_7 (pc := 82) hC dX6_removeMember_82 ?_
      refine V_bipush (pc := 85) hC dX6_removeMember_85 (v := (nI 49)) (by decide) ?_
      refine V_iload_n (pc := 87) hC 2 dX6_removeMember_87 rfl rfl ?_
      refine V_iadd (pc := 88) hC dX6_removeMember_88 ?_
      refine V_aload_n (pc := 89) hC 0 dX6_removeMember_89 rfl rfl ?_
      refine gf_X6_7 (pc := 90) hC dX6_removeMember_90 ?_
      refine V_bipush (pc := 93) hC dX6_removeMember_93 (v := (nI 49)) (by decide) ?_
      refine V_iload_n (pc := 95) hC 2 dX6_removeMember_95 rfl rfl ?_
      refine V_iadd (pc := 96) hC dX6_removeMember_96 ?_
      refine V_iconst (pc := 97) hC dX6_removeMember_97 (v := (nI 1)) (by decide) ?_
      refine V_iadd (pc := 98) hC dX6_removeMember_98 ?_
      obtain ⟨h12, hf⟩ := if_some hf
      refine V_iald (pc := 99) hC ia_72 (inB_of h12) dX6_removeMember_99 ?_
      obtain ⟨h13, hf⟩ := if_some hf
      obtain ⟨J14, eJ14, hf⟩ := bind_some hf
      have eJ14 := Option.some.inj eJ14
      refine V_iast (pc := 100) hC ia_72 (inB_of h13) dX6_removeMember_100 ?_
      rw [eJ14]
      refine V_aload_n (pc := 101) hC 0 dX6_removeMember_101 rfl rfl ?_
      refine gf_X6_7 (pc := 102) hC dX6_removeMember_102 ?_
      refine V_bipush (pc := 105) hC dX6_removeMember_105 (v := (nI 59)) (by decide) ?_
      refine V_iload_n (pc := 107) hC 2 dX6_removeMember_107 rfl rfl ?_
      refine V_iadd (pc := 108) hC dX6_removeMember_108 ?_
      refine V_aload_n (pc := 109) hC 0 dX6_removeMember_109 rfl rfl ?_
      refine gf_X6_7 (pc := 110) hC dX6_removeMember_110 ?_
      refine V_bipush (pc := 113) hC dX6_removeMember_113 (v := (nI 59)) (by decide) ?_
      refine V_iload_n (pc := 115) hC 2 dX6_removeMember_115 rfl rfl ?_
      refine V_iadd (pc := 116) hC dX6_removeMember_116 ?_
      refine V_iconst (pc := 117) hC dX6_removeMember_117 (v := (nI 1)) (by decide) ?_
      refine V_iadd (pc := 118) hC dX6_removeMember_118 ?_
      obtain ⟨h15, hf⟩ := if_some hf
      refine V_iald (pc := 119) hC ia_72 (inB_of h15) dX6_removeMember_119 ?_
      obtain ⟨h16, hf⟩ := if_some hf
      obtain ⟨J17, eJ17, hf⟩ := bind_some hf
      have eJ17 := Option.some.inj eJ17
      refine V_iast (pc := 120) hC ia_72 (inB_of h16) dX6_removeMember_120 ?_
      rw [eJ17]
      refine V_iinc (pc := 121) (lv' := [(2, .int (v2 + (nI 1))), (0, .ref (E.2.1 (71))), (1, .int v1)]) hC (nI 1) 2 dX6_removeMember_121 rfl (by decide) (by decide) rfl ?_
      refine V_goto (pc := 124) (tgt := 31) hC dX6_removeMember_124 (by decide) ?_
      refine V_sub (pc := 31) (lv' := [(0, .ref (E.2.1 (71))), (1, .int v1), (2, .int (v2 + (nI 1)))]) [1, 2, 0] rfl ?_
      exact ih (v2 + (nI 1)) J17 hf
def f_X6_removeMember (k : Nat) (v1 : Int32) (I : Mem) : Option (Int32 × Mem) := (Option.bind (f_X6_noMember k v1 I) (fun r1 => (if r1 = 0 then (Option.bind (f_X6_record k I) (fun r3 => (Option.bind (f_X6_part k v1 r3) (fun r4 => f_X6_removeMember_31 k v1 k v1 (up2 r4 (72) (Int32.toNatClampNeg (nI 0)) ((r4 (72) (Int32.toNatClampNeg (nI 0))) - (nI 1))))))) else some ((-1 : Int32), I))))
set_option maxHeartbeats 4000000 in
set_option maxRecDepth 100000 in
theorem c_X6_removeMember {E : EN} {k : Nat} {v1 : Int32} {I : Mem} {r : Int32 × Mem} (hf : f_X6_removeMember k v1 I = some r) : Ct E yX6_removeMember cX6_removeMember 3 (some .int) 2 43 [.ref (E.2.1 (71)), .int v1] I (some (.int r.1)) r.2 := by
  refine Ct_of (by decide) (Nat.le_of_ble_eq_true rfl) (fun X hC0 hR => ?_)
  have hC : Cx X E cX6_removeMember 3 RX6 2 43 := hC0
  change V X E 3 0 [(0, .ref (E.2.1 (71))), (1, .int v1)] [] I
  unfold f_X6_removeMember at hf
  refine V_aload_n (pc := 0) hC 0 dX6_removeMember_0 rfl rfl ?_
  refine V_iload_n (pc := 1) hC 1 dX6_removeMember_1 rfl rfl ?_
  obtain ⟨r1, g1, hf⟩ := bind_some hf
  refine V_callV (pc := 2) (rest := []) (As := [.int v1]) hC lk_X6_57 (by decide) cel_X6 rfl (c_X6_noMember  g1) rfl rfl (Nat.le_of_ble_eq_true rfl) (by decide) dX6_removeMember_2 ?_
  change V X E 3 5 [(0, .ref (E.2.1 (71))), (1, .int v1)] [.int r1] I
  refine V_if_eq (pc := 5) (tgt := 10) hC dX6_removeMember_5 (by decide) (fun c2 => ?_) (fun c2 => ?_)
  · have hf := ite_t hf c2
    refine V_aload_n (pc := 10) hC 0 dX6_removeMember_10 rfl rfl ?_
    obtain ⟨r3, g3, hf⟩ := bind_some hf
    refine V_callV (pc := 11) (rest := []) (As := []) hC lk_X6_50 (by decide) cel_X6 rfl (c_X6_record  g3) rfl rfl (Nat.le_of_ble_eq_true rfl) (by decide) dX6_removeMember_11 ?_
    change V X E 3 14 [(0, .ref (E.2.1 (71))), (1, .int v1)] [] r3
    refine V_aload_n (pc := 14) hC 0 dX6_removeMember_14 rfl rfl ?_
    refine V_iload_n (pc := 15) hC 1 dX6_removeMember_15 rfl rfl ?_
    obtain ⟨r4, g4, hf⟩ := bind_some hf
    refine V_callV (pc := 16) (rest := []) (As := [.int v1]) hC lk_X6_61 (by decide) cel_X6 rfl (c_X6_part  g4) rfl rfl (Nat.le_of_ble_eq_true rfl) (by decide) dX6_removeMember_16 ?_
    change V X E 3 19 [(0, .ref (E.2.1 (71))), (1, .int v1)] [] r4
    refine V_aload_n (pc := 19) hC 0 dX6_removeMember_19 rfl rfl ?_
    refine gf_X6_7 (pc := 20) hC dX6_removeMember_20 ?_
    refine V_iconst (pc := 23) hC dX6_removeMember_23 (v := (nI 0)) (by decide) ?_
    refine V_dup2 (pc := 24) hC dX6_removeMember_24 rfl rfl ?_
    refine V_iald (pc := 25) hC ia_72 (inB_of (by decide)) dX6_removeMember_25 ?_
    refine V_iconst (pc := 26) hC dX6_removeMember_26 (v := (nI 1)) (by decide) ?_
    refine V_isub (pc := 27) hC dX6_removeMember_27 ?_
    refine V_iast (pc := 28) hC ia_72 (inB_of (by decide)) dX6_removeMember_28 ?_
    refine V_iload_n (pc := 29) hC 1 dX6_removeMember_29 rfl rfl ?_
    refine V_istore_n (pc := 30) (lv' := [(2, .int v1), (0, .ref (E.2.1 (71))), (1, .int v1)]) hC dX6_removeMember_30 rfl (by decide) rfl ?_
    refine V_sub (pc := 31) (lv' := [(0, .ref (E.2.1 (71))), (1, .int v1), (2, .int v1)]) [1, 2, 0] rfl ?_
    exact b_X6_removeMember_31 hC hR k v1 (up2 r4 (72) (Int32.toNatClampNeg (nI 0)) ((r4 (72) (Int32.toNatClampNeg (nI 0))) - (nI 1))) hf
  · have hf := ite_f hf c2
    refine V_iconst (pc := 8) hC dX6_removeMember_8 (v := (-1 : Int32)) (by decide) ?_
    have hf := Option.some.inj hf; subst hf
    exact V_ireturn (pc := 9) hR rfl dX6_removeMember_9
def f_X6_set (k : Nat) (v1 : Int32) (v2 : Int32) (I : Mem) : Option (Int32 × Mem) := (if inB v1 69 = true then (if (I (72) (Int32.toNatClampNeg v1)) = v2 then some ((-5 : Int32), I) else (Option.bind (f_X6_record k I) (fun r3 => (if inB v1 69 = true then some (I (72) (Int32.toNatClampNeg v1), up2 r3 (72) (Int32.toNatClampNeg v1) v2) else none)))) else none)
set_option maxHeartbeats 4000000 in
set_option maxRecDepth 100000 in
theorem c_X6_set {E : EN} {k : Nat} {v1 : Int32} {v2 : Int32} {I : Mem} {r : Int32 × Mem} (hf : f_X6_set k v1 v2 I = some r) : Ct E yX6_set cX6_set 4 (some .int) 1 21 [.ref (E.2.1 (71)), .int v1, .int v2] I (some (.int r.1)) r.2 := by
  refine Ct_of (by decide) (Nat.le_of_ble_eq_true rfl) (fun X hC0 hR => ?_)
  have hC : Cx X E cX6_set 4 RX6 1 21 := hC0
  change V X E 4 0 [(0, .ref (E.2.1 (71))), (1, .int v1), (2, .int v2)] [] I
  unfold f_X6_set at hf
  refine V_aload_n (pc := 0) hC 0 dX6_set_0 rfl rfl ?_
  refine gf_X6_7 (pc := 1) hC dX6_set_1 ?_
  refine V_iload_n (pc := 4) hC 1 dX6_set_4 rfl rfl ?_
  obtain ⟨h1, hf⟩ := if_some hf
  refine V_iald (pc := 5) hC ia_72 (inB_of h1) dX6_set_5 ?_
  refine V_istore_n (pc := 6) (lv' := [(3, .int (I (72) (Int32.toNatClampNeg v1))), (0, .ref (E.2.1 (71))), (1, .int v1), (2, .int v2)]) hC dX6_set_6 rfl (by decide) rfl ?_
  refine V_iload_n (pc := 7) hC 0 dX6_set_7 rfl rfl ?_
  refine V_iload_n (pc := 8) hC 3 dX6_set_8 rfl rfl ?_
  refine V_icmp_ne (pc := 9) (tgt := 15) hC dX6_set_9 (by decide) (fun c2 => ?_) (fun c2 => ?_)
  · have hf := ite_f hf c2
    refine V_aload_n (pc := 15) hC 1 dX6_set_15 rfl rfl ?_
    obtain ⟨r3, g3, hf⟩ := bind_some hf
    refine V_callV (pc := 16) (rest := []) (As := []) hC lk_X6_50 (by decide) cel_X6 rfl (c_X6_record  g3) rfl rfl (Nat.le_of_ble_eq_true rfl) (by decide) dX6_set_16 ?_
    change V X E 4 19 [(3, .int (I (72) (Int32.toNatClampNeg v1))), (0, .ref (E.2.1 (71))), (1, .int v1), (2, .int v2)] [] r3
    refine V_aload_n (pc := 19) hC 1 dX6_set_19 rfl rfl ?_
    refine gf_X6_7 (pc := 20) hC dX6_set_20 ?_
    refine V_iload_n (pc := 23) hC 2 dX6_set_23 rfl rfl ?_
    refine V_iload_n (pc := 24) hC 3 dX6_set_24 rfl rfl ?_
    obtain ⟨h4, hf⟩ := if_some hf
    refine V_iast (pc := 25) hC ia_72 (inB_of h4) dX6_set_25 ?_
    refine V_iload_n (pc := 26) hC 0 dX6_set_26 rfl rfl ?_
    have hf := Option.some.inj hf; subst hf
    exact V_ireturn (pc := 27) hR rfl dX6_set_27
  · have hf := ite_t hf c2
    refine V_bipush (pc := 12) hC dX6_set_12 (v := (-5 : Int32)) (by decide) ?_
    have hf := Option.some.inj hf; subst hf
    exact V_ireturn (pc := 14) hR rfl dX6_set_14
def f_X6_setWeight (k : Nat) (v1 : Int32) (v2 : Int32) (I : Mem) : Option (Int32 × Mem) := (Option.bind (f_X6_noMember k v1 I) (fun r1 => (if r1 = 0 then (if (f_X6_in v2 (nI 0) (nI 50)) = 0 then some ((-2 : Int32), I) else (Option.bind (f_X6_set k ((nI 29) + v1) v2 I) (fun r4 => some (r4.1, r4.2)))) else some ((-1 : Int32), I))))
set_option maxHeartbeats 4000000 in
set_option maxRecDepth 100000 in
theorem c_X6_setWeight {E : EN} {k : Nat} {v1 : Int32} {v2 : Int32} {I : Mem} {r : Int32 × Mem} (hf : f_X6_setWeight k v1 v2 I = some r) : Ct E yX6_setWeight cX6_setWeight 3 (some .int) 2 44 [.ref (E.2.1 (71)), .int v1, .int v2] I (some (.int r.1)) r.2 := by
  refine Ct_of (by decide) (Nat.le_of_ble_eq_true rfl) (fun X hC0 hR => ?_)
  have hC : Cx X E cX6_setWeight 3 RX6 2 44 := hC0
  change V X E 3 0 [(0, .ref (E.2.1 (71))), (1, .int v1), (2, .int v2)] [] I
  unfold f_X6_setWeight at hf
  refine V_aload_n (pc := 0) hC 0 dX6_setWeight_0 rfl rfl ?_
  refine V_iload_n (pc := 1) hC 1 dX6_setWeight_1 rfl rfl ?_
  obtain ⟨r1, g1, hf⟩ := bind_some hf
  refine V_callV (pc := 2) (rest := []) (As := [.int v1]) hC lk_X6_57 (by decide) cel_X6 rfl (c_X6_noMember  g1) rfl rfl (Nat.le_of_ble_eq_true rfl) (by decide) dX6_setWeight_2 ?_
  change V X E 3 5 [(0, .ref (E.2.1 (71))), (1, .int v1), (2, .int v2)] [.int r1] I
  refine V_if_eq (pc := 5) (tgt := 10) hC dX6_setWeight_5 (by decide) (fun c2 => ?_) (fun c2 => ?_)
  · have hf := ite_t hf c2
    refine V_iload_n (pc := 10) hC 2 dX6_setWeight_10 rfl rfl ?_
    refine V_iconst (pc := 11) hC dX6_setWeight_11 (v := (nI 0)) (by decide) ?_
    refine V_bipush (pc := 12) hC dX6_setWeight_12 (v := (nI 50)) (by decide) ?_
    refine V_callS (pc := 14) (rest := []) (As := [.int v2, .int (nI 0), .int (nI 50)]) hC lk_X6_53 (c_X6_in  rfl) rfl rfl (Nat.le_of_ble_eq_true rfl) (by decide) dX6_setWeight_14 ?_
    change V X E 3 17 [(0, .ref (E.2.1 (71))), (1, .int v1), (2, .int v2)] [.int (f_X6_in v2 (nI 0) (nI 50))] I
    refine V_if_eq (pc := 17) (tgt := 32) hC dX6_setWeight_17 (by decide) (fun c3 => ?_) (fun c3 => ?_)
    · have hf := ite_t hf c3
      refine V_bipush (pc := 32) hC dX6_setWeight_32 (v := (-2 : Int32)) (by decide) ?_
      have hf := Option.some.inj hf; subst hf
      exact V_ireturn (pc := 34) hR rfl dX6_setWeight_34
    · have hf := ite_f hf c3
      refine V_aload_n (pc := 20) hC 0 dX6_setWeight_20 rfl rfl ?_
      refine V_bipush (pc := 21) hC dX6_setWeight_21 (v := (nI 29)) (by decide) ?_
      refine V_iload_n (pc := 23) hC 1 dX6_setWeight_23 rfl rfl ?_
      refine V_iadd (pc := 24) hC dX6_setWeight_24 ?_
      refine V_iload_n (pc := 25) hC 2 dX6_setWeight_25 rfl rfl ?_
      obtain ⟨r4, g4, hf⟩ := bind_some hf
      refine V_callV (pc := 26) (rest := []) (As := [.int ((nI 29) + v1), .int v2]) hC lk_X6_65 (by decide) cel_X6 rfl (c_X6_set  g4) rfl rfl (Nat.le_of_ble_eq_true rfl) (by decide) dX6_setWeight_26 ?_
      change V X E 3 29 [(0, .ref (E.2.1 (71))), (1, .int v1), (2, .int v2)] [.int r4.1] r4.2
      refine V_goto (pc := 29) (tgt := 34) hC dX6_setWeight_29 (by decide) ?_
      have hf := Option.some.inj hf; subst hf
      exact V_ireturn (pc := 34) hR rfl dX6_setWeight_34
  · have hf := ite_f hf c2
    refine V_iconst (pc := 8) hC dX6_setWeight_8 (v := (-1 : Int32)) (by decide) ?_
    have hf := Option.some.inj hf; subst hf
    exact V_ireturn (pc := 9) hR rfl dX6_setWeight_9
def f_X6_withVeto_4 (k : Nat) (I : Mem) : Nat → Int32 → Int32 → Option (Int32)
  | 0, _, _ => none
  | n + 1, v1, v2 => (if (I (72) (Int32.toNatClampNeg (nI 0))) ≤ v2 then some v1 else (if inB ((nI 39) + v2) 69 = true then (f_X6_withVeto_4 k I n) (v1 + (I (72) (Int32.toNatClampNeg ((nI 39) + v2)))) (v2 + (nI 1)) else none))
set_option maxHeartbeats 4000000 in
set_option maxRecDepth 100000 in
theorem b_X6_withVeto_4 {X : XT} {E : EN} {k : Nat} {I : Mem} {r : Int32} (hC : Cx X E cX6_withVeto 3 RX6 0 0) (hR : Rt X E cX6_withVeto (some .int) (some (.int r)) I) : ∀ (n : Nat) (v1 : Int32) (v2 : Int32), f_X6_withVeto_4 k I n v1 v2 = some r → V X E 3 4 [(0, .ref (E.2.1 (71))), (1, .int v1), (2, .int v2)] [] I := by
  intro n
  induction n with
  | zero =>
    intro v1 v2 hf
    rw [f_X6_withVeto_4] at hf
    cases hf
  | succ n ih =>
    intro v1 v2 hf
    rw [f_X6_withVeto_4] at hf
    refine V_iload_n (pc := 4) hC 2 dX6_withVeto_4 rfl rfl ?_
    refine V_aload_n (pc := 5) hC 0 dX6_withVeto_5 rfl rfl ?_
    refine gf_X6_7 (pc := 6) hC dX6_withVeto_6 ?_
    refine V_iconst (pc := 9) hC dX6_withVeto_9 (v := (nI 0)) (by decide) ?_
    refine V_iald (pc := 10) hC ia_72 (inB_of (by decide)) dX6_withVeto_10 ?_
    refine V_icmp_ge (pc := 11) (tgt := 32) hC dX6_withVeto_11 (by decide) (fun c1 => ?_) (fun c1 => ?_)
    · have hf := ite_t hf c1
      refine V_iload_n (pc := 32) hC 1 dX6_withVeto_32 rfl rfl ?_
      have hf := Option.some.inj hf; subst hf
      exact V_ireturn (pc := 33) hR rfl dX6_withVeto_33
    · have hf := ite_f hf c1
      refine V_iload_n (pc := 14) hC 1 dX6_withVeto_14 rfl rfl ?_
      refine V_aload_n (pc := 15) hC 0 dX6_withVeto_15 rfl rfl ?_
      refine gf_X6_7 (pc := 16) hC dX6_withVeto_16 ?_
      refine V_bipush (pc := 19) hC dX6_withVeto_19 (v := (nI 39)) (by decide) ?_
      refine V_iload_n (pc := 21) hC 2 dX6_withVeto_21 rfl rfl ?_
      refine V_iadd (pc := 22) hC dX6_withVeto_22 ?_
      obtain ⟨h2, hf⟩ := if_some hf
      refine V_iald (pc := 23) hC ia_72 (inB_of h2) dX6_withVeto_23 ?_
      refine V_iadd (pc := 24) hC dX6_withVeto_24 ?_
      refine V_istore_n (pc := 25) (lv' := [(1, .int (v1 + (I (72) (Int32.toNatClampNeg ((nI 39) + v2))))), (0, .ref (E.2.1 (71))), (2, .int v2)]) hC dX6_withVeto_25 rfl (by decide) rfl ?_
      refine V_iinc (pc := 26) (lv' := [(2, .int (v2 + (nI 1))), (1, .int (v1 + (I (72) (Int32.toNatClampNeg ((nI 39) + v2))))), (0, .ref (E.2.1 (71)))]) hC (nI 1) 2 dX6_withVeto_26 rfl (by decide) (by decide) rfl ?_
      refine V_goto (pc := 29) (tgt := 4) hC dX6_withVeto_29 (by decide) ?_
      refine V_sub (pc := 4) (lv' := [(0, .ref (E.2.1 (71))), (1, .int (v1 + (I (72) (Int32.toNatClampNeg ((nI 39) + v2))))), (2, .int (v2 + (nI 1)))]) [2, 1, 0] rfl ?_
      exact ih (v1 + (I (72) (Int32.toNatClampNeg ((nI 39) + v2)))) (v2 + (nI 1)) hf
def f_X6_withVeto (k : Nat) (I : Mem) : Option (Int32) := f_X6_withVeto_4 k I k (nI 0) (nI 0)
set_option maxHeartbeats 4000000 in
set_option maxRecDepth 100000 in
theorem c_X6_withVeto {E : EN} {k : Nat} {I : Mem} {r : Int32} (hf : f_X6_withVeto k I = some r) : Ct E yX6_withVeto cX6_withVeto 3 (some .int) 0 0 [.ref (E.2.1 (71))] I (some (.int r)) I := by
  refine Ct_of (by decide) (Nat.le_of_ble_eq_true rfl) (fun X hC0 hR => ?_)
  have hC : Cx X E cX6_withVeto 3 RX6 0 0 := hC0
  change V X E 3 0 [(0, .ref (E.2.1 (71)))] [] I
  unfold f_X6_withVeto at hf
  refine V_iconst (pc := 0) hC dX6_withVeto_0 (v := (nI 0)) (by decide) ?_
  refine V_istore_n (pc := 1) (lv' := [(1, .int (nI 0)), (0, .ref (E.2.1 (71)))]) hC dX6_withVeto_1 rfl (by decide) rfl ?_
  refine V_iconst (pc := 2) hC dX6_withVeto_2 (v := (nI 0)) (by decide) ?_
  refine V_istore_n (pc := 3) (lv' := [(2, .int (nI 0)), (1, .int (nI 0)), (0, .ref (E.2.1 (71)))]) hC dX6_withVeto_3 rfl (by decide) rfl ?_
  refine V_sub (pc := 4) (lv' := [(0, .ref (E.2.1 (71))), (1, .int (nI 0)), (2, .int (nI 0))]) [2, 1, 0] rfl ?_
  exact b_X6_withVeto_4 hC hR k (nI 0) (nI 0) hf
def f_X6_setVeto_19 (k : Nat) (I : Mem) (v1 : Int32) (w0 : Int32) : Option (Int32 × Mem) := (if inB ((nI 39) + v1) 69 = true then (if (I (72) (Int32.toNatClampNeg ((nI 39) + v1))) = w0 then some ((-5 : Int32), I) else (Option.bind (f_X6_record k I) (fun r6 => (if inB ((nI 39) + v1) 69 = true then (Option.bind (f_X6_withVeto k (up2 r6 (72) (Int32.toNatClampNeg ((nI 39) + v1)) w0)) (fun r8 => some (r8, up2 r6 (72) (Int32.toNatClampNeg ((nI 39) + v1)) w0))) else none)))) else none)
set_option maxHeartbeats 4000000 in
set_option maxRecDepth 100000 in
theorem b_X6_setVeto_19 {X : XT} {E : EN} {k : Nat} {I : Mem} {v1 : Int32} {w0 : Int32} {r : Int32 × Mem} (hC : Cx X E cX6_setVeto 4 RX6 2 43) (hR : Rt X E cX6_setVeto (some .int) (some (.int r.1)) r.2) (hf : f_X6_setVeto_19 k I v1 w0 = some r) : V X E 4 19 [(0, .ref (E.2.1 (71))), (1, .int v1)] [.int w0] I := by
  unfold f_X6_setVeto_19 at hf
  refine V_istore_n (pc := 19) (lv' := [(3, .int w0), (0, .ref (E.2.1 (71))), (1, .int v1)]) hC dX6_setVeto_19 rfl (by decide) rfl ?_
  refine V_aload_n (pc := 20) hC 1 dX6_setVeto_20 rfl rfl ?_
  refine gf_X6_7 (pc := 21) hC dX6_setVeto_21 ?_
  refine V_bipush (pc := 24) hC dX6_setVeto_24 (v := (nI 39)) (by decide) ?_
  refine V_iload_n (pc := 26) hC 2 dX6_setVeto_26 rfl rfl ?_
  refine V_iadd (pc := 27) hC dX6_setVeto_27 ?_
  obtain ⟨h4, hf⟩ := if_some hf
  refine V_iald (pc := 28) hC ia_72 (inB_of h4) dX6_setVeto_28 ?_
  refine V_iload_n (pc := 29) hC 0 dX6_setVeto_29 rfl rfl ?_
  refine V_icmp_ne (pc := 30) (tgt := 36) hC dX6_setVeto_30 (by decide) (fun c5 => ?_) (fun c5 => ?_)
  · have hf := ite_f hf c5
    refine V_aload_n (pc := 36) hC 1 dX6_setVeto_36 rfl rfl ?_
    obtain ⟨r6, g6, hf⟩ := bind_some hf
    refine V_callV (pc := 37) (rest := []) (As := []) hC lk_X6_50 (by decide) cel_X6 rfl (c_X6_record  g6) rfl rfl (Nat.le_of_ble_eq_true rfl) (by decide) dX6_setVeto_37 ?_
    change V X E 4 40 [(3, .int w0), (0, .ref (E.2.1 (71))), (1, .int v1)] [] r6
    refine V_aload_n (pc := 40) hC 1 dX6_setVeto_40 rfl rfl ?_
    refine gf_X6_7 (pc := 41) hC dX6_setVeto_41 ?_
    refine V_bipush (pc := 44) hC dX6_setVeto_44 (v := (nI 39)) (by decide) ?_
    refine V_iload_n (pc := 46) hC 2 dX6_setVeto_46 rfl rfl ?_
    refine V_iadd (pc := 47) hC dX6_setVeto_47 ?_
    refine V_iload_n (pc := 48) hC 0 dX6_setVeto_48 rfl rfl ?_
    obtain ⟨h7, hf⟩ := if_some hf
    refine V_iast (pc := 49) hC ia_72 (inB_of h7) dX6_setVeto_49 ?_
    refine V_aload_n (pc := 50) hC 1 dX6_setVeto_50 rfl rfl ?_
    obtain ⟨r8, g8, hf⟩ := bind_some hf
    refine V_callV (pc := 51) (rest := []) (As := []) hC lk_X6_69 (by decide) cel_X6 rfl (c_X6_withVeto  g8) rfl rfl (Nat.le_of_ble_eq_true rfl) (by decide) dX6_setVeto_51 ?_
    change V X E 4 54 [(3, .int w0), (0, .ref (E.2.1 (71))), (1, .int v1)] [.int r8] (up2 r6 (72) (Int32.toNatClampNeg ((nI 39) + v1)) w0)
    have hf := Option.some.inj hf; subst hf
    exact V_ireturn (pc := 54) hR rfl dX6_setVeto_54
  · have hf := ite_t hf c5
    refine V_bipush (pc := 33) hC dX6_setVeto_33 (v := (-5 : Int32)) (by decide) ?_
    have hf := Option.some.inj hf; subst hf
    exact V_ireturn (pc := 35) hR rfl dX6_setVeto_35
def f_X6_setVeto (k : Nat) (v1 : Int32) (v2 : Int32) (I : Mem) : Option (Int32 × Mem) := (Option.bind (f_X6_noMember k v1 I) (fun r1 => (if r1 = 0 then (if v2 = 0 then f_X6_setVeto_19 k I v1 (nI 0) else f_X6_setVeto_19 k I v1 (nI 1)) else some ((-1 : Int32), I))))
set_option maxHeartbeats 4000000 in
set_option maxRecDepth 100000 in
theorem c_X6_setVeto {E : EN} {k : Nat} {v1 : Int32} {v2 : Int32} {I : Mem} {r : Int32 × Mem} (hf : f_X6_setVeto k v1 v2 I = some r) : Ct E yX6_setVeto cX6_setVeto 4 (some .int) 2 43 [.ref (E.2.1 (71)), .int v1, .int v2] I (some (.int r.1)) r.2 := by
  refine Ct_of (by decide) (Nat.le_of_ble_eq_true rfl) (fun X hC0 hR => ?_)
  have hC : Cx X E cX6_setVeto 4 RX6 2 43 := hC0
  change V X E 4 0 [(0, .ref (E.2.1 (71))), (1, .int v1), (2, .int v2)] [] I
  unfold f_X6_setVeto at hf
  refine V_aload_n (pc := 0) hC 0 dX6_setVeto_0 rfl rfl ?_
  refine V_iload_n (pc := 1) hC 1 dX6_setVeto_1 rfl rfl ?_
  obtain ⟨r1, g1, hf⟩ := bind_some hf
  refine V_callV (pc := 2) (rest := []) (As := [.int v1]) hC lk_X6_57 (by decide) cel_X6 rfl (c_X6_noMember  g1) rfl rfl (Nat.le_of_ble_eq_true rfl) (by decide) dX6_setVeto_2 ?_
  change V X E 4 5 [(0, .ref (E.2.1 (71))), (1, .int v1), (2, .int v2)] [.int r1] I
  refine V_if_eq (pc := 5) (tgt := 10) hC dX6_setVeto_5 (by decide) (fun c2 => ?_) (fun c2 => ?_)
  · have hf := ite_t hf c2
    refine V_iload_n (pc := 10) hC 2 dX6_setVeto_10 rfl rfl ?_
    refine V_if_eq (pc := 11) (tgt := 18) hC dX6_setVeto_11 (by decide) (fun c3 => ?_) (fun c3 => ?_)
    · have hf := ite_t hf c3
      refine V_iconst (pc := 18) hC dX6_setVeto_18 (v := (nI 0)) (by decide) ?_
      refine V_sub (pc := 19) (lv' := [(0, .ref (E.2.1 (71))), (1, .int v1)]) [0, 1] rfl ?_
      exact b_X6_setVeto_19 hC hR hf
    · have hf := ite_f hf c3
      refine V_iconst (pc := 14) hC dX6_setVeto_14 (v := (nI 1)) (by decide) ?_
      refine V_goto (pc := 15) (tgt := 19) hC dX6_setVeto_15 (by decide) ?_
      refine V_sub (pc := 19) (lv' := [(0, .ref (E.2.1 (71))), (1, .int v1)]) [0, 1] rfl ?_
      exact b_X6_setVeto_19 hC hR hf
  · have hf := ite_f hf c2
    refine V_iconst (pc := 8) hC dX6_setVeto_8 (v := (-1 : Int32)) (by decide) ?_
    have hf := Option.some.inj hf; subst hf
    exact V_ireturn (pc := 9) hR rfl dX6_setVeto_9
def f_X6_setQuota (k : Nat) (v1 : Int32) (I : Mem) : Option (Int32 × Mem) := (if (f_X6_in v1 (nI 1) (nI 500)) = 0 then some ((-2 : Int32), I) else (Option.bind (f_X6_set k (nI 1) v1 I) (fun r2 => some (r2.1, r2.2))))
set_option maxHeartbeats 4000000 in
set_option maxRecDepth 100000 in
theorem c_X6_setQuota {E : EN} {k : Nat} {v1 : Int32} {I : Mem} {r : Int32 × Mem} (hf : f_X6_setQuota k v1 I = some r) : Ct E yX6_setQuota cX6_setQuota 2 (some .int) 2 44 [.ref (E.2.1 (71)), .int v1] I (some (.int r.1)) r.2 := by
  refine Ct_of (by decide) (Nat.le_of_ble_eq_true rfl) (fun X hC0 hR => ?_)
  have hC : Cx X E cX6_setQuota 2 RX6 2 44 := hC0
  change V X E 2 0 [(0, .ref (E.2.1 (71))), (1, .int v1)] [] I
  unfold f_X6_setQuota at hf
  refine V_iload_n (pc := 0) hC 1 dX6_setQuota_0 rfl rfl ?_
  refine V_iconst (pc := 1) hC dX6_setQuota_1 (v := (nI 1)) (by decide) ?_
  refine V_sipush (pc := 2) hC dX6_setQuota_2 (v := (nI 500)) (by decide) ?_
  refine V_callS (pc := 5) (rest := []) (As := [.int v1, .int (nI 1), .int (nI 500)]) hC lk_X6_53 (c_X6_in  rfl) rfl rfl (Nat.le_of_ble_eq_true rfl) (by decide) dX6_setQuota_5 ?_
  change V X E 2 8 [(0, .ref (E.2.1 (71))), (1, .int v1)] [.int (f_X6_in v1 (nI 1) (nI 500))] I
  refine V_if_eq (pc := 8) (tgt := 20) hC dX6_setQuota_8 (by decide) (fun c1 => ?_) (fun c1 => ?_)
  · have hf := ite_t hf c1
    refine V_bipush (pc := 20) hC dX6_setQuota_20 (v := (-2 : Int32)) (by decide) ?_
    have hf := Option.some.inj hf; subst hf
    exact V_ireturn (pc := 22) hR rfl dX6_setQuota_22
  · have hf := ite_f hf c1
    refine V_aload_n (pc := 11) hC 0 dX6_setQuota_11 rfl rfl ?_
    refine V_iconst (pc := 12) hC dX6_setQuota_12 (v := (nI 1)) (by decide) ?_
    refine V_iload_n (pc := 13) hC 1 dX6_setQuota_13 rfl rfl ?_
    obtain ⟨r2, g2, hf⟩ := bind_some hf
    refine V_callV (pc := 14) (rest := []) (As := [.int (nI 1), .int v1]) hC lk_X6_65 (by decide) cel_X6 rfl (c_X6_set  g2) rfl rfl (Nat.le_of_ble_eq_true rfl) (by decide) dX6_setQuota_14 ?_
    change V X E 2 17 [(0, .ref (E.2.1 (71))), (1, .int v1)] [.int r2.1] r2.2
    refine V_goto (pc := 17) (tgt := 22) hC dX6_setQuota_17 (by decide) ?_
    have hf := Option.some.inj hf; subst hf
    exact V_ireturn (pc := 22) hR rfl dX6_setQuota_22
def f_X6_size_4 (k : Nat) (I : Mem) (v1 : Int32) : Nat → Int32 → Int32 → Option (Int32)
  | 0, _, _ => none
  | n + 1, v2, v3 => (if (I (72) (Int32.toNatClampNeg (nI 0))) ≤ v3 then some v2 else (if inB ((nI 49) + v3) 69 = true then (if (I (72) (Int32.toNatClampNeg ((nI 49) + v3))) = v1 then (f_X6_size_4 k I v1 n) (v2 + (nI 1)) (v3 + (nI 1)) else (f_X6_size_4 k I v1 n) (v2 + (nI 0)) (v3 + (nI 1))) else none))
set_option maxHeartbeats 4000000 in
set_option maxRecDepth 100000 in
theorem b_X6_size_4 {X : XT} {E : EN} {k : Nat} {I : Mem} {v1 : Int32} {r : Int32} (hC : Cx X E cX6_size 4 RX6 0 0) (hR : Rt X E cX6_size (some .int) (some (.int r)) I) : ∀ (n : Nat) (v2 : Int32) (v3 : Int32), f_X6_size_4 k I v1 n v2 v3 = some r → V X E 4 4 [(0, .ref (E.2.1 (71))), (1, .int v1), (2, .int v2), (3, .int v3)] [] I := by
  intro n
  induction n with
  | zero =>
    intro v2 v3 hf
    rw [f_X6_size_4] at hf
    cases hf
  | succ n ih =>
    intro v2 v3 hf
    rw [f_X6_size_4] at hf
    refine V_iload_n (pc := 4) hC 3 dX6_size_4 rfl rfl ?_
    refine V_aload_n (pc := 5) hC 0 dX6_size_5 rfl rfl ?_
    refine gf_X6_7 (pc := 6) hC dX6_size_6 ?_
    refine V_iconst (pc := 9) hC dX6_size_9 (v := (nI 0)) (by decide) ?_
    refine V_iald (pc := 10) hC ia_72 (inB_of (by decide)) dX6_size_10 ?_
    refine V_icmp_ge (pc := 11) (tgt := 41) hC dX6_size_11 (by decide) (fun c1 => ?_) (fun c1 => ?_)
    · have hf := ite_t hf c1
      refine V_iload_n (pc := 41) hC 2 dX6_size_41 rfl rfl ?_
      have hf := Option.some.inj hf; subst hf
      exact V_ireturn (pc := 42) hR rfl dX6_size_42
    · have hf := ite_f hf c1
      refine V_iload_n (pc := 14) hC 2 dX6_size_14 rfl rfl ?_
      refine V_aload_n (pc := 15) hC 0 dX6_size_15 rfl rfl ?_
      refine gf_X6_7 (pc := 16) hC dX6_size_16 ?_
      refine V_bipush (pc := 19) hC dX6_size_19 (v := (nI 49)) (by decide) ?_
      refine V_iload_n (pc := 21) hC 3 dX6_size_21 rfl rfl ?_
      refine V_iadd (pc := 22) hC dX6_size_22 ?_
      obtain ⟨h2, hf⟩ := if_some hf
      refine V_iald (pc := 23) hC ia_72 (inB_of h2) dX6_size_23 ?_
      refine V_iload_n (pc := 24) hC 1 dX6_size_24 rfl rfl ?_
      refine V_icmp_ne (pc := 25) (tgt := 32) hC dX6_size_25 (by decide) (fun c3 => ?_) (fun c3 => ?_)
      · have hf := ite_f hf c3
        refine V_iconst (pc := 32) hC dX6_size_32 (v := (nI 0)) (by decide) ?_
        refine V_iadd (pc := 33) hC dX6_size_33 ?_
        refine V_istore_n (pc := 34) (lv' := [(2, .int (v2 + (nI 0))), (0, .ref (E.2.1 (71))), (1, .int v1), (3, .int v3)]) hC dX6_size_34 rfl (by decide) rfl ?_
        refine V_iinc (pc := 35) (lv' := [(3, .int (v3 + (nI 1))), (2, .int (v2 + (nI 0))), (0, .ref (E.2.1 (71))), (1, .int v1)]) hC (nI 1) 3 dX6_size_35 rfl (by decide) (by decide) rfl ?_
        refine V_goto (pc := 38) (tgt := 4) hC dX6_size_38 (by decide) ?_
        refine V_sub (pc := 4) (lv' := [(0, .ref (E.2.1 (71))), (1, .int v1), (2, .int (v2 + (nI 0))), (3, .int (v3 + (nI 1)))]) [2, 3, 1, 0] rfl ?_
        exact ih (v2 + (nI 0)) (v3 + (nI 1)) hf
      · have hf := ite_t hf c3
        refine V_iconst (pc := 28) hC dX6_size_28 (v := (nI 1)) (by decide) ?_
        refine V_goto (pc := 29) (tgt := 33) hC dX6_size_29 (by decide) ?_
        refine V_iadd (pc := 33) hC dX6_size_33 ?_
        refine V_istore_n (pc := 34) (lv' := [(2, .int (v2 + (nI 1))), (0, .ref (E.2.1 (71))), (1, .int v1), (3, .int v3)]) hC dX6_size_34 rfl (by decide) rfl ?_
        refine V_iinc (pc := 35) (lv' := [(3, .int (v3 + (nI 1))), (2, .int (v2 + (nI 1))), (0, .ref (E.2.1 (71))), (1, .int v1)]) hC (nI 1) 3 dX6_size_35 rfl (by decide) (by decide) rfl ?_
        refine V_goto (pc := 38) (tgt := 4) hC dX6_size_38 (by decide) ?_
        refine V_sub (pc := 4) (lv' := [(0, .ref (E.2.1 (71))), (1, .int v1), (2, .int (v2 + (nI 1))), (3, .int (v3 + (nI 1)))]) [2, 3, 1, 0] rfl ?_
        exact ih (v2 + (nI 1)) (v3 + (nI 1)) hf
def f_X6_size (k : Nat) (v1 : Int32) (I : Mem) : Option (Int32) := f_X6_size_4 k I v1 k (nI 0) (nI 0)
set_option maxHeartbeats 4000000 in
set_option maxRecDepth 100000 in
theorem c_X6_size {E : EN} {k : Nat} {v1 : Int32} {I : Mem} {r : Int32} (hf : f_X6_size k v1 I = some r) : Ct E yX6_size cX6_size 4 (some .int) 0 0 [.ref (E.2.1 (71)), .int v1] I (some (.int r)) I := by
  refine Ct_of (by decide) (Nat.le_of_ble_eq_true rfl) (fun X hC0 hR => ?_)
  have hC : Cx X E cX6_size 4 RX6 0 0 := hC0
  change V X E 4 0 [(0, .ref (E.2.1 (71))), (1, .int v1)] [] I
  unfold f_X6_size at hf
  refine V_iconst (pc := 0) hC dX6_size_0 (v := (nI 0)) (by decide) ?_
  refine V_istore_n (pc := 1) (lv' := [(2, .int (nI 0)), (0, .ref (E.2.1 (71))), (1, .int v1)]) hC dX6_size_1 rfl (by decide) rfl ?_
  refine V_iconst (pc := 2) hC dX6_size_2 (v := (nI 0)) (by decide) ?_
  refine V_istore_n (pc := 3) (lv' := [(3, .int (nI 0)), (2, .int (nI 0)), (0, .ref (E.2.1 (71))), (1, .int v1)]) hC dX6_size_3 rfl (by decide) rfl ?_
  refine V_sub (pc := 4) (lv' := [(0, .ref (E.2.1 (71))), (1, .int v1), (2, .int (nI 0)), (3, .int (nI 0))]) [2, 3, 1, 0] rfl ?_
  exact b_X6_size_4 hC hR k (nI 0) (nI 0) hf
def f_X6_join_118 (k : Nat) (I : Mem) (v3 : Int32) (v4 : Int32) (v5 : Int32) (v6 : Int32) (sh69 : Int32 → Mem → Option (Int32 × Mem)) (w0 : Int32) : Option (Int32 × Mem) := (if inB w0 69 = true then sh69 (v6 + (nI 1)) (up2 I (72) (Int32.toNatClampNeg w0) v5) else none)
set_option maxHeartbeats 4000000 in
set_option maxRecDepth 100000 in
theorem b_X6_join_118 {X : XT} {E : EN} {k : Nat} {I : Mem} {v3 : Int32} {v4 : Int32} {v5 : Int32} {v6 : Int32} {sh69 : Int32 → Mem → Option (Int32 × Mem)} {w0 : Int32} {r : Int32 × Mem} (hC : Cx X E cX6_join 7 RX6 2 43) (hs69 : ∀ (v6 : Int32) (J : Mem), sh69 v6 J = some r → V X E 7 69 [(0, .ref (E.2.1 (71))), (3, .int v3), (4, .int v4), (5, .int v5), (6, .int v6)] [] J) (hR : Rt X E cX6_join (some .int) (some (.int r.1)) r.2) (hf : f_X6_join_118 k I v3 v4 v5 v6 sh69 w0 = some r) : V X E 7 118 [(0, .ref (E.2.1 (71))), (3, .int v3), (4, .int v4), (5, .int v5), (6, .int v6)] [.int w0, .ref (E.2.1 (72))] I := by
  unfold f_X6_join_118 at hf
  refine V_iload (pc := 118) hC 3 dX6_join_118 rfl ?_
  refine V_goto (pc := 120) (tgt := 133) hC dX6_join_120 (by decide) ?_
  obtain ⟨h19, hf⟩ := if_some hf
  refine V_iast (pc := 133) hC ia_72 (inB_of h19) dX6_join_133 ?_
  refine V_iinc (pc := 134) (lv' := [(6, .int (v6 + (nI 1))), (0, .ref (E.2.1 (71))), (3, .int v3), (4, .int v4), (5, .int v5)]) hC (nI 1) 4 dX6_join_134 rfl (by decide) (by decide) rfl ?_
  refine V_goto (pc := 137) (tgt := 69) hC dX6_join_137 (by decide) ?_
  refine V_sub (pc := 69) (lv' := [(0, .ref (E.2.1 (71))), (3, .int v3), (4, .int v4), (5, .int v5), (6, .int (v6 + (nI 1)))]) [1, 2, 3, 4, 0] rfl ?_
  exact hs69 (v6 + (nI 1)) (up2 I (72) (Int32.toNatClampNeg w0) v5) hf
def f_X6_join_69 (k : Nat) (v3 : Int32) (v4 : Int32) (v5 : Int32) : Nat → Int32 → Mem → Option (Int32 × Mem)
  | 0, _, _ => none
  | n + 1, v6, I => (if (I (72) (Int32.toNatClampNeg (nI 0))) ≤ v6 then (Option.bind (f_X6_size k v5 I) (fun r11 => some (r11, I))) else (if inB ((nI 49) + v6) 69 = true then (if (I (72) (Int32.toNatClampNeg ((nI 49) + v6))) = v3 then f_X6_join_118 k I v3 v4 v5 v6 (f_X6_join_69 k v3 v4 v5 n) ((nI 49) + v6) else (if inB ((nI 49) + v6) 69 = true then (if (I (72) (Int32.toNatClampNeg ((nI 49) + v6))) = v4 then f_X6_join_118 k I v3 v4 v5 v6 (f_X6_join_69 k v3 v4 v5 n) ((nI 49) + v6) else (if inB ((nI 49) + v6) 69 = true then (if inB ((nI 49) + v6) 69 = true then (Option.bind (some (up2 I (72) (Int32.toNatClampNeg ((nI 49) + v6)) (I (72) (Int32.toNatClampNeg ((nI 49) + v6))))) (fun J18 => (f_X6_join_69 k v3 v4 v5 n) (v6 + (nI 1)) J18)) else none) else none)) else none)) else none))
set_option maxHeartbeats 4000000 in
set_option maxRecDepth 100000 in
theorem b_X6_join_69 {X : XT} {E : EN} {k : Nat} {v3 : Int32} {v4 : Int32} {v5 : Int32} {r : Int32 × Mem} (hC : Cx X E cX6_join 7 RX6 2 43) (hR : Rt X E cX6_join (some .int) (some (.int r.1)) r.2) : ∀ (n : Nat) (v6 : Int32) (I : Mem), f_X6_join_69 k v3 v4 v5 n v6 I = some r → V X E 7 69 [(0, .ref (E.2.1 (71))), (3, .int v3), (4, .int v4), (5, .int v5), (6, .int v6)] [] I := by
  intro n
  induction n with
  | zero =>
    intro v6 I hf
    rw [f_X6_join_69] at hf
    cases hf
  | succ n ih =>
    intro v6 I hf
    rw [f_X6_join_69] at hf
    refine V_iload (pc := 69) hC 4 dX6_join_69 rfl ?_
    refine V_aload_n (pc := 71) hC 0 dX6_join_71 rfl rfl ?_
    refine gf_X6_7 (pc := 72) hC dX6_join_72 ?_
    refine V_iconst (pc := 75) hC dX6_join_75 (v := (nI 0)) (by decide) ?_
    refine V_iald (pc := 76) hC ia_72 (inB_of (by decide)) dX6_join_76 ?_
    refine V_icmp_ge (pc := 77) (tgt := 140) hC dX6_join_77 (by decide) (fun c10 => ?_) (fun c10 => ?_)
    · have hf := ite_t hf c10
      refine V_aload_n (pc := 140) hC 0 dX6_join_140 rfl rfl ?_
      refine V_iload (pc := 141) hC 3 dX6_join_141 rfl ?_
      obtain ⟨r11, g11, hf⟩ := bind_some hf
      refine V_callV (pc := 143) (rest := []) (As := [.int v5]) hC lk_X6_73 (by decide) cel_X6 rfl (c_X6_size  g11) rfl rfl (Nat.le_of_ble_eq_true rfl) (by decide) dX6_join_143 ?_
      change V X E 7 146 [(0, .ref (E.2.1 (71))), (3, .int v3), (4, .int v4), (5, .int v5), (6, .int v6)] [.int r11] I
      have hf := Option.some.inj hf; subst hf
      exact V_ireturn (pc := 146) hR rfl dX6_join_146
    · have hf := ite_f hf c10
      refine V_aload_n (pc := 80) hC 0 dX6_join_80 rfl rfl ?_
      refine gf_X6_7 (pc := 81) hC dX6_join_81 ?_
      refine V_bipush (pc := 84) hC dX6_join_84 (v := (nI 49)) (by decide) ?_
      refine V_iload (pc := 86) hC 4 dX6_join_86 rfl ?_
      refine V_iadd (pc := 88) hC dX6_join_88 ?_
      refine V_aload_n (pc := 89) hC 0 dX6_join_89 rfl rfl ?_
      refine gf_X6_7 (pc := 90) hC dX6_join_90 ?_
      refine V_bipush (pc := 93) hC dX6_join_93 (v := (nI 49)) (by decide) ?_
      refine V_iload (pc := 95) hC 4 dX6_join_95 rfl ?_
      refine V_iadd (pc := 97) hC dX6_join_97 ?_
      obtain ⟨h12, hf⟩ := if_some hf
      refine V_iald (pc := 98) hC ia_72 (inB_of h12) dX6_join_98 ?_
      refine V_iload_n (pc := 99) hC 1 dX6_join_99 rfl rfl ?_
      refine V_icmp_eq (pc := 100) (tgt := 118) hC dX6_join_100 (by decide) (fun c13 => ?_) (fun c13 => ?_)
      · have hf := ite_t hf c13
        exact b_X6_join_118 hC ih hR hf
      · have hf := ite_f hf c13
        refine V_aload_n (pc := 103) hC 0 dX6_join_103 rfl rfl ?_
        refine gf_X6_7 (pc := 104) hC dX6_join_104 ?_
        refine V_bipush (pc := 107) hC dX6_join_107 (v := (nI 49)) (by decide) ?_
        refine V_iload (pc := 109) hC 4 dX6_join_109 rfl ?_
        refine V_iadd (pc := 111) hC dX6_join_111 ?_
        obtain ⟨h14, hf⟩ := if_some hf
        refine V_iald (pc := 112) hC ia_72 (inB_of h14) dX6_join_112 ?_
        refine V_iload (pc := 113) hC 2 dX6_join_113 rfl ?_
        refine V_icmp_ne (pc := 115) (tgt := 123) hC dX6_join_115 (by decide) (fun c15 => ?_) (fun c15 => ?_)
        · have hf := ite_f hf c15
          refine V_aload_n (pc := 123) hC 0 dX6_join_123 rfl rfl ?_
          refine gf_X6_7 (pc := 124) hC dX6_join_124 ?_
          refine V_bipush (pc := 127) hC dX6_join_127 (v := (nI 49)) (by decide) ?_
          refine V_iload (pc := 129) hC 4 dX6_join_129 rfl ?_
          refine V_iadd (pc := 131) hC dX6_join_131 ?_
          obtain ⟨h16, hf⟩ := if_some hf
          refine V_iald (pc := 132) hC ia_72 (inB_of h16) dX6_join_132 ?_
          obtain ⟨h17, hf⟩ := if_some hf
          obtain ⟨J18, eJ18, hf⟩ := bind_some hf
          have eJ18 := Option.some.inj eJ18
          refine V_iast (pc := 133) hC ia_72 (inB_of h17) dX6_join_133 ?_
          rw [eJ18]
          refine V_iinc (pc := 134) (lv' := [(6, .int (v6 + (nI 1))), (0, .ref (E.2.1 (71))), (3, .int v3), (4, .int v4), (5, .int v5)]) hC (nI 1) 4 dX6_join_134 rfl (by decide) (by decide) rfl ?_
          refine V_goto (pc := 137) (tgt := 69) hC dX6_join_137 (by decide) ?_
          refine V_sub (pc := 69) (lv' := [(0, .ref (E.2.1 (71))), (3, .int v3), (4, .int v4), (5, .int v5), (6, .int (v6 + (nI 1)))]) [1, 2, 3, 4, 0] rfl ?_
          exact ih (v6 + (nI 1)) J18 hf
        · have hf := ite_t hf c15
          exact b_X6_join_118 hC ih hR hf
def f_X6_join (k : Nat) (v1 : Int32) (v2 : Int32) (I : Mem) : Option (Int32 × Mem) := (Option.bind (f_X6_noMember k v1 I) (fun r1 => (if r1 = 0 then (Option.bind (f_X6_noMember k v2 I) (fun r3 => (if r3 = 0 then (if inB ((nI 49) + v1) 69 = true then (if inB ((nI 49) + v2) 69 = true then (if (I (72) (Int32.toNatClampNeg ((nI 49) + v1))) = (I (72) (Int32.toNatClampNeg ((nI 49) + v2))) then some ((-5 : Int32), I) else (Option.bind (f_X6_record k I) (fun r8 => (if (I (72) (Int32.toNatClampNeg ((nI 49) + v2))) ≤ (I (72) (Int32.toNatClampNeg ((nI 49) + v1))) then f_X6_join_69 k (I (72) (Int32.toNatClampNeg ((nI 49) + v1))) (I (72) (Int32.toNatClampNeg ((nI 49) + v2))) (I (72) (Int32.toNatClampNeg ((nI 49) + v2))) k (nI 0) r8 else f_X6_join_69 k (I (72) (Int32.toNatClampNeg ((nI 49) + v1))) (I (72) (Int32.toNatClampNeg ((nI 49) + v2))) (I (72) (Int32.toNatClampNeg ((nI 49) + v1))) k (nI 0) r8)))) else none) else none) else some ((-1 : Int32), I)))) else some ((-1 : Int32), I))))
set_option maxHeartbeats 4000000 in
set_option maxRecDepth 100000 in
theorem c_X6_join {E : EN} {k : Nat} {v1 : Int32} {v2 : Int32} {I : Mem} {r : Int32 × Mem} (hf : f_X6_join k v1 v2 I = some r) : Ct E yX6_join cX6_join 7 (some .int) 2 43 [.ref (E.2.1 (71)), .int v1, .int v2] I (some (.int r.1)) r.2 := by
  refine Ct_of (by decide) (Nat.le_of_ble_eq_true rfl) (fun X hC0 hR => ?_)
  have hC : Cx X E cX6_join 7 RX6 2 43 := hC0
  change V X E 7 0 [(0, .ref (E.2.1 (71))), (1, .int v1), (2, .int v2)] [] I
  unfold f_X6_join at hf
  refine V_aload_n (pc := 0) hC 0 dX6_join_0 rfl rfl ?_
  refine V_iload_n (pc := 1) hC 1 dX6_join_1 rfl rfl ?_
  obtain ⟨r1, g1, hf⟩ := bind_some hf
  refine V_callV (pc := 2) (rest := []) (As := [.int v1]) hC lk_X6_57 (by decide) cel_X6 rfl (c_X6_noMember  g1) rfl rfl (Nat.le_of_ble_eq_true rfl) (by decide) dX6_join_2 ?_
  change V X E 7 5 [(0, .ref (E.2.1 (71))), (1, .int v1), (2, .int v2)] [.int r1] I
  refine V_if_ne (pc := 5) (tgt := 16) hC dX6_join_5 (by decide) (fun c2 => ?_) (fun c2 => ?_)
  · have hf := ite_f hf c2
    refine V_iconst (pc := 16) hC dX6_join_16 (v := (-1 : Int32)) (by decide) ?_
    have hf := Option.some.inj hf; subst hf
    exact V_ireturn (pc := 17) hR rfl dX6_join_17
  · have hf := ite_t hf c2
    refine V_aload_n (pc := 8) hC 0 dX6_join_8 rfl rfl ?_
    refine V_iload_n (pc := 9) hC 2 dX6_join_9 rfl rfl ?_
    obtain ⟨r3, g3, hf⟩ := bind_some hf
    refine V_callV (pc := 10) (rest := []) (As := [.int v2]) hC lk_X6_57 (by decide) cel_X6 rfl (c_X6_noMember  g3) rfl rfl (Nat.le_of_ble_eq_true rfl) (by decide) dX6_join_10 ?_
    change V X E 7 13 [(0, .ref (E.2.1 (71))), (1, .int v1), (2, .int v2)] [.int r3] I
    refine V_if_eq (pc := 13) (tgt := 18) hC dX6_join_13 (by decide) (fun c4 => ?_) (fun c4 => ?_)
    · have hf := ite_t hf c4
      refine V_aload_n (pc := 18) hC 0 dX6_join_18 rfl rfl ?_
      refine gf_X6_7 (pc := 19) hC dX6_join_19 ?_
      refine V_bipush (pc := 22) hC dX6_join_22 (v := (nI 49)) (by decide) ?_
      refine V_iload_n (pc := 24) hC 1 dX6_join_24 rfl rfl ?_
      refine V_iadd (pc := 25) hC dX6_join_25 ?_
      obtain ⟨h5, hf⟩ := if_some hf
      refine V_iald (pc := 26) hC ia_72 (inB_of h5) dX6_join_26 ?_
      refine V_istore_n (pc := 27) (lv' := [(3, .int (I (72) (Int32.toNatClampNeg ((nI 49) + v1)))), (0, .ref (E.2.1 (71))), (1, .int v1), (2, .int v2)]) hC dX6_join_27 rfl (by decide) rfl ?_
      refine V_aload_n (pc := 28) hC 1 dX6_join_28 rfl rfl ?_
      refine gf_X6_7 (pc := 29) hC dX6_join_29 ?_
      refine V_bipush (pc := 32) hC dX6_join_32 (v := (nI 49)) (by decide) ?_
      refine V_iload_n (pc := 34) hC 3 dX6_join_34 rfl rfl ?_
      refine V_iadd (pc := 35) hC dX6_join_35 ?_
      obtain ⟨h6, hf⟩ := if_some hf
      refine V_iald (pc := 36) hC ia_72 (inB_of h6) dX6_join_36 ?_
      refine V_istore (pc := 37) (lv' := [(4, .int (I (72) (Int32.toNatClampNeg ((nI 49) + v2)))), (3, .int (I (72) (Int32.toNatClampNeg ((nI 49) + v1)))), (0, .ref (E.2.1 (71))), (1, .int v1), (2, .int v2)]) hC dX6_join_37 (by decide) rfl ?_
      refine V_iload_n (pc := 39) hC 1 dX6_join_39 rfl rfl ?_
      refine V_iload (pc := 40) hC 0 dX6_join_40 rfl ?_
      refine V_icmp_ne (pc := 42) (tgt := 48) hC dX6_join_42 (by decide) (fun c7 => ?_) (fun c7 => ?_)
      · have hf := ite_f hf c7
        refine V_aload_n (pc := 48) hC 2 dX6_join_48 rfl rfl ?_
        obtain ⟨r8, g8, hf⟩ := bind_some hf
        refine V_callV (pc := 49) (rest := []) (As := []) hC lk_X6_50 (by decide) cel_X6 rfl (c_X6_record  g8) rfl rfl (Nat.le_of_ble_eq_true rfl) (by decide) dX6_join_49 ?_
        change V X E 7 52 [(4, .int (I (72) (Int32.toNatClampNeg ((nI 49) + v2)))), (3, .int (I (72) (Int32.toNatClampNeg ((nI 49) + v1)))), (0, .ref (E.2.1 (71))), (1, .int v1), (2, .int v2)] [] r8
        refine V_iload_n (pc := 52) hC 1 dX6_join_52 rfl rfl ?_
        refine V_iload (pc := 53) hC 0 dX6_join_53 rfl ?_
        refine V_icmp_ge (pc := 55) (tgt := 62) hC dX6_join_55 (by decide) (fun c9 => ?_) (fun c9 => ?_)
        · have hf := ite_t hf c9
          refine V_iload (pc := 62) hC 0 dX6_join_62 rfl ?_
          refine V_istore (pc := 64) (lv' := [(5, .int (I (72) (Int32.toNatClampNeg ((nI 49) + v2)))), (4, .int (I (72) (Int32.toNatClampNeg ((nI 49) + v2)))), (3, .int (I (72) (Int32.toNatClampNeg ((nI 49) + v1)))), (0, .ref (E.2.1 (71))), (1, .int v1), (2, .int v2)]) hC dX6_join_64 (by decide) rfl ?_
          refine V_iconst (pc := 66) hC dX6_join_66 (v := (nI 0)) (by decide) ?_
          refine V_istore (pc := 67) (lv' := [(6, .int (nI 0)), (5, .int (I (72) (Int32.toNatClampNeg ((nI 49) + v2)))), (4, .int (I (72) (Int32.toNatClampNeg ((nI 49) + v2)))), (3, .int (I (72) (Int32.toNatClampNeg ((nI 49) + v1)))), (0, .ref (E.2.1 (71))), (1, .int v1), (2, .int v2)]) hC dX6_join_67 (by decide) rfl ?_
          refine V_sub (pc := 69) (lv' := [(0, .ref (E.2.1 (71))), (3, .int (I (72) (Int32.toNatClampNeg ((nI 49) + v1)))), (4, .int (I (72) (Int32.toNatClampNeg ((nI 49) + v2)))), (5, .int (I (72) (Int32.toNatClampNeg ((nI 49) + v2)))), (6, .int (nI 0))]) [4, 3, 2, 1, 0] rfl ?_
          exact b_X6_join_69 hC hR k (nI 0) r8 hf
        · have hf := ite_f hf c9
          refine V_iload_n (pc := 58) hC 1 dX6_join_58 rfl rfl ?_
          refine V_goto (pc := 59) (tgt := 64) hC dX6_join_59 (by decide) ?_
          refine V_istore (pc := 64) (lv' := [(5, .int (I (72) (Int32.toNatClampNeg ((nI 49) + v1)))), (4, .int (I (72) (Int32.toNatClampNeg ((nI 49) + v2)))), (3, .int (I (72) (Int32.toNatClampNeg ((nI 49) + v1)))), (0, .ref (E.2.1 (71))), (1, .int v1), (2, .int v2)]) hC dX6_join_64 (by decide) rfl ?_
          refine V_iconst (pc := 66) hC dX6_join_66 (v := (nI 0)) (by decide) ?_
          refine V_istore (pc := 67) (lv' := [(6, .int (nI 0)), (5, .int (I (72) (Int32.toNatClampNeg ((nI 49) + v1)))), (4, .int (I (72) (Int32.toNatClampNeg ((nI 49) + v2)))), (3, .int (I (72) (Int32.toNatClampNeg ((nI 49) + v1)))), (0, .ref (E.2.1 (71))), (1, .int v1), (2, .int v2)]) hC dX6_join_67 (by decide) rfl ?_
          refine V_sub (pc := 69) (lv' := [(0, .ref (E.2.1 (71))), (3, .int (I (72) (Int32.toNatClampNeg ((nI 49) + v1)))), (4, .int (I (72) (Int32.toNatClampNeg ((nI 49) + v2)))), (5, .int (I (72) (Int32.toNatClampNeg ((nI 49) + v1)))), (6, .int (nI 0))]) [4, 3, 2, 1, 0] rfl ?_
          exact b_X6_join_69 hC hR k (nI 0) r8 hf
      · have hf := ite_t hf c7
        refine V_bipush (pc := 45) hC dX6_join_45 (v := (-5 : Int32)) (by decide) ?_
        have hf := Option.some.inj hf; subst hf
        exact V_ireturn (pc := 47) hR rfl dX6_join_47
    · have hf := ite_f hf c4
      refine V_iconst (pc := 16) hC dX6_join_16 (v := (-1 : Int32)) (by decide) ?_
      have hf := Option.some.inj hf; subst hf
      exact V_ireturn (pc := 17) hR rfl dX6_join_17
def f_X6_leave (k : Nat) (v1 : Int32) (I : Mem) : Option (Int32 × Mem) := (Option.bind (f_X6_noMember k v1 I) (fun r1 => (if r1 = 0 then (if inB ((nI 49) + v1) 69 = true then (Option.bind (f_X6_size k (I (72) (Int32.toNatClampNeg ((nI 49) + v1))) I) (fun r4 => (if (r4 - (nI 1)) = 0 then some ((-5 : Int32), I) else (Option.bind (f_X6_record k I) (fun r6 => (Option.bind (f_X6_part k v1 r6) (fun r7 => some (r4 - (nI 1), r7)))))))) else none) else some ((-1 : Int32), I))))
set_option maxHeartbeats 4000000 in
set_option maxRecDepth 100000 in
theorem c_X6_leave {E : EN} {k : Nat} {v1 : Int32} {I : Mem} {r : Int32 × Mem} (hf : f_X6_leave k v1 I = some r) : Ct E yX6_leave cX6_leave 3 (some .int) 2 43 [.ref (E.2.1 (71)), .int v1] I (some (.int r.1)) r.2 := by
  refine Ct_of (by decide) (Nat.le_of_ble_eq_true rfl) (fun X hC0 hR => ?_)
  have hC : Cx X E cX6_leave 3 RX6 2 43 := hC0
  change V X E 3 0 [(0, .ref (E.2.1 (71))), (1, .int v1)] [] I
  unfold f_X6_leave at hf
  refine V_aload_n (pc := 0) hC 0 dX6_leave_0 rfl rfl ?_
  refine V_iload_n (pc := 1) hC 1 dX6_leave_1 rfl rfl ?_
  obtain ⟨r1, g1, hf⟩ := bind_some hf
  refine V_callV (pc := 2) (rest := []) (As := [.int v1]) hC lk_X6_57 (by decide) cel_X6 rfl (c_X6_noMember  g1) rfl rfl (Nat.le_of_ble_eq_true rfl) (by decide) dX6_leave_2 ?_
  change V X E 3 5 [(0, .ref (E.2.1 (71))), (1, .int v1)] [.int r1] I
  refine V_if_eq (pc := 5) (tgt := 10) hC dX6_leave_5 (by decide) (fun c2 => ?_) (fun c2 => ?_)
  · have hf := ite_t hf c2
    refine V_aload_n (pc := 10) hC 0 dX6_leave_10 rfl rfl ?_
    refine V_aload_n (pc := 11) hC 0 dX6_leave_11 rfl rfl ?_
    refine gf_X6_7 (pc := 12) hC dX6_leave_12 ?_
    refine V_bipush (pc := 15) hC dX6_leave_15 (v := (nI 49)) (by decide) ?_
    refine V_iload_n (pc := 17) hC 1 dX6_leave_17 rfl rfl ?_
    refine V_iadd (pc := 18) hC dX6_leave_18 ?_
    obtain ⟨h3, hf⟩ := if_some hf
    refine V_iald (pc := 19) hC ia_72 (inB_of h3) dX6_leave_19 ?_
    obtain ⟨r4, g4, hf⟩ := bind_some hf
    refine V_callV (pc := 20) (rest := []) (As := [.int (I (72) (Int32.toNatClampNeg ((nI 49) + v1)))]) hC lk_X6_73 (by decide) cel_X6 rfl (c_X6_size  g4) rfl rfl (Nat.le_of_ble_eq_true rfl) (by decide) dX6_leave_20 ?_
    change V X E 3 23 [(0, .ref (E.2.1 (71))), (1, .int v1)] [.int r4] I
    refine V_iconst (pc := 23) hC dX6_leave_23 (v := (nI 1)) (by decide) ?_
    refine V_isub (pc := 24) hC dX6_leave_24 ?_
    refine V_istore_n (pc := 25) (lv' := [(2, .int (r4 - (nI 1))), (0, .ref (E.2.1 (71))), (1, .int v1)]) hC dX6_leave_25 rfl (by decide) rfl ?_
    refine V_iload_n (pc := 26) hC 0 dX6_leave_26 rfl rfl ?_
    refine V_if_ne (pc := 27) (tgt := 33) hC dX6_leave_27 (by decide) (fun c5 => ?_) (fun c5 => ?_)
    · have hf := ite_f hf c5
      refine V_aload_n (pc := 33) hC 1 dX6_leave_33 rfl rfl ?_
      obtain ⟨r6, g6, hf⟩ := bind_some hf
      refine V_callV (pc := 34) (rest := []) (As := []) hC lk_X6_50 (by decide) cel_X6 rfl (c_X6_record  g6) rfl rfl (Nat.le_of_ble_eq_true rfl) (by decide) dX6_leave_34 ?_
      change V X E 3 37 [(2, .int (r4 - (nI 1))), (0, .ref (E.2.1 (71))), (1, .int v1)] [] r6
      refine V_aload_n (pc := 37) hC 1 dX6_leave_37 rfl rfl ?_
      refine V_iload_n (pc := 38) hC 2 dX6_leave_38 rfl rfl ?_
      obtain ⟨r7, g7, hf⟩ := bind_some hf
      refine V_callV (pc := 39) (rest := []) (As := [.int v1]) hC lk_X6_61 (by decide) cel_X6 rfl (c_X6_part  g7) rfl rfl (Nat.le_of_ble_eq_true rfl) (by decide) dX6_leave_39 ?_
      change V X E 3 42 [(2, .int (r4 - (nI 1))), (0, .ref (E.2.1 (71))), (1, .int v1)] [] r7
      refine V_iload_n (pc := 42) hC 0 dX6_leave_42 rfl rfl ?_
      have hf := Option.some.inj hf; subst hf
      exact V_ireturn (pc := 43) hR rfl dX6_leave_43
    · have hf := ite_t hf c5
      refine V_bipush (pc := 30) hC dX6_leave_30 (v := (-5 : Int32)) (by decide) ?_
      have hf := Option.some.inj hf; subst hf
      exact V_ireturn (pc := 32) hR rfl dX6_leave_32
  · have hf := ite_f hf c2
    refine V_iconst (pc := 8) hC dX6_leave_8 (v := (-1 : Int32)) (by decide) ?_
    have hf := Option.some.inj hf; subst hf
    exact V_ireturn (pc := 9) hR rfl dX6_leave_9
def f_X6_blocOf_2 (k : Nat) (I : Mem) (v1 : Int32) : Nat → Int32 → Option (Int32)
  | 0, _ => none
  | n + 1, v2 => (if inB v2 10 = true then (if inB ((nI 49) + v1) 69 = true then (if (I (76) (Int32.toNatClampNeg v2)) = (I (72) (Int32.toNatClampNeg ((nI 49) + v1))) then some v2 else (f_X6_blocOf_2 k I v1 n) (v2 + (nI 1))) else none) else none)
set_option maxHeartbeats 4000000 in
set_option maxRecDepth 100000 in
theorem b_X6_blocOf_2 {X : XT} {E : EN} {k : Nat} {I : Mem} {v1 : Int32} {r : Int32} (hC : Cx X E cX6_blocOf 3 RX6 0 0) (hR : Rt X E cX6_blocOf (some .int) (some (.int r)) I) : ∀ (n : Nat) (v2 : Int32), f_X6_blocOf_2 k I v1 n v2 = some r → V X E 3 2 [(0, .ref (E.2.1 (71))), (1, .int v1), (2, .int v2)] [] I := by
  intro n
  induction n with
  | zero =>
    intro v2 hf
    rw [f_X6_blocOf_2] at hf
    cases hf
  | succ n ih =>
    intro v2 hf
    rw [f_X6_blocOf_2] at hf
    refine V_aload_n (pc := 2) hC 0 dX6_blocOf_2 rfl rfl ?_
    refine gf_X6_23 (pc := 3) hC dX6_blocOf_3 ?_
    refine V_iload_n (pc := 6) hC 2 dX6_blocOf_6 rfl rfl ?_
    obtain ⟨h1, hf⟩ := if_some hf
    refine V_iald (pc := 7) hC ia_76 (inB_of h1) dX6_blocOf_7 ?_
    refine V_aload_n (pc := 8) hC 0 dX6_blocOf_8 rfl rfl ?_
    refine gf_X6_7 (pc := 9) hC dX6_blocOf_9 ?_
    refine V_bipush (pc := 12) hC dX6_blocOf_12 (v := (nI 49)) (by decide) ?_
    refine V_iload_n (pc := 14) hC 1 dX6_blocOf_14 rfl rfl ?_
    refine V_iadd (pc := 15) hC dX6_blocOf_15 ?_
    obtain ⟨h2, hf⟩ := if_some hf
    refine V_iald (pc := 16) hC ia_72 (inB_of h2) dX6_blocOf_16 ?_
    refine V_icmp_eq (pc := 17) (tgt := 26) hC dX6_blocOf_17 (by decide) (fun c3 => ?_) (fun c3 => ?_)
    · have hf := ite_t hf c3
      refine V_iload_n (pc := 26) hC 2 dX6_blocOf_26 rfl rfl ?_
      have hf := Option.some.inj hf; subst hf
      exact V_ireturn (pc := 27) hR rfl dX6_blocOf_27
    · have hf := ite_f hf c3
      refine V_iinc (pc := 20) (lv' := [(2, .int (v2 + (nI 1))), (0, .ref (E.2.1 (71))), (1, .int v1)]) hC (nI 1) 2 dX6_blocOf_20 rfl (by decide) (by decide) rfl ?_
      refine V_goto (pc := 23) (tgt := 2) hC dX6_blocOf_23 (by decide) ?_
      refine V_sub (pc := 2) (lv' := [(0, .ref (E.2.1 (71))), (1, .int v1), (2, .int (v2 + (nI 1)))]) [1, 2, 0] rfl ?_
      exact ih (v2 + (nI 1)) hf
def f_X6_blocOf (k : Nat) (v1 : Int32) (I : Mem) : Option (Int32) := f_X6_blocOf_2 k I v1 k (nI 0)
set_option maxHeartbeats 4000000 in
set_option maxRecDepth 100000 in
theorem c_X6_blocOf {E : EN} {k : Nat} {v1 : Int32} {I : Mem} {r : Int32} (hf : f_X6_blocOf k v1 I = some r) : Ct E yX6_blocOf cX6_blocOf 3 (some .int) 0 0 [.ref (E.2.1 (71)), .int v1] I (some (.int r)) I := by
  refine Ct_of (by decide) (Nat.le_of_ble_eq_true rfl) (fun X hC0 hR => ?_)
  have hC : Cx X E cX6_blocOf 3 RX6 0 0 := hC0
  change V X E 3 0 [(0, .ref (E.2.1 (71))), (1, .int v1)] [] I
  unfold f_X6_blocOf at hf
  refine V_iconst (pc := 0) hC dX6_blocOf_0 (v := (nI 0)) (by decide) ?_
  refine V_istore_n (pc := 1) (lv' := [(2, .int (nI 0)), (0, .ref (E.2.1 (71))), (1, .int v1)]) hC dX6_blocOf_1 rfl (by decide) rfl ?_
  refine V_sub (pc := 2) (lv' := [(0, .ref (E.2.1 (71))), (1, .int v1), (2, .int (nI 0))]) [1, 2, 0] rfl ?_
  exact b_X6_blocOf_2 hC hR k (nI 0) hf
def f_X6_layBlocs_75 (k : Nat) (I : Mem) (v1 : Int32) (sh12 : Int32 → Mem → Option (Mem)) : Option (Mem) := (Option.bind (f_X6_blocOf k v1 I) (fun r9 => (if inB r9 10 = true then (if inB ((nI 29) + v1) 69 = true then (if inB r9 10 = true then (Option.bind (some (up2 I (77) (Int32.toNatClampNeg r9) ((I (77) (Int32.toNatClampNeg r9)) + (I (72) (Int32.toNatClampNeg ((nI 29) + v1)))))) (fun J13 => (if inB r9 10 = true then (if inB r9 10 = true then (Option.bind (some (up2 J13 (78) (Int32.toNatClampNeg r9) ((J13 (78) (Int32.toNatClampNeg r9)) ||| ((nI 1) <<< (v1 &&& 31))))) (fun J16 => (if inB ((nI 39) + v1) 69 = true then (if (J16 (72) (Int32.toNatClampNeg ((nI 39) + v1))) = (nI 1) then sh12 (v1 + (nI 1)) (up2 J16 (71) 12 ((J16 (71) 12) ||| ((nI 1) <<< (r9 &&& 31)))) else sh12 (v1 + (nI 1)) (up2 J16 (71) 12 ((J16 (71) 12) ||| (nI 0)))) else none))) else none) else none))) else none) else none) else none)))
set_option maxHeartbeats 4000000 in
set_option maxRecDepth 100000 in
theorem b_X6_layBlocs_75 {X : XT} {E : EN} {k : Nat} {I : Mem} {v1 : Int32} {sh12 : Int32 → Mem → Option (Mem)} {r : Mem} (hC : Cx X E cX6_layBlocs 3 RX6 1 22) (hs12 : ∀ (v1 : Int32) (J : Mem), sh12 v1 J = some r → V X E 3 12 [(0, .ref (E.2.1 (71))), (1, .int v1)] [] J) (hR : Rt X E cX6_layBlocs none none r) (hf : f_X6_layBlocs_75 k I v1 sh12 = some r) : V X E 3 75 [(0, .ref (E.2.1 (71))), (1, .int v1)] [] I := by
  unfold f_X6_layBlocs_75 at hf
  refine V_aload_n (pc := 75) hC 0 dX6_layBlocs_75 rfl rfl ?_
  refine V_iload_n (pc := 76) hC 1 dX6_layBlocs_76 rfl rfl ?_
  obtain ⟨r9, g9, hf⟩ := bind_some hf
  refine V_callV (pc := 77) (rest := []) (As := [.int v1]) hC lk_X6_83 (by decide) cel_X6 rfl (c_X6_blocOf  g9) rfl rfl (Nat.le_of_ble_eq_true rfl) (by decide) dX6_layBlocs_77 ?_
  change V X E 3 80 [(0, .ref (E.2.1 (71))), (1, .int v1)] [.int r9] I
  refine V_istore_n (pc := 80) (lv' := [(2, .int r9), (0, .ref (E.2.1 (71))), (1, .int v1)]) hC dX6_layBlocs_80 rfl (by decide) rfl ?_
  refine V_aload_n (pc := 81) hC 1 dX6_layBlocs_81 rfl rfl ?_
  refine gf_X6_26 (pc := 82) hC dX6_layBlocs_82 ?_
  refine V_iload_n (pc := 85) hC 0 dX6_layBlocs_85 rfl rfl ?_
  refine V_dup2 (pc := 86) hC dX6_layBlocs_86 rfl rfl ?_
  obtain ⟨h10, hf⟩ := if_some hf
  refine V_iald (pc := 87) hC ia_77 (inB_of h10) dX6_layBlocs_87 ?_
  refine V_aload_n (pc := 88) hC 1 dX6_layBlocs_88 rfl rfl ?_
  refine gf_X6_7 (pc := 89) hC dX6_layBlocs_89 ?_
  refine V_bipush (pc := 92) hC dX6_layBlocs_92 (v := (nI 29)) (by decide) ?_
  refine V_iload_n (pc := 94) hC 2 dX6_layBlocs_94 rfl rfl ?_
  refine V_iadd (pc := 95) hC dX6_layBlocs_95 ?_
  obtain ⟨h11, hf⟩ := if_some hf
  refine V_iald (pc := 96) hC ia_72 (inB_of h11) dX6_layBlocs_96 ?_
  refine V_iadd (pc := 97) hC dX6_layBlocs_97 ?_
  obtain ⟨h12, hf⟩ := if_some hf
  obtain ⟨J13, eJ13, hf⟩ := bind_some hf
  have eJ13 := Option.some.inj eJ13
  refine V_iast (pc := 98) hC ia_77 (inB_of h12) dX6_layBlocs_98 ?_
  rw [eJ13]
  refine V_aload_n (pc := 99) hC 1 dX6_layBlocs_99 rfl rfl ?_
  refine gf_X6_29 (pc := 100) hC dX6_layBlocs_100 ?_
  refine V_iload_n (pc := 103) hC 0 dX6_layBlocs_103 rfl rfl ?_
  refine V_dup2 (pc := 104) hC dX6_layBlocs_104 rfl rfl ?_
  obtain ⟨h14, hf⟩ := if_some hf
  refine V_iald (pc := 105) hC ia_78 (inB_of h14) dX6_layBlocs_105 ?_
  refine V_iconst (pc := 106) hC dX6_layBlocs_106 (v := (nI 1)) (by decide) ?_
  refine V_iload_n (pc := 107) hC 2 dX6_layBlocs_107 rfl rfl ?_
  refine V_ishl (pc := 108) hC dX6_layBlocs_108 ?_
  refine V_ior (pc := 109) hC dX6_layBlocs_109 ?_
  obtain ⟨h15, hf⟩ := if_some hf
  obtain ⟨J16, eJ16, hf⟩ := bind_some hf
  have eJ16 := Option.some.inj eJ16
  refine V_iast (pc := 110) hC ia_78 (inB_of h15) dX6_layBlocs_110 ?_
  rw [eJ16]
  refine V_aload_n (pc := 111) hC 1 dX6_layBlocs_111 rfl rfl ?_
  refine V_dup (pc := 112) hC dX6_layBlocs_112 rfl ?_
  refine gf_X6_80 (pc := 113) hC dX6_layBlocs_113 ?_
  refine V_aload_n (pc := 116) hC 1 dX6_layBlocs_116 rfl rfl ?_
  refine gf_X6_7 (pc := 117) hC dX6_layBlocs_117 ?_
  refine V_bipush (pc := 120) hC dX6_layBlocs_120 (v := (nI 39)) (by decide) ?_
  refine V_iload_n (pc := 122) hC 2 dX6_layBlocs_122 rfl rfl ?_
  refine V_iadd (pc := 123) hC dX6_layBlocs_123 ?_
  obtain ⟨h17, hf⟩ := if_some hf
  refine V_iald (pc := 124) hC ia_72 (inB_of h17) dX6_layBlocs_124 ?_
  refine V_iconst (pc := 125) hC dX6_layBlocs_125 (v := (nI 1)) (by decide) ?_
  refine V_icmp_ne (pc := 126) (tgt := 135) hC dX6_layBlocs_126 (by decide) (fun c18 => ?_) (fun c18 => ?_)
  · have hf := ite_f hf c18
    refine V_iconst (pc := 135) hC dX6_layBlocs_135 (v := (nI 0)) (by decide) ?_
    refine V_ior (pc := 136) hC dX6_layBlocs_136 ?_
    refine pf_X6_80 (pc := 137) hC dX6_layBlocs_137 ?_
    refine V_iinc (pc := 140) (lv' := [(1, .int (v1 + (nI 1))), (2, .int r9), (0, .ref (E.2.1 (71)))]) hC (nI 1) 2 dX6_layBlocs_140 rfl (by decide) (by decide) rfl ?_
    refine V_goto (pc := 143) (tgt := 12) hC dX6_layBlocs_143 (by decide) ?_
    refine V_sub (pc := 12) (lv' := [(0, .ref (E.2.1 (71))), (1, .int (v1 + (nI 1)))]) [2, 0] rfl ?_
    exact hs12 (v1 + (nI 1)) (up2 J16 (71) 12 ((J16 (71) 12) ||| (nI 0))) hf
  · have hf := ite_t hf c18
    refine V_iconst (pc := 129) hC dX6_layBlocs_129 (v := (nI 1)) (by decide) ?_
    refine V_iload_n (pc := 130) hC 0 dX6_layBlocs_130 rfl rfl ?_
    refine V_ishl (pc := 131) hC dX6_layBlocs_131 ?_
    refine V_goto (pc := 132) (tgt := 136) hC dX6_layBlocs_132 (by decide) ?_
    refine V_ior (pc := 136) hC dX6_layBlocs_136 ?_
    refine pf_X6_80 (pc := 137) hC dX6_layBlocs_137 ?_
    refine V_iinc (pc := 140) (lv' := [(1, .int (v1 + (nI 1))), (2, .int r9), (0, .ref (E.2.1 (71)))]) hC (nI 1) 2 dX6_layBlocs_140 rfl (by decide) (by decide) rfl ?_
    refine V_goto (pc := 143) (tgt := 12) hC dX6_layBlocs_143 (by decide) ?_
    refine V_sub (pc := 12) (lv' := [(0, .ref (E.2.1 (71))), (1, .int (v1 + (nI 1)))]) [2, 0] rfl ?_
    exact hs12 (v1 + (nI 1)) (up2 J16 (71) 12 ((J16 (71) 12) ||| ((nI 1) <<< (r9 &&& 31)))) hf
def f_X6_layBlocs_12 (k : Nat) : Nat → Int32 → Mem → Option (Mem)
  | 0, _, _ => none
  | n + 1, v1, I => (if (I (72) (Int32.toNatClampNeg (nI 0))) ≤ v1 then some I else (if inB ((nI 49) + v1) 69 = true then (if (I (72) (Int32.toNatClampNeg ((nI 49) + v1))) = v1 then (if inB (I (71) 8) 10 = true then (if inB ((up2 I (76) (Int32.toNatClampNeg (I (71) 8)) v1) (71) 8) 10 = true then (Option.bind (some (up2 (up2 I (76) (Int32.toNatClampNeg (I (71) 8)) v1) (77) (Int32.toNatClampNeg ((up2 I (76) (Int32.toNatClampNeg (I (71) 8)) v1) (71) 8)) (nI 0))) (fun J6 => (if inB (J6 (71) 8) 10 = true then (Option.bind (some (up2 (up2 J6 (78) (Int32.toNatClampNeg (J6 (71) 8)) (nI 0)) (71) 8 (((up2 J6 (78) (Int32.toNatClampNeg (J6 (71) 8)) (nI 0)) (71) 8) + (nI 1)))) (fun J8 => f_X6_layBlocs_75 k J8 v1 (f_X6_layBlocs_12 k n))) else none))) else none) else none) else f_X6_layBlocs_75 k I v1 (f_X6_layBlocs_12 k n)) else none))
set_option maxHeartbeats 4000000 in
set_option maxRecDepth 100000 in
theorem b_X6_layBlocs_12 {X : XT} {E : EN} {k : Nat} {r : Mem} (hC : Cx X E cX6_layBlocs 3 RX6 1 22) (hR : Rt X E cX6_layBlocs none none r) : ∀ (n : Nat) (v1 : Int32) (I : Mem), f_X6_layBlocs_12 k n v1 I = some r → V X E 3 12 [(0, .ref (E.2.1 (71))), (1, .int v1)] [] I := by
  intro n
  induction n with
  | zero =>
    intro v1 I hf
    rw [f_X6_layBlocs_12] at hf
    cases hf
  | succ n ih =>
    intro v1 I hf
    rw [f_X6_layBlocs_12] at hf
    refine V_iload_n (pc := 12) hC 1 dX6_layBlocs_12 rfl rfl ?_
    refine V_aload_n (pc := 13) hC 0 dX6_layBlocs_13 rfl rfl ?_
    refine gf_X6_7 (pc := 14) hC dX6_layBlocs_14 ?_
    refine V_iconst (pc := 17) hC dX6_layBlocs_17 (v := (nI 0)) (by decide) ?_
    refine V_iald (pc := 18) hC ia_72 (inB_of (by decide)) dX6_layBlocs_18 ?_
    refine V_icmp_ge (pc := 19) (tgt := 146) hC dX6_layBlocs_19 (by decide) (fun c1 => ?_) (fun c1 => ?_)
    · have hf := ite_t hf c1
      have hf := Option.some.inj hf; subst hf
      exact V_return (pc := 146) hR trivial dX6_layBlocs_146
    · have hf := ite_f hf c1
      refine V_aload_n (pc := 22) hC 0 dX6_layBlocs_22 rfl rfl ?_
      refine gf_X6_7 (pc := 23) hC dX6_layBlocs_23 ?_
      refine V_bipush (pc := 26) hC dX6_layBlocs_26 (v := (nI 49)) (by decide) ?_
      refine V_iload_n (pc := 28) hC 1 dX6_layBlocs_28 rfl rfl ?_
      refine V_iadd (pc := 29) hC dX6_layBlocs_29 ?_
      obtain ⟨h2, hf⟩ := if_some hf
      refine V_iald (pc := 30) hC ia_72 (inB_of h2) dX6_layBlocs_30 ?_
      refine V_iload_n (pc := 31) hC 1 dX6_layBlocs_31 rfl rfl ?_
      refine V_icmp_ne (pc := 32) (tgt := 75) hC dX6_layBlocs_32 (by decide) (fun c3 => ?_) (fun c3 => ?_)
      · have hf := ite_f hf c3
        exact b_X6_layBlocs_75 hC ih hR hf
      · have hf := ite_t hf c3
        refine V_aload_n (pc := 35) hC 0 dX6_layBlocs_35 rfl rfl ?_
        refine gf_X6_23 (pc := 36) hC dX6_layBlocs_36 ?_
        refine V_aload_n (pc := 39) hC 0 dX6_layBlocs_39 rfl rfl ?_
        refine gf_X6_77 (pc := 40) hC dX6_layBlocs_40 ?_
        refine V_iload_n (pc := 43) hC 1 dX6_layBlocs_43 rfl rfl ?_
        obtain ⟨h4, hf⟩ := if_some hf
        refine V_iast (pc := 44) hC ia_76 (inB_of h4) dX6_layBlocs_44 ?_
        refine V_aload_n (pc := 45) hC 0 dX6_layBlocs_45 rfl rfl ?_
        refine gf_X6_26 (pc := 46) hC dX6_layBlocs_46 ?_
        refine V_aload_n (pc := 49) hC 0 dX6_layBlocs_49 rfl rfl ?_
        refine gf_X6_77 (pc := 50) hC dX6_layBlocs_50 ?_
        refine V_iconst (pc := 53) hC dX6_layBlocs_53 (v := (nI 0)) (by decide) ?_
        obtain ⟨h5, hf⟩ := if_some hf
        obtain ⟨J6, eJ6, hf⟩ := bind_some hf
        have eJ6 := Option.some.inj eJ6
        refine V_iast (pc := 54) hC ia_77 (inB_of h5) dX6_layBlocs_54 ?_
        rw [eJ6]
        refine V_aload_n (pc := 55) hC 0 dX6_layBlocs_55 rfl rfl ?_
        refine gf_X6_29 (pc := 56) hC dX6_layBlocs_56 ?_
        refine V_aload_n (pc := 59) hC 0 dX6_layBlocs_59 rfl rfl ?_
        refine gf_X6_77 (pc := 60) hC dX6_layBlocs_60 ?_
        refine V_iconst (pc := 63) hC dX6_layBlocs_63 (v := (nI 0)) (by decide) ?_
        obtain ⟨h7, hf⟩ := if_some hf
        refine V_iast (pc := 64) hC ia_78 (inB_of h7) dX6_layBlocs_64 ?_
        refine V_aload_n (pc := 65) hC 0 dX6_layBlocs_65 rfl rfl ?_
        refine V_dup (pc := 66) hC dX6_layBlocs_66 rfl ?_
        refine gf_X6_77 (pc := 67) hC dX6_layBlocs_67 ?_
        refine V_iconst (pc := 70) hC dX6_layBlocs_70 (v := (nI 1)) (by decide) ?_
        refine V_iadd (pc := 71) hC dX6_layBlocs_71 ?_
        obtain ⟨J8, eJ8, hf⟩ := bind_some hf
        have eJ8 := Option.some.inj eJ8
        refine pf_X6_77 (pc := 72) hC dX6_layBlocs_72 ?_
        rw [eJ8]
        exact b_X6_layBlocs_75 hC ih hR hf
def f_X6_layBlocs (k : Nat) (I : Mem) : Option (Mem) := f_X6_layBlocs_12 k k (nI 0) (up2 (up2 I (71) 8 (nI 0)) (71) 12 (nI 0))
set_option maxHeartbeats 4000000 in
set_option maxRecDepth 100000 in
theorem c_X6_layBlocs {E : EN} {k : Nat} {I : Mem} {r : Mem} (hf : f_X6_layBlocs k I = some r) : Ct E yX6_layBlocs cX6_layBlocs 3 none 1 22 [.ref (E.2.1 (71))] I none r := by
  refine Ct_of (by decide) (Nat.le_of_ble_eq_true rfl) (fun X hC0 hR => ?_)
  have hC : Cx X E cX6_layBlocs 3 RX6 1 22 := hC0
  change V X E 3 0 [(0, .ref (E.2.1 (71)))] [] I
  unfold f_X6_layBlocs at hf
  refine V_aload_n (pc := 0) hC 0 dX6_layBlocs_0 rfl rfl ?_
  refine V_iconst (pc := 1) hC dX6_layBlocs_1 (v := (nI 0)) (by decide) ?_
  refine pf_X6_77 (pc := 2) hC dX6_layBlocs_2 ?_
  refine V_aload_n (pc := 5) hC 0 dX6_layBlocs_5 rfl rfl ?_
  refine V_iconst (pc := 6) hC dX6_layBlocs_6 (v := (nI 0)) (by decide) ?_
  refine pf_X6_80 (pc := 7) hC dX6_layBlocs_7 ?_
  refine V_iconst (pc := 10) hC dX6_layBlocs_10 (v := (nI 0)) (by decide) ?_
  refine V_istore_n (pc := 11) (lv' := [(1, .int (nI 0)), (0, .ref (E.2.1 (71)))]) hC dX6_layBlocs_11 rfl (by decide) rfl ?_
  refine V_sub (pc := 12) (lv' := [(0, .ref (E.2.1 (71))), (1, .int (nI 0))]) [1, 0] rfl ?_
  exact b_X6_layBlocs_12 hC hR k (nI 0) (up2 (up2 I (71) 8 (nI 0)) (71) 12 (nI 0)) hf
def f_X6_weightOf_4 (k : Nat) (I : Mem) (v1 : Int32) : Nat → Int32 → Int32 → Option (Int32)
  | 0, _, _ => none
  | n + 1, v2, v3 => (if (I (71) 8) ≤ v3 then some v2 else (if (f_X6_isIn v1 v3) = 0 then (f_X6_weightOf_4 k I v1 n) (v2 + (nI 0)) (v3 + (nI 1)) else (if inB v3 10 = true then (f_X6_weightOf_4 k I v1 n) (v2 + (I (77) (Int32.toNatClampNeg v3))) (v3 + (nI 1)) else none)))
set_option maxHeartbeats 4000000 in
set_option maxRecDepth 100000 in
theorem b_X6_weightOf_4 {X : XT} {E : EN} {k : Nat} {I : Mem} {v1 : Int32} {r : Int32} (hC : Cx X E cX6_weightOf 4 RX6 1 21) (hR : Rt X E cX6_weightOf (some .int) (some (.int r)) I) : ∀ (n : Nat) (v2 : Int32) (v3 : Int32), f_X6_weightOf_4 k I v1 n v2 v3 = some r → V X E 4 4 [(0, .ref (E.2.1 (71))), (1, .int v1), (2, .int v2), (3, .int v3)] [] I := by
  intro n
  induction n with
  | zero =>
    intro v2 v3 hf
    rw [f_X6_weightOf_4] at hf
    cases hf
  | succ n ih =>
    intro v2 v3 hf
    rw [f_X6_weightOf_4] at hf
    refine V_iload_n (pc := 4) hC 3 dX6_weightOf_4 rfl rfl ?_
    refine V_aload_n (pc := 5) hC 0 dX6_weightOf_5 rfl rfl ?_
    refine gf_X6_77 (pc := 6) hC dX6_weightOf_6 ?_
    refine V_icmp_ge (pc := 9) (tgt := 39) hC dX6_weightOf_9 (by decide) (fun c1 => ?_) (fun c1 => ?_)
    · have hf := ite_t hf c1
      refine V_iload_n (pc := 39) hC 2 dX6_weightOf_39 rfl rfl ?_
      have hf := Option.some.inj hf; subst hf
      exact V_ireturn (pc := 40) hR rfl dX6_weightOf_40
    · have hf := ite_f hf c1
      refine V_iload_n (pc := 12) hC 2 dX6_weightOf_12 rfl rfl ?_
      refine V_iload_n (pc := 13) hC 1 dX6_weightOf_13 rfl rfl ?_
      refine V_iload_n (pc := 14) hC 3 dX6_weightOf_14 rfl rfl ?_
      refine V_callS (pc := 15) (rest := [.int v2]) (As := [.int v1, .int v3]) hC lk_X6_86 (c_X6_isIn  rfl) rfl rfl (Nat.le_of_ble_eq_true rfl) (by decide) dX6_weightOf_15 ?_
      change V X E 4 18 [(0, .ref (E.2.1 (71))), (1, .int v1), (2, .int v2), (3, .int v3)] [.int (f_X6_isIn v1 v3), .int v2] I
      refine V_if_eq (pc := 18) (tgt := 30) hC dX6_weightOf_18 (by decide) (fun c2 => ?_) (fun c2 => ?_)
      · have hf := ite_t hf c2
        refine V_iconst (pc := 30) hC dX6_weightOf_30 (v := (nI 0)) (by decide) ?_
        refine V_iadd (pc := 31) hC dX6_weightOf_31 ?_
        refine V_istore_n (pc := 32) (lv' := [(2, .int (v2 + (nI 0))), (0, .ref (E.2.1 (71))), (1, .int v1), (3, .int v3)]) hC dX6_weightOf_32 rfl (by decide) rfl ?_
        refine V_iinc (pc := 33) (lv' := [(3, .int (v3 + (nI 1))), (2, .int (v2 + (nI 0))), (0, .ref (E.2.1 (71))), (1, .int v1)]) hC (nI 1) 3 dX6_weightOf_33 rfl (by decide) (by decide) rfl ?_
        refine V_goto (pc := 36) (tgt := 4) hC dX6_weightOf_36 (by decide) ?_
        refine V_sub (pc := 4) (lv' := [(0, .ref (E.2.1 (71))), (1, .int v1), (2, .int (v2 + (nI 0))), (3, .int (v3 + (nI 1)))]) [2, 3, 1, 0] rfl ?_
        exact ih (v2 + (nI 0)) (v3 + (nI 1)) hf
      · have hf := ite_f hf c2
        refine V_aload_n (pc := 21) hC 0 dX6_weightOf_21 rfl rfl ?_
        refine gf_X6_26 (pc := 22) hC dX6_weightOf_22 ?_
        refine V_iload_n (pc := 25) hC 3 dX6_weightOf_25 rfl rfl ?_
        obtain ⟨h3, hf⟩ := if_some hf
        refine V_iald (pc := 26) hC ia_77 (inB_of h3) dX6_weightOf_26 ?_
        refine V_goto (pc := 27) (tgt := 31) hC dX6_weightOf_27 (by decide) ?_
        refine V_iadd (pc := 31) hC dX6_weightOf_31 ?_
        refine V_istore_n (pc := 32) (lv' := [(2, .int (v2 + (I (77) (Int32.toNatClampNeg v3)))), (0, .ref (E.2.1 (71))), (1, .int v1), (3, .int v3)]) hC dX6_weightOf_32 rfl (by decide) rfl ?_
        refine V_iinc (pc := 33) (lv' := [(3, .int (v3 + (nI 1))), (2, .int (v2 + (I (77) (Int32.toNatClampNeg v3)))), (0, .ref (E.2.1 (71))), (1, .int v1)]) hC (nI 1) 3 dX6_weightOf_33 rfl (by decide) (by decide) rfl ?_
        refine V_goto (pc := 36) (tgt := 4) hC dX6_weightOf_36 (by decide) ?_
        refine V_sub (pc := 4) (lv' := [(0, .ref (E.2.1 (71))), (1, .int v1), (2, .int (v2 + (I (77) (Int32.toNatClampNeg v3)))), (3, .int (v3 + (nI 1)))]) [2, 3, 1, 0] rfl ?_
        exact ih (v2 + (I (77) (Int32.toNatClampNeg v3))) (v3 + (nI 1)) hf
def f_X6_weightOf (k : Nat) (v1 : Int32) (I : Mem) : Option (Int32) := f_X6_weightOf_4 k I v1 k (nI 0) (nI 0)
set_option maxHeartbeats 4000000 in
set_option maxRecDepth 100000 in
theorem c_X6_weightOf {E : EN} {k : Nat} {v1 : Int32} {I : Mem} {r : Int32} (hf : f_X6_weightOf k v1 I = some r) : Ct E yX6_weightOf cX6_weightOf 4 (some .int) 1 21 [.ref (E.2.1 (71)), .int v1] I (some (.int r)) I := by
  refine Ct_of (by decide) (Nat.le_of_ble_eq_true rfl) (fun X hC0 hR => ?_)
  have hC : Cx X E cX6_weightOf 4 RX6 1 21 := hC0
  change V X E 4 0 [(0, .ref (E.2.1 (71))), (1, .int v1)] [] I
  unfold f_X6_weightOf at hf
  refine V_iconst (pc := 0) hC dX6_weightOf_0 (v := (nI 0)) (by decide) ?_
  refine V_istore_n (pc := 1) (lv' := [(2, .int (nI 0)), (0, .ref (E.2.1 (71))), (1, .int v1)]) hC dX6_weightOf_1 rfl (by decide) rfl ?_
  refine V_iconst (pc := 2) hC dX6_weightOf_2 (v := (nI 0)) (by decide) ?_
  refine V_istore_n (pc := 3) (lv' := [(3, .int (nI 0)), (2, .int (nI 0)), (0, .ref (E.2.1 (71))), (1, .int v1)]) hC dX6_weightOf_3 rfl (by decide) rfl ?_
  refine V_sub (pc := 4) (lv' := [(0, .ref (E.2.1 (71))), (1, .int v1), (2, .int (nI 0)), (3, .int (nI 0))]) [2, 3, 1, 0] rfl ?_
  exact b_X6_weightOf_4 hC hR k (nI 0) (nI 0) hf
def f_X6_winsWith (k : Nat) (v1 : Int32) (v2 : Int32) (I : Mem) : Option (Int32) := (Option.bind (f_X6_weightOf k v1 I) (fun r1 => (if r1 < v2 then some (nI 0) else (if (v1 &&& (I (71) 12)) = (I (71) 12) then some (nI 1) else some (nI 0)))))
set_option maxHeartbeats 4000000 in
set_option maxRecDepth 100000 in
theorem c_X6_winsWith {E : EN} {k : Nat} {v1 : Int32} {v2 : Int32} {I : Mem} {r : Int32} (hf : f_X6_winsWith k v1 v2 I = some r) : Ct E yX6_winsWith cX6_winsWith 3 (some .boolean) 2 44 [.ref (E.2.1 (71)), .int v1, .int v2] I (some (.int r)) I := by
  refine Ct_of (by decide) (Nat.le_of_ble_eq_true rfl) (fun X hC0 hR => ?_)
  have hC : Cx X E cX6_winsWith 3 RX6 2 44 := hC0
  change V X E 3 0 [(0, .ref (E.2.1 (71))), (1, .int v1), (2, .int v2)] [] I
  unfold f_X6_winsWith at hf
  refine V_aload_n (pc := 0) hC 0 dX6_winsWith_0 rfl rfl ?_
  refine V_iload_n (pc := 1) hC 1 dX6_winsWith_1 rfl rfl ?_
  obtain ⟨r1, g1, hf⟩ := bind_some hf
  refine V_callV (pc := 2) (rest := []) (As := [.int v1]) hC lk_X6_90 (by decide) cel_X6 rfl (c_X6_weightOf  g1) rfl rfl (Nat.le_of_ble_eq_true rfl) (by decide) dX6_winsWith_2 ?_
  change V X E 3 5 [(0, .ref (E.2.1 (71))), (1, .int v1), (2, .int v2)] [.int r1] I
  refine V_iload_n (pc := 5) hC 2 dX6_winsWith_5 rfl rfl ?_
  refine V_icmp_lt (pc := 6) (tgt := 26) hC dX6_winsWith_6 (by decide) (fun c2 => ?_) (fun c2 => ?_)
  · have hf := ite_t hf c2
    refine V_iconst (pc := 26) hC dX6_winsWith_26 (v := (nI 0)) (by decide) ?_
    have hf := Option.some.inj hf; subst hf
    exact V_ireturn (pc := 27) hR (nar_z (by decide)) dX6_winsWith_27
  · have hf := ite_f hf c2
    refine V_iload_n (pc := 9) hC 1 dX6_winsWith_9 rfl rfl ?_
    refine V_aload_n (pc := 10) hC 0 dX6_winsWith_10 rfl rfl ?_
    refine gf_X6_80 (pc := 11) hC dX6_winsWith_11 ?_
    refine V_iand (pc := 14) hC dX6_winsWith_14 ?_
    refine V_aload_n (pc := 15) hC 0 dX6_winsWith_15 rfl rfl ?_
    refine gf_X6_80 (pc := 16) hC dX6_winsWith_16 ?_
    refine V_icmp_ne (pc := 19) (tgt := 26) hC dX6_winsWith_19 (by decide) (fun c3 => ?_) (fun c3 => ?_)
    · have hf := ite_f hf c3
      refine V_iconst (pc := 26) hC dX6_winsWith_26 (v := (nI 0)) (by decide) ?_
      have hf := Option.some.inj hf; subst hf
      exact V_ireturn (pc := 27) hR (nar_z (by decide)) dX6_winsWith_27
    · have hf := ite_t hf c3
      refine V_iconst (pc := 22) hC dX6_winsWith_22 (v := (nI 1)) (by decide) ?_
      refine V_goto (pc := 23) (tgt := 27) hC dX6_winsWith_23 (by decide) ?_
      have hf := Option.some.inj hf; subst hf
      exact V_ireturn (pc := 27) hR (nar_z (by decide)) dX6_winsWith_27
def f_X6_find_109 (k : Nat) (I : Mem) (v2 : Int32) (v3 : Int32) (sh58 : Int32 → Mem → Option (Mem)) (w0 : Int32) (w1 : Int32) : Option (Mem) := (if inB w1 10 = true then sh58 (v3 + (nI 1)) (up2 I (80) (Int32.toNatClampNeg w1) (w0 + (nI 0))) else none)
set_option maxHeartbeats 4000000 in
set_option maxRecDepth 100000 in
theorem b_X6_find_109 {X : XT} {E : EN} {k : Nat} {I : Mem} {v2 : Int32} {v3 : Int32} {sh58 : Int32 → Mem → Option (Mem)} {w0 : Int32} {w1 : Int32} {r : Mem} (hC : Cx X E cX6_find 4 RX6 3 66) (hs58 : ∀ (v3 : Int32) (J : Mem), sh58 v3 J = some r → V X E 4 58 [(0, .ref (E.2.1 (71))), (2, .int v2), (3, .int v3)] [] J) (hR : Rt X E cX6_find none none r) (hf : f_X6_find_109 k I v2 v3 sh58 w0 w1 = some r) : V X E 4 109 [(0, .ref (E.2.1 (71))), (2, .int v2), (3, .int v3)] [.int w0, .int w1, .ref (E.2.1 (80))] I := by
  unfold f_X6_find_109 at hf
  refine V_iconst (pc := 109) hC dX6_find_109 (v := (nI 0)) (by decide) ?_
  refine V_iadd (pc := 110) hC dX6_find_110 ?_
  obtain ⟨h16, hf⟩ := if_some hf
  refine V_iast (pc := 111) hC ia_80 (inB_of h16) dX6_find_111 ?_
  refine V_iinc (pc := 112) (lv' := [(3, .int (v3 + (nI 1))), (0, .ref (E.2.1 (71))), (2, .int v2)]) hC (nI 1) 2 dX6_find_112 rfl (by decide) (by decide) rfl ?_
  refine V_goto (pc := 115) (tgt := 58) hC dX6_find_115 (by decide) ?_
  refine V_sub (pc := 58) (lv' := [(0, .ref (E.2.1 (71))), (2, .int v2), (3, .int (v3 + (nI 1)))]) [1, 2, 0] rfl ?_
  exact hs58 (v3 + (nI 1)) (up2 I (80) (Int32.toNatClampNeg w1) (w0 + (nI 0))) hf
def f_X6_find_58 (k : Nat) (v2 : Int32) (sh41 : Int32 → Mem → Option (Mem)) : Nat → Int32 → Mem → Option (Mem)
  | 0, _, _ => none
  | n + 1, v3, I => (if ((nI 1) <<< ((I (71) 8) &&& 31)) ≤ v3 then (if inB v2 10 = true then sh41 (v2 + (nI 1)) (up2 I (71) 15 ((I (71) 15) + (I (80) (Int32.toNatClampNeg v2)))) else none) else (if inB v2 10 = true then (if (f_X6_isIn v3 v2) = 0 then (if inB v3 1024 = true then (if (I (79) (Int32.toNatClampNeg v3)) = 0 then (if inB (v3 ||| ((nI 1) <<< (v2 &&& 31))) 1024 = true then (if (I (79) (Int32.toNatClampNeg (v3 ||| ((nI 1) <<< (v2 &&& 31))))) = 0 then f_X6_find_109 k I v2 v3 (f_X6_find_58 k v2 sh41 n) (I (80) (Int32.toNatClampNeg v2)) v2 else (if inB v2 10 = true then (f_X6_find_58 k v2 sh41 n) (v3 + (nI 1)) (up2 I (80) (Int32.toNatClampNeg v2) ((I (80) (Int32.toNatClampNeg v2)) + (nI 1))) else none)) else none) else f_X6_find_109 k I v2 v3 (f_X6_find_58 k v2 sh41 n) (I (80) (Int32.toNatClampNeg v2)) v2) else none) else f_X6_find_109 k I v2 v3 (f_X6_find_58 k v2 sh41 n) (I (80) (Int32.toNatClampNeg v2)) v2) else none))
set_option maxHeartbeats 4000000 in
set_option maxRecDepth 100000 in
theorem b_X6_find_58 {X : XT} {E : EN} {k : Nat} {v2 : Int32} {sh41 : Int32 → Mem → Option (Mem)} {r : Mem} (hC : Cx X E cX6_find 4 RX6 3 66) (hs41 : ∀ (v2 : Int32) (J : Mem), sh41 v2 J = some r → V X E 4 41 [(0, .ref (E.2.1 (71))), (2, .int v2)] [] J) (hR : Rt X E cX6_find none none r) : ∀ (n : Nat) (v3 : Int32) (I : Mem), f_X6_find_58 k v2 sh41 n v3 I = some r → V X E 4 58 [(0, .ref (E.2.1 (71))), (2, .int v2), (3, .int v3)] [] I := by
  intro n
  induction n with
  | zero =>
    intro v3 I hf
    rw [f_X6_find_58] at hf
    cases hf
  | succ n ih =>
    intro v3 I hf
    rw [f_X6_find_58] at hf
    refine V_iload_n (pc := 58) hC 2 dX6_find_58 rfl rfl ?_
    refine V_iconst (pc := 59) hC dX6_find_59 (v := (nI 1)) (by decide) ?_
    refine V_aload_n (pc := 60) hC 0 dX6_find_60 rfl rfl ?_
    refine gf_X6_77 (pc := 61) hC dX6_find_61 ?_
    refine V_ishl (pc := 64) hC dX6_find_64 ?_
    refine V_icmp_ge (pc := 65) (tgt := 118) hC dX6_find_65 (by decide) (fun c7 => ?_) (fun c7 => ?_)
    · have hf := ite_t hf c7
      refine V_aload_n (pc := 118) hC 0 dX6_find_118 rfl rfl ?_
      refine V_dup (pc := 119) hC dX6_find_119 rfl ?_
      refine gf_X6_99 (pc := 120) hC dX6_find_120 ?_
      refine V_aload_n (pc := 123) hC 0 dX6_find_123 rfl rfl ?_
      refine gf_X6_36 (pc := 124) hC dX6_find_124 ?_
      refine V_iload_n (pc := 127) hC 1 dX6_find_127 rfl rfl ?_
      obtain ⟨h8, hf⟩ := if_some hf
      refine V_iald (pc := 128) hC ia_80 (inB_of h8) dX6_find_128 ?_
      refine V_iadd (pc := 129) hC dX6_find_129 ?_
      refine pf_X6_99 (pc := 130) hC dX6_find_130 ?_
      refine V_iinc (pc := 133) (lv' := [(2, .int (v2 + (nI 1))), (0, .ref (E.2.1 (71))), (3, .int v3)]) hC (nI 1) 1 dX6_find_133 rfl (by decide) (by decide) rfl ?_
      refine V_goto (pc := 136) (tgt := 41) hC dX6_find_136 (by decide) ?_
      refine V_sub (pc := 41) (lv' := [(0, .ref (E.2.1 (71))), (2, .int (v2 + (nI 1)))]) [1, 0] rfl ?_
      exact hs41 (v2 + (nI 1)) (up2 I (71) 15 ((I (71) 15) + (I (80) (Int32.toNatClampNeg v2)))) hf
    · have hf := ite_f hf c7
      refine V_aload_n (pc := 68) hC 0 dX6_find_68 rfl rfl ?_
      refine gf_X6_36 (pc := 69) hC dX6_find_69 ?_
      refine V_iload_n (pc := 72) hC 1 dX6_find_72 rfl rfl ?_
      refine V_dup2 (pc := 73) hC dX6_find_73 rfl rfl ?_
      obtain ⟨h9, hf⟩ := if_some hf
      refine V_iald (pc := 74) hC ia_80 (inB_of h9) dX6_find_74 ?_
      refine V_iload_n (pc := 75) hC 2 dX6_find_75 rfl rfl ?_
      refine V_iload_n (pc := 76) hC 1 dX6_find_76 rfl rfl ?_
      refine V_callS (pc := 77) (rest := [.int (I (80) (Int32.toNatClampNeg v2)), .int v2, .ref (E.2.1 (80))]) (As := [.int v3, .int v2]) hC lk_X6_86 (c_X6_isIn  rfl) rfl rfl (Nat.le_of_ble_eq_true rfl) (by decide) dX6_find_77 ?_
      change V X E 4 80 [(0, .ref (E.2.1 (71))), (2, .int v2), (3, .int v3)] [.int (f_X6_isIn v3 v2), .int (I (80) (Int32.toNatClampNeg v2)), .int v2, .ref (E.2.1 (80))] I
      refine V_if_ne (pc := 80) (tgt := 109) hC dX6_find_80 (by decide) (fun c10 => ?_) (fun c10 => ?_)
      · have hf := ite_f hf c10
        exact b_X6_find_109 hC ih hR hf
      · have hf := ite_t hf c10
        refine V_aload_n (pc := 83) hC 0 dX6_find_83 rfl rfl ?_
        refine gf_X6_32 (pc := 84) hC dX6_find_84 ?_
        refine V_iload_n (pc := 87) hC 2 dX6_find_87 rfl rfl ?_
        obtain ⟨h11, hf⟩ := if_some hf
        refine V_zald (pc := 88) hC za_79 (inB_of h11) dX6_find_88 ?_
        refine V_if_ne (pc := 89) (tgt := 109) hC dX6_find_89 (by decide) (fun c12 => ?_) (fun c12 => ?_)
        · have hf := ite_f hf c12
          exact b_X6_find_109 hC ih hR hf
        · have hf := ite_t hf c12
          refine V_aload_n (pc := 92) hC 0 dX6_find_92 rfl rfl ?_
          refine gf_X6_32 (pc := 93) hC dX6_find_93 ?_
          refine V_iload_n (pc := 96) hC 2 dX6_find_96 rfl rfl ?_
          refine V_iconst (pc := 97) hC dX6_find_97 (v := (nI 1)) (by decide) ?_
          refine V_iload_n (pc := 98) hC 1 dX6_find_98 rfl rfl ?_
          refine V_ishl (pc := 99) hC dX6_find_99 ?_
          refine V_ior (pc := 100) hC dX6_find_100 ?_
          obtain ⟨h13, hf⟩ := if_some hf
          refine V_zald (pc := 101) hC za_79 (inB_of h13) dX6_find_101 ?_
          refine V_if_eq (pc := 102) (tgt := 109) hC dX6_find_102 (by decide) (fun c14 => ?_) (fun c14 => ?_)
          · have hf := ite_t hf c14
            exact b_X6_find_109 hC ih hR hf
          · have hf := ite_f hf c14
            refine V_iconst (pc := 105) hC dX6_find_105 (v := (nI 1)) (by decide) ?_
            refine V_goto (pc := 106) (tgt := 110) hC dX6_find_106 (by decide) ?_
            refine V_iadd (pc := 110) hC dX6_find_110 ?_
            obtain ⟨h15, hf⟩ := if_some hf
            refine V_iast (pc := 111) hC ia_80 (inB_of h15) dX6_find_111 ?_
            refine V_iinc (pc := 112) (lv' := [(3, .int (v3 + (nI 1))), (0, .ref (E.2.1 (71))), (2, .int v2)]) hC (nI 1) 2 dX6_find_112 rfl (by decide) (by decide) rfl ?_
            refine V_goto (pc := 115) (tgt := 58) hC dX6_find_115 (by decide) ?_
            refine V_sub (pc := 58) (lv' := [(0, .ref (E.2.1 (71))), (2, .int v2), (3, .int (v3 + (nI 1)))]) [1, 2, 0] rfl ?_
            exact ih (v3 + (nI 1)) (up2 I (80) (Int32.toNatClampNeg v2) ((I (80) (Int32.toNatClampNeg v2)) + (nI 1))) hf
def f_X6_find_41 (k : Nat) : Nat → Int32 → Mem → Option (Mem)
  | 0, _, _ => none
  | n + 1, v2, I => (if (I (71) 8) ≤ v2 then some I else (if inB v2 10 = true then f_X6_find_58 k v2 (f_X6_find_41 k n) k (nI 0) (up2 I (80) (Int32.toNatClampNeg v2) (nI 0)) else none))
set_option maxHeartbeats 4000000 in
set_option maxRecDepth 100000 in
theorem b_X6_find_41 {X : XT} {E : EN} {k : Nat} {r : Mem} (hC : Cx X E cX6_find 4 RX6 3 66) (hR : Rt X E cX6_find none none r) : ∀ (n : Nat) (v2 : Int32) (I : Mem), f_X6_find_41 k n v2 I = some r → V X E 4 41 [(0, .ref (E.2.1 (71))), (2, .int v2)] [] I := by
  intro n
  induction n with
  | zero =>
    intro v2 I hf
    rw [f_X6_find_41] at hf
    cases hf
  | succ n ih =>
    intro v2 I hf
    rw [f_X6_find_41] at hf
    refine V_iload_n (pc := 41) hC 1 dX6_find_41 rfl rfl ?_
    refine V_aload_n (pc := 42) hC 0 dX6_find_42 rfl rfl ?_
    refine gf_X6_77 (pc := 43) hC dX6_find_43 ?_
    refine V_icmp_ge (pc := 46) (tgt := 139) hC dX6_find_46 (by decide) (fun c5 => ?_) (fun c5 => ?_)
    · have hf := ite_t hf c5
      have hf := Option.some.inj hf; subst hf
      exact V_return (pc := 139) hR trivial dX6_find_139
    · have hf := ite_f hf c5
      refine V_aload_n (pc := 49) hC 0 dX6_find_49 rfl rfl ?_
      refine gf_X6_36 (pc := 50) hC dX6_find_50 ?_
      refine V_iload_n (pc := 53) hC 1 dX6_find_53 rfl rfl ?_
      refine V_iconst (pc := 54) hC dX6_find_54 (v := (nI 0)) (by decide) ?_
      obtain ⟨h6, hf⟩ := if_some hf
      refine V_iast (pc := 55) hC ia_80 (inB_of h6) dX6_find_55 ?_
      refine V_iconst (pc := 56) hC dX6_find_56 (v := (nI 0)) (by decide) ?_
      refine V_istore_n (pc := 57) (lv' := [(3, .int (nI 0)), (0, .ref (E.2.1 (71))), (2, .int v2)]) hC dX6_find_57 rfl (by decide) rfl ?_
      refine V_sub (pc := 58) (lv' := [(0, .ref (E.2.1 (71))), (2, .int v2), (3, .int (nI 0))]) [1, 2, 0] rfl ?_
      exact b_X6_find_58 hC ih hR k (nI 0) (up2 I (80) (Int32.toNatClampNeg v2) (nI 0)) hf
def f_X6_find_6 (k : Nat) (v1 : Int32) : Nat → Int32 → Mem → Option (Mem)
  | 0, _, _ => none
  | n + 1, v2, I => (if ((nI 1) <<< ((I (71) 8) &&& 31)) ≤ v2 then f_X6_find_41 k k (nI 0) (up2 I (71) 15 (nI 0)) else (Option.bind (f_X6_winsWith k v2 v1 I) (fun r3 => (if inB v2 1024 = true then (f_X6_find_6 k v1 n) (v2 + (nI 1)) (up2 I (79) (Int32.toNatClampNeg v2) (vp_nar .boolean r3)) else none))))
set_option maxHeartbeats 4000000 in
set_option maxRecDepth 100000 in
theorem b_X6_find_6 {X : XT} {E : EN} {k : Nat} {v1 : Int32} {r : Mem} (hC : Cx X E cX6_find 4 RX6 3 66) (hR : Rt X E cX6_find none none r) : ∀ (n : Nat) (v2 : Int32) (I : Mem), f_X6_find_6 k v1 n v2 I = some r → V X E 4 6 [(0, .ref (E.2.1 (71))), (1, .int v1), (2, .int v2)] [] I := by
  intro n
  induction n with
  | zero =>
    intro v2 I hf
    rw [f_X6_find_6] at hf
    cases hf
  | succ n ih =>
    intro v2 I hf
    rw [f_X6_find_6] at hf
    refine V_iload_n (pc := 6) hC 2 dX6_find_6 rfl rfl ?_
    refine V_iconst (pc := 7) hC dX6_find_7 (v := (nI 1)) (by decide) ?_
    refine V_aload_n (pc := 8) hC 0 dX6_find_8 rfl rfl ?_
    refine gf_X6_77 (pc := 9) hC dX6_find_9 ?_
    refine V_ishl (pc := 12) hC dX6_find_12 ?_
    refine V_icmp_ge (pc := 13) (tgt := 34) hC dX6_find_13 (by decide) (fun c2 => ?_) (fun c2 => ?_)
    · have hf := ite_t hf c2
      refine V_aload_n (pc := 34) hC 0 dX6_find_34 rfl rfl ?_
      refine V_iconst (pc := 35) hC dX6_find_35 (v := (nI 0)) (by decide) ?_
      refine pf_X6_99 (pc := 36) hC dX6_find_36 ?_
      refine V_iconst (pc := 39) hC dX6_find_39 (v := (nI 0)) (by decide) ?_
      refine V_istore_n (pc := 40) (lv' := [(2, .int (nI 0)), (0, .ref (E.2.1 (71))), (1, .int v1)]) hC dX6_find_40 rfl (by decide) rfl ?_
      refine V_sub (pc := 41) (lv' := [(0, .ref (E.2.1 (71))), (2, .int (nI 0))]) [1, 0] rfl ?_
      exact b_X6_find_41 hC hR k (nI 0) (up2 I (71) 15 (nI 0)) hf
    · have hf := ite_f hf c2
      refine V_aload_n (pc := 16) hC 0 dX6_find_16 rfl rfl ?_
      refine gf_X6_32 (pc := 17) hC dX6_find_17 ?_
      refine V_iload_n (pc := 20) hC 2 dX6_find_20 rfl rfl ?_
      refine V_aload_n (pc := 21) hC 0 dX6_find_21 rfl rfl ?_
      refine V_iload_n (pc := 22) hC 2 dX6_find_22 rfl rfl ?_
      refine V_iload_n (pc := 23) hC 1 dX6_find_23 rfl rfl ?_
      obtain ⟨r3, g3, hf⟩ := bind_some hf
      refine V_callV (pc := 24) (rest := [.int v2, .ref (E.2.1 (79))]) (As := [.int v2, .int v1]) hC lk_X6_96 (by decide) cel_X6 rfl (c_X6_winsWith  g3) rfl rfl (Nat.le_of_ble_eq_true rfl) (by decide) dX6_find_24 ?_
      change V X E 4 27 [(0, .ref (E.2.1 (71))), (1, .int v1), (2, .int v2)] [.int r3, .int v2, .ref (E.2.1 (79))] I
      obtain ⟨h4, hf⟩ := if_some hf
      refine V_zast (pc := 27) hC za_79 (inB_of h4) dX6_find_27 ?_
      refine V_iinc (pc := 28) (lv' := [(2, .int (v2 + (nI 1))), (0, .ref (E.2.1 (71))), (1, .int v1)]) hC (nI 1) 2 dX6_find_28 rfl (by decide) (by decide) rfl ?_
      refine V_goto (pc := 31) (tgt := 6) hC dX6_find_31 (by decide) ?_
      refine V_sub (pc := 6) (lv' := [(0, .ref (E.2.1 (71))), (1, .int v1), (2, .int (v2 + (nI 1)))]) [1, 2, 0] rfl ?_
      exact ih (v2 + (nI 1)) (up2 I (79) (Int32.toNatClampNeg v2) (vp_nar .boolean r3)) hf
def f_X6_find (k : Nat) (v1 : Int32) (I : Mem) : Option (Mem) := (Option.bind (f_X6_layBlocs k I) (fun r1 => f_X6_find_6 k v1 k (nI 0) r1))
set_option maxHeartbeats 4000000 in
set_option maxRecDepth 100000 in
theorem c_X6_find {E : EN} {k : Nat} {v1 : Int32} {I : Mem} {r : Mem} (hf : f_X6_find k v1 I = some r) : Ct E yX6_find cX6_find 4 none 3 66 [.ref (E.2.1 (71)), .int v1] I none r := by
  refine Ct_of (by decide) (Nat.le_of_ble_eq_true rfl) (fun X hC0 hR => ?_)
  have hC : Cx X E cX6_find 4 RX6 3 66 := hC0
  change V X E 4 0 [(0, .ref (E.2.1 (71))), (1, .int v1)] [] I
  unfold f_X6_find at hf
  refine V_aload_n (pc := 0) hC 0 dX6_find_0 rfl rfl ?_
  obtain ⟨r1, g1, hf⟩ := bind_some hf
  refine V_callV (pc := 1) (rest := []) (As := []) hC lk_X6_93 (by decide) cel_X6 rfl (c_X6_layBlocs  g1) rfl rfl (Nat.le_of_ble_eq_true rfl) (by decide) dX6_find_1 ?_
  change V X E 4 4 [(0, .ref (E.2.1 (71))), (1, .int v1)] [] r1
  refine V_iconst (pc := 4) hC dX6_find_4 (v := (nI 0)) (by decide) ?_
  refine V_istore_n (pc := 5) (lv' := [(2, .int (nI 0)), (0, .ref (E.2.1 (71))), (1, .int v1)]) hC dX6_find_5 rfl (by decide) rfl ?_
  refine V_sub (pc := 6) (lv' := [(0, .ref (E.2.1 (71))), (1, .int v1), (2, .int (nI 0))]) [1, 2, 0] rfl ?_
  exact b_X6_find_6 hC hR k (nI 0) r1 hf
def f_X6_findNow (k : Nat) (I : Mem) : Option (Mem) := (Option.bind (f_X6_find k (I (72) (Int32.toNatClampNeg (nI 1))) I) (fun r1 => some r1))
set_option maxHeartbeats 4000000 in
set_option maxRecDepth 100000 in
theorem c_X6_findNow {E : EN} {k : Nat} {I : Mem} {r : Mem} (hf : f_X6_findNow k I = some r) : Ct E yX6_findNow cX6_findNow 1 none 4 89 [.ref (E.2.1 (71))] I none r := by
  refine Ct_of (by decide) (Nat.le_of_ble_eq_true rfl) (fun X hC0 hR => ?_)
  have hC : Cx X E cX6_findNow 1 RX6 4 89 := hC0
  change V X E 1 0 [(0, .ref (E.2.1 (71)))] [] I
  unfold f_X6_findNow at hf
  refine V_aload_n (pc := 0) hC 0 dX6_findNow_0 rfl rfl ?_
  refine V_aload_n (pc := 1) hC 0 dX6_findNow_1 rfl rfl ?_
  refine gf_X6_7 (pc := 2) hC dX6_findNow_2 ?_
  refine V_iconst (pc := 5) hC dX6_findNow_5 (v := (nI 1)) (by decide) ?_
  refine V_iald (pc := 6) hC ia_72 (inB_of (by decide)) dX6_findNow_6 ?_
  obtain ⟨r1, g1, hf⟩ := bind_some hf
  refine V_callV (pc := 7) (rest := []) (As := [.int (I (72) (Int32.toNatClampNeg (nI 1)))]) hC lk_X6_102 (by decide) cel_X6 rfl (c_X6_find  g1) rfl rfl (Nat.le_of_ble_eq_true rfl) (by decide) dX6_findNow_7 ?_
  change V X E 1 10 [(0, .ref (E.2.1 (71)))] [] r1
  have hf := Option.some.inj hf; subst hf
  exact V_return (pc := 10) hR trivial dX6_findNow_10
def f_X6_winning_4 (k : Nat) (I : Mem) : Nat → Int32 → Int32 → Option (Int32)
  | 0, _, _ => none
  | n + 1, v1, v2 => (if ((nI 1) <<< ((I (71) 8) &&& 31)) ≤ v2 then some v1 else (if inB v2 1024 = true then (if (I (79) (Int32.toNatClampNeg v2)) = 0 then (f_X6_winning_4 k I n) (v1 + (nI 0)) (v2 + (nI 1)) else (f_X6_winning_4 k I n) (v1 + (nI 1)) (v2 + (nI 1))) else none))
set_option maxHeartbeats 4000000 in
set_option maxRecDepth 100000 in
theorem b_X6_winning_4 {X : XT} {E : EN} {k : Nat} {I : Mem} {r : Int32} (hC : Cx X E cX6_winning 3 RX6 0 0) (hR : Rt X E cX6_winning (some .int) (some (.int r)) I) : ∀ (n : Nat) (v1 : Int32) (v2 : Int32), f_X6_winning_4 k I n v1 v2 = some r → V X E 3 4 [(0, .ref (E.2.1 (71))), (1, .int v1), (2, .int v2)] [] I := by
  intro n
  induction n with
  | zero =>
    intro v1 v2 hf
    rw [f_X6_winning_4] at hf
    cases hf
  | succ n ih =>
    intro v1 v2 hf
    rw [f_X6_winning_4] at hf
    refine V_iload_n (pc := 4) hC 2 dX6_winning_4 rfl rfl ?_
    refine V_iconst (pc := 5) hC dX6_winning_5 (v := (nI 1)) (by decide) ?_
    refine V_aload_n (pc := 6) hC 0 dX6_winning_6 rfl rfl ?_
    refine gf_X6_77 (pc := 7) hC dX6_winning_7 ?_
    refine V_ishl (pc := 10) hC dX6_winning_10 ?_
    refine V_icmp_ge (pc := 11) (tgt := 37) hC dX6_winning_11 (by decide) (fun c1 => ?_) (fun c1 => ?_)
    · have hf := ite_t hf c1
      refine V_iload_n (pc := 37) hC 1 dX6_winning_37 rfl rfl ?_
      have hf := Option.some.inj hf; subst hf
      exact V_ireturn (pc := 38) hR rfl dX6_winning_38
    · have hf := ite_f hf c1
      refine V_iload_n (pc := 14) hC 1 dX6_winning_14 rfl rfl ?_
      refine V_aload_n (pc := 15) hC 0 dX6_winning_15 rfl rfl ?_
      refine gf_X6_32 (pc := 16) hC dX6_winning_16 ?_
      refine V_iload_n (pc := 19) hC 2 dX6_winning_19 rfl rfl ?_
      obtain ⟨h2, hf⟩ := if_some hf
      refine V_zald (pc := 20) hC za_79 (inB_of h2) dX6_winning_20 ?_
      refine V_if_eq (pc := 21) (tgt := 28) hC dX6_winning_21 (by decide) (fun c3 => ?_) (fun c3 => ?_)
      · have hf := ite_t hf c3
        refine V_iconst (pc := 28) hC dX6_winning_28 (v := (nI 0)) (by decide) ?_
        refine V_iadd (pc := 29) hC dX6_winning_29 ?_
        refine V_istore_n (pc := 30) (lv' := [(1, .int (v1 + (nI 0))), (0, .ref (E.2.1 (71))), (2, .int v2)]) hC dX6_winning_30 rfl (by decide) rfl ?_
        refine V_iinc (pc := 31) (lv' := [(2, .int (v2 + (nI 1))), (1, .int (v1 + (nI 0))), (0, .ref (E.2.1 (71)))]) hC (nI 1) 2 dX6_winning_31 rfl (by decide) (by decide) rfl ?_
        refine V_goto (pc := 34) (tgt := 4) hC dX6_winning_34 (by decide) ?_
        refine V_sub (pc := 4) (lv' := [(0, .ref (E.2.1 (71))), (1, .int (v1 + (nI 0))), (2, .int (v2 + (nI 1)))]) [2, 1, 0] rfl ?_
        exact ih (v1 + (nI 0)) (v2 + (nI 1)) hf
      · have hf := ite_f hf c3
        refine V_iconst (pc := 24) hC dX6_winning_24 (v := (nI 1)) (by decide) ?_
        refine V_goto (pc := 25) (tgt := 29) hC dX6_winning_25 (by decide) ?_
        refine V_iadd (pc := 29) hC dX6_winning_29 ?_
        refine V_istore_n (pc := 30) (lv' := [(1, .int (v1 + (nI 1))), (0, .ref (E.2.1 (71))), (2, .int v2)]) hC dX6_winning_30 rfl (by decide) rfl ?_
        refine V_iinc (pc := 31) (lv' := [(2, .int (v2 + (nI 1))), (1, .int (v1 + (nI 1))), (0, .ref (E.2.1 (71)))]) hC (nI 1) 2 dX6_winning_31 rfl (by decide) (by decide) rfl ?_
        refine V_goto (pc := 34) (tgt := 4) hC dX6_winning_34 (by decide) ?_
        refine V_sub (pc := 4) (lv' := [(0, .ref (E.2.1 (71))), (1, .int (v1 + (nI 1))), (2, .int (v2 + (nI 1)))]) [2, 1, 0] rfl ?_
        exact ih (v1 + (nI 1)) (v2 + (nI 1)) hf
def f_X6_winning (k : Nat) (I : Mem) : Option (Int32) := f_X6_winning_4 k I k (nI 0) (nI 0)
set_option maxHeartbeats 4000000 in
set_option maxRecDepth 100000 in
theorem c_X6_winning {E : EN} {k : Nat} {I : Mem} {r : Int32} (hf : f_X6_winning k I = some r) : Ct E yX6_winning cX6_winning 3 (some .int) 0 0 [.ref (E.2.1 (71))] I (some (.int r)) I := by
  refine Ct_of (by decide) (Nat.le_of_ble_eq_true rfl) (fun X hC0 hR => ?_)
  have hC : Cx X E cX6_winning 3 RX6 0 0 := hC0
  change V X E 3 0 [(0, .ref (E.2.1 (71)))] [] I
  unfold f_X6_winning at hf
  refine V_iconst (pc := 0) hC dX6_winning_0 (v := (nI 0)) (by decide) ?_
  refine V_istore_n (pc := 1) (lv' := [(1, .int (nI 0)), (0, .ref (E.2.1 (71)))]) hC dX6_winning_1 rfl (by decide) rfl ?_
  refine V_iconst (pc := 2) hC dX6_winning_2 (v := (nI 0)) (by decide) ?_
  refine V_istore_n (pc := 3) (lv' := [(2, .int (nI 0)), (1, .int (nI 0)), (0, .ref (E.2.1 (71)))]) hC dX6_winning_3 rfl (by decide) rfl ?_
  refine V_sub (pc := 4) (lv' := [(0, .ref (E.2.1 (71))), (1, .int (nI 0)), (2, .int (nI 0))]) [2, 1, 0] rfl ?_
  exact b_X6_winning_4 hC hR k (nI 0) (nI 0) hf
def f_X6_factorial_4 (k : Nat) (v0 : Int32) : Nat → Int32 → Int32 → Option (Int32)
  | 0, _, _ => none
  | n + 1, v1, v2 => (if v0 < v2 then some v1 else (f_X6_factorial_4 k v0 n) (v1 * v2) (v2 + (nI 1)))
set_option maxHeartbeats 4000000 in
set_option maxRecDepth 100000 in
theorem b_X6_factorial_4 {X : XT} {E : EN} {k : Nat} {I : Mem} {v0 : Int32} {r : Int32} (hC : Cx X E cX6_factorial 3 RX6 0 0) (hR : Rt X E cX6_factorial (some .int) (some (.int r)) I) : ∀ (n : Nat) (v1 : Int32) (v2 : Int32), f_X6_factorial_4 k v0 n v1 v2 = some r → V X E 3 4 [(0, .int v0), (1, .int v1), (2, .int v2)] [] I := by
  intro n
  induction n with
  | zero =>
    intro v1 v2 hf
    rw [f_X6_factorial_4] at hf
    cases hf
  | succ n ih =>
    intro v1 v2 hf
    rw [f_X6_factorial_4] at hf
    refine V_iload_n (pc := 4) hC 2 dX6_factorial_4 rfl rfl ?_
    refine V_iload_n (pc := 5) hC 0 dX6_factorial_5 rfl rfl ?_
    refine V_icmp_gt (pc := 6) (tgt := 19) hC dX6_factorial_6 (by decide) (fun c1 => ?_) (fun c1 => ?_)
    · have hf := ite_t hf c1
      refine V_iload_n (pc := 19) hC 1 dX6_factorial_19 rfl rfl ?_
      have hf := Option.some.inj hf; subst hf
      exact V_ireturn (pc := 20) hR rfl dX6_factorial_20
    · have hf := ite_f hf c1
      refine V_iload_n (pc := 9) hC 1 dX6_factorial_9 rfl rfl ?_
      refine V_iload_n (pc := 10) hC 2 dX6_factorial_10 rfl rfl ?_
      refine V_imul (pc := 11) hC dX6_factorial_11 ?_
      refine V_istore_n (pc := 12) (lv' := [(1, .int (v1 * v2)), (0, .int v0), (2, .int v2)]) hC dX6_factorial_12 rfl (by decide) rfl ?_
      refine V_iinc (pc := 13) (lv' := [(2, .int (v2 + (nI 1))), (1, .int (v1 * v2)), (0, .int v0)]) hC (nI 1) 2 dX6_factorial_13 rfl (by decide) (by decide) rfl ?_
      refine V_goto (pc := 16) (tgt := 4) hC dX6_factorial_16 (by decide) ?_
      refine V_sub (pc := 4) (lv' := [(0, .int v0), (1, .int (v1 * v2)), (2, .int (v2 + (nI 1)))]) [2, 1, 0] rfl ?_
      exact ih (v1 * v2) (v2 + (nI 1)) hf
def f_X6_factorial (k : Nat) (v0 : Int32) : Option (Int32) := f_X6_factorial_4 k v0 k (nI 1) (nI 2)
set_option maxHeartbeats 4000000 in
set_option maxRecDepth 100000 in
theorem c_X6_factorial {E : EN} {k : Nat} {v0 : Int32} {I : Mem} {r : Int32} (hf : f_X6_factorial k v0 = some r) : Ct E yX6_factorial cX6_factorial 3 (some .int) 0 0 [.int v0] I (some (.int r)) I := by
  refine Ct_of (by decide) (Nat.le_of_ble_eq_true rfl) (fun X hC0 hR => ?_)
  have hC : Cx X E cX6_factorial 3 RX6 0 0 := hC0
  change V X E 3 0 [(0, .int v0)] [] I
  unfold f_X6_factorial at hf
  refine V_iconst (pc := 0) hC dX6_factorial_0 (v := (nI 1)) (by decide) ?_
  refine V_istore_n (pc := 1) (lv' := [(1, .int (nI 1)), (0, .int v0)]) hC dX6_factorial_1 rfl (by decide) rfl ?_
  refine V_iconst (pc := 2) hC dX6_factorial_2 (v := (nI 2)) (by decide) ?_
  refine V_istore_n (pc := 3) (lv' := [(2, .int (nI 2)), (1, .int (nI 1)), (0, .int v0)]) hC dX6_factorial_3 rfl (by decide) rfl ?_
  refine V_sub (pc := 4) (lv' := [(0, .int v0), (1, .int (nI 1)), (2, .int (nI 2))]) [2, 1, 0] rfl ?_
  exact b_X6_factorial_4 hC hR k (nI 1) (nI 2) hf
def f_X6_orders_4 (k : Nat) (I : Mem) (v1 : Int32) : Nat → Int32 → Int32 → Option (Int32)
  | 0, _, _ => none
  | n + 1, v2, v3 => (if ((nI 1) <<< ((I (71) 8) &&& 31)) ≤ v3 then some v2 else (if (f_X6_isIn v3 v1) = 0 then (if inB v3 1024 = true then (if (I (79) (Int32.toNatClampNeg v3)) = 0 then (if inB (v3 ||| ((nI 1) <<< (v1 &&& 31))) 1024 = true then (if (I (79) (Int32.toNatClampNeg (v3 ||| ((nI 1) <<< (v1 &&& 31))))) = 0 then (f_X6_orders_4 k I v1 n) v2 (v3 + (nI 1)) else (Option.bind (f_X6_many k v3) (fun r7 => (Option.bind (f_X6_factorial k r7) (fun r8 => (Option.bind (f_X6_many k v3) (fun r9 => (Option.bind (f_X6_factorial k (((I (71) 8) - (nI 1)) - r9)) (fun r10 => (f_X6_orders_4 k I v1 n) (v2 + (r8 * r10)) (v3 + (nI 1))))))))))) else none) else (f_X6_orders_4 k I v1 n) v2 (v3 + (nI 1))) else none) else (f_X6_orders_4 k I v1 n) v2 (v3 + (nI 1))))
set_option maxHeartbeats 4000000 in
set_option maxRecDepth 100000 in
theorem b_X6_orders_4 {X : XT} {E : EN} {k : Nat} {I : Mem} {v1 : Int32} {r : Int32} (hC : Cx X E cX6_orders 4 RX6 1 22) (hR : Rt X E cX6_orders (some .int) (some (.int r)) I) : ∀ (n : Nat) (v2 : Int32) (v3 : Int32), f_X6_orders_4 k I v1 n v2 v3 = some r → V X E 4 4 [(0, .ref (E.2.1 (71))), (1, .int v1), (2, .int v2), (3, .int v3)] [] I := by
  intro n
  induction n with
  | zero =>
    intro v2 v3 hf
    rw [f_X6_orders_4] at hf
    cases hf
  | succ n ih =>
    intro v2 v3 hf
    rw [f_X6_orders_4] at hf
    refine V_iload_n (pc := 4) hC 3 dX6_orders_4 rfl rfl ?_
    refine V_iconst (pc := 5) hC dX6_orders_5 (v := (nI 1)) (by decide) ?_
    refine V_aload_n (pc := 6) hC 0 dX6_orders_6 rfl rfl ?_
    refine gf_X6_77 (pc := 7) hC dX6_orders_7 ?_
    refine V_ishl (pc := 10) hC dX6_orders_10 ?_
    refine V_icmp_ge (pc := 11) (tgt := 75) hC dX6_orders_11 (by decide) (fun c1 => ?_) (fun c1 => ?_)
    · have hf := ite_t hf c1
      refine V_iload_n (pc := 75) hC 2 dX6_orders_75 rfl rfl ?_
      have hf := Option.some.inj hf; subst hf
      exact V_ireturn (pc := 76) hR rfl dX6_orders_76
    · have hf := ite_f hf c1
      refine V_iload_n (pc := 14) hC 3 dX6_orders_14 rfl rfl ?_
      refine V_iload_n (pc := 15) hC 1 dX6_orders_15 rfl rfl ?_
      refine V_callS (pc := 16) (rest := []) (As := [.int v3, .int v1]) hC lk_X6_86 (c_X6_isIn  rfl) rfl rfl (Nat.le_of_ble_eq_true rfl) (by decide) dX6_orders_16 ?_
      change V X E 4 19 [(0, .ref (E.2.1 (71))), (1, .int v1), (2, .int v2), (3, .int v3)] [.int (f_X6_isIn v3 v1)] I
      refine V_if_ne (pc := 19) (tgt := 69) hC dX6_orders_19 (by decide) (fun c2 => ?_) (fun c2 => ?_)
      · have hf := ite_f hf c2
        refine V_iinc (pc := 69) (lv' := [(3, .int (v3 + (nI 1))), (0, .ref (E.2.1 (71))), (1, .int v1), (2, .int v2)]) hC (nI 1) 3 dX6_orders_69 rfl (by decide) (by decide) rfl ?_
        refine V_goto (pc := 72) (tgt := 4) hC dX6_orders_72 (by decide) ?_
        refine V_sub (pc := 4) (lv' := [(0, .ref (E.2.1 (71))), (1, .int v1), (2, .int v2), (3, .int (v3 + (nI 1)))]) [1, 2, 3, 0] rfl ?_
        exact ih v2 (v3 + (nI 1)) hf
      · have hf := ite_t hf c2
        refine V_aload_n (pc := 22) hC 0 dX6_orders_22 rfl rfl ?_
        refine gf_X6_32 (pc := 23) hC dX6_orders_23 ?_
        refine V_iload_n (pc := 26) hC 3 dX6_orders_26 rfl rfl ?_
        obtain ⟨h3, hf⟩ := if_some hf
        refine V_zald (pc := 27) hC za_79 (inB_of h3) dX6_orders_27 ?_
        refine V_if_ne (pc := 28) (tgt := 69) hC dX6_orders_28 (by decide) (fun c4 => ?_) (fun c4 => ?_)
        · have hf := ite_f hf c4
          refine V_iinc (pc := 69) (lv' := [(3, .int (v3 + (nI 1))), (0, .ref (E.2.1 (71))), (1, .int v1), (2, .int v2)]) hC (nI 1) 3 dX6_orders_69 rfl (by decide) (by decide) rfl ?_
          refine V_goto (pc := 72) (tgt := 4) hC dX6_orders_72 (by decide) ?_
          refine V_sub (pc := 4) (lv' := [(0, .ref (E.2.1 (71))), (1, .int v1), (2, .int v2), (3, .int (v3 + (nI 1)))]) [1, 2, 3, 0] rfl ?_
          exact ih v2 (v3 + (nI 1)) hf
        · have hf := ite_t hf c4
          refine V_aload_n (pc := 31) hC 0 dX6_orders_31 rfl rfl ?_
          refine gf_X6_32 (pc := 32) hC dX6_orders_32 ?_
          refine V_iload_n (pc := 35) hC 3 dX6_orders_35 rfl rfl ?_
          refine V_iconst (pc := 36) hC dX6_orders_36 (v := (nI 1)) (by decide) ?_
          refine V_iload_n (pc := 37) hC 1 dX6_orders_37 rfl rfl ?_
          refine V_ishl (pc := 38) hC dX6_orders_38 ?_
          refine V_ior (pc := 39) hC dX6_orders_39 ?_
          obtain ⟨h5, hf⟩ := if_some hf
          refine V_zald (pc := 40) hC za_79 (inB_of h5) dX6_orders_40 ?_
          refine V_if_eq (pc := 41) (tgt := 69) hC dX6_orders_41 (by decide) (fun c6 => ?_) (fun c6 => ?_)
          · have hf := ite_t hf c6
            refine V_iinc (pc := 69) (lv' := [(3, .int (v3 + (nI 1))), (0, .ref (E.2.1 (71))), (1, .int v1), (2, .int v2)]) hC (nI 1) 3 dX6_orders_69 rfl (by decide) (by decide) rfl ?_
            refine V_goto (pc := 72) (tgt := 4) hC dX6_orders_72 (by decide) ?_
            refine V_sub (pc := 4) (lv' := [(0, .ref (E.2.1 (71))), (1, .int v1), (2, .int v2), (3, .int (v3 + (nI 1)))]) [1, 2, 3, 0] rfl ?_
            exact ih v2 (v3 + (nI 1)) hf
          · have hf := ite_f hf c6
            refine V_iload_n (pc := 44) hC 2 dX6_orders_44 rfl rfl ?_
            refine V_iload_n (pc := 45) hC 3 dX6_orders_45 rfl rfl ?_
            obtain ⟨r7, g7, hf⟩ := bind_some hf
            refine V_callS (pc := 46) (rest := [.int v2]) (As := [.int v3]) hC lk_X6_105 (c_X6_many  g7) rfl rfl (Nat.le_of_ble_eq_true rfl) (by decide) dX6_orders_46 ?_
            change V X E 4 49 [(0, .ref (E.2.1 (71))), (1, .int v1), (2, .int v2), (3, .int v3)] [.int r7, .int v2] I
            obtain ⟨r8, g8, hf⟩ := bind_some hf
            refine V_callS (pc := 49) (rest := [.int v2]) (As := [.int r7]) hC lk_X6_108 (c_X6_factorial  g8) rfl rfl (Nat.le_of_ble_eq_true rfl) (by decide) dX6_orders_49 ?_
            change V X E 4 52 [(0, .ref (E.2.1 (71))), (1, .int v1), (2, .int v2), (3, .int v3)] [.int r8, .int v2] I
            refine V_aload_n (pc := 52) hC 0 dX6_orders_52 rfl rfl ?_
            refine gf_X6_77 (pc := 53) hC dX6_orders_53 ?_
            refine V_iconst (pc := 56) hC dX6_orders_56 (v := (nI 1)) (by decide) ?_
            refine V_isub (pc := 57) hC dX6_orders_57 ?_
            refine V_iload_n (pc := 58) hC 3 dX6_orders_58 rfl rfl ?_
            obtain ⟨r9, g9, hf⟩ := bind_some hf
            refine V_callS (pc := 59) (rest := [.int ((I (71) 8) - (nI 1)), .int r8, .int v2]) (As := [.int v3]) hC lk_X6_105 (c_X6_many  g9) rfl rfl (Nat.le_of_ble_eq_true rfl) (by decide) dX6_orders_59 ?_
            change V X E 4 62 [(0, .ref (E.2.1 (71))), (1, .int v1), (2, .int v2), (3, .int v3)] [.int r9, .int ((I (71) 8) - (nI 1)), .int r8, .int v2] I
            refine V_isub (pc := 62) hC dX6_orders_62 ?_
            obtain ⟨r10, g10, hf⟩ := bind_some hf
            refine V_callS (pc := 63) (rest := [.int r8, .int v2]) (As := [.int (((I (71) 8) - (nI 1)) - r9)]) hC lk_X6_108 (c_X6_factorial  g10) rfl rfl (Nat.le_of_ble_eq_true rfl) (by decide) dX6_orders_63 ?_
            change V X E 4 66 [(0, .ref (E.2.1 (71))), (1, .int v1), (2, .int v2), (3, .int v3)] [.int r10, .int r8, .int v2] I
            refine V_imul (pc := 66) hC dX6_orders_66 ?_
            refine V_iadd (pc := 67) hC dX6_orders_67 ?_
            refine V_istore_n (pc := 68) (lv' := [(2, .int (v2 + (r8 * r10))), (0, .ref (E.2.1 (71))), (1, .int v1), (3, .int v3)]) hC dX6_orders_68 rfl (by decide) rfl ?_
            refine V_iinc (pc := 69) (lv' := [(3, .int (v3 + (nI 1))), (2, .int (v2 + (r8 * r10))), (0, .ref (E.2.1 (71))), (1, .int v1)]) hC (nI 1) 3 dX6_orders_69 rfl (by decide) (by decide) rfl ?_
            refine V_goto (pc := 72) (tgt := 4) hC dX6_orders_72 (by decide) ?_
            refine V_sub (pc := 4) (lv' := [(0, .ref (E.2.1 (71))), (1, .int v1), (2, .int (v2 + (r8 * r10))), (3, .int (v3 + (nI 1)))]) [2, 3, 1, 0] rfl ?_
            exact ih (v2 + (r8 * r10)) (v3 + (nI 1)) hf
def f_X6_orders (k : Nat) (v1 : Int32) (I : Mem) : Option (Int32) := f_X6_orders_4 k I v1 k (nI 0) (nI 0)
set_option maxHeartbeats 4000000 in
set_option maxRecDepth 100000 in
theorem c_X6_orders {E : EN} {k : Nat} {v1 : Int32} {I : Mem} {r : Int32} (hf : f_X6_orders k v1 I = some r) : Ct E yX6_orders cX6_orders 4 (some .int) 1 22 [.ref (E.2.1 (71)), .int v1] I (some (.int r)) I := by
  refine Ct_of (by decide) (Nat.le_of_ble_eq_true rfl) (fun X hC0 hR => ?_)
  have hC : Cx X E cX6_orders 4 RX6 1 22 := hC0
  change V X E 4 0 [(0, .ref (E.2.1 (71))), (1, .int v1)] [] I
  unfold f_X6_orders at hf
  refine V_iconst (pc := 0) hC dX6_orders_0 (v := (nI 0)) (by decide) ?_
  refine V_istore_n (pc := 1) (lv' := [(2, .int (nI 0)), (0, .ref (E.2.1 (71))), (1, .int v1)]) hC dX6_orders_1 rfl (by decide) rfl ?_
  refine V_iconst (pc := 2) hC dX6_orders_2 (v := (nI 0)) (by decide) ?_
  refine V_istore_n (pc := 3) (lv' := [(3, .int (nI 0)), (2, .int (nI 0)), (0, .ref (E.2.1 (71))), (1, .int v1)]) hC dX6_orders_3 rfl (by decide) rfl ?_
  refine V_sub (pc := 4) (lv' := [(0, .ref (E.2.1 (71))), (1, .int v1), (2, .int (nI 0)), (3, .int (nI 0))]) [2, 3, 1, 0] rfl ?_
  exact b_X6_orders_4 hC hR k (nI 0) (nI 0) hf
def f_X6_isBlocker (k : Nat) (v1 : Int32) (I : Mem) : Option (Int32) := (if inB (((nI 1) <<< ((I (71) 8) &&& 31)) - (nI 1)) 1024 = true then (if (I (79) (Int32.toNatClampNeg (((nI 1) <<< ((I (71) 8) &&& 31)) - (nI 1)))) = 0 then some (nI 0) else (if inB ((((nI 1) <<< ((I (71) 8) &&& 31)) - (nI 1)) &&& (((nI 1) <<< (v1 &&& 31)) ^^^ (-1 : Int32))) 1024 = true then (if (I (79) (Int32.toNatClampNeg ((((nI 1) <<< ((I (71) 8) &&& 31)) - (nI 1)) &&& (((nI 1) <<< (v1 &&& 31)) ^^^ (-1 : Int32))))) = 0 then some (nI 1) else some (nI 0)) else none)) else none)
set_option maxHeartbeats 4000000 in
set_option maxRecDepth 100000 in
theorem c_X6_isBlocker {E : EN} {k : Nat} {v1 : Int32} {I : Mem} {r : Int32} (hf : f_X6_isBlocker k v1 I = some r) : Ct E yX6_isBlocker cX6_isBlocker 3 (some .boolean) 0 0 [.ref (E.2.1 (71)), .int v1] I (some (.int r)) I := by
  refine Ct_of (by decide) (Nat.le_of_ble_eq_true rfl) (fun X hC0 hR => ?_)
  have hC : Cx X E cX6_isBlocker 3 RX6 0 0 := hC0
  change V X E 3 0 [(0, .ref (E.2.1 (71))), (1, .int v1)] [] I
  unfold f_X6_isBlocker at hf
  refine V_iconst (pc := 0) hC dX6_isBlocker_0 (v := (nI 1)) (by decide) ?_
  refine V_aload_n (pc := 1) hC 0 dX6_isBlocker_1 rfl rfl ?_
  refine gf_X6_77 (pc := 2) hC dX6_isBlocker_2 ?_
  refine V_ishl (pc := 5) hC dX6_isBlocker_5 ?_
  refine V_iconst (pc := 6) hC dX6_isBlocker_6 (v := (nI 1)) (by decide) ?_
  refine V_isub (pc := 7) hC dX6_isBlocker_7 ?_
  refine V_istore_n (pc := 8) (lv' := [(2, .int (((nI 1) <<< ((I (71) 8) &&& 31)) - (nI 1))), (0, .ref (E.2.1 (71))), (1, .int v1)]) hC dX6_isBlocker_8 rfl (by decide) rfl ?_
  refine V_aload_n (pc := 9) hC 1 dX6_isBlocker_9 rfl rfl ?_
  refine gf_X6_32 (pc := 10) hC dX6_isBlocker_10 ?_
  refine V_iload_n (pc := 13) hC 0 dX6_isBlocker_13 rfl rfl ?_
  obtain ⟨h1, hf⟩ := if_some hf
  refine V_zald (pc := 14) hC za_79 (inB_of h1) dX6_isBlocker_14 ?_
  refine V_if_eq (pc := 15) (tgt := 37) hC dX6_isBlocker_15 (by decide) (fun c2 => ?_) (fun c2 => ?_)
  · have hf := ite_t hf c2
    refine V_iconst (pc := 37) hC dX6_isBlocker_37 (v := (nI 0)) (by decide) ?_
    have hf := Option.some.inj hf; subst hf
    exact V_ireturn (pc := 38) hR (nar_z (by decide)) dX6_isBlocker_38
  · have hf := ite_f hf c2
    refine V_aload_n (pc := 18) hC 1 dX6_isBlocker_18 rfl rfl ?_
    refine gf_X6_32 (pc := 19) hC dX6_isBlocker_19 ?_
    refine V_iload_n (pc := 22) hC 0 dX6_isBlocker_22 rfl rfl ?_
    refine V_iconst (pc := 23) hC dX6_isBlocker_23 (v := (nI 1)) (by decide) ?_
    refine V_iload_n (pc := 24) hC 2 dX6_isBlocker_24 rfl rfl ?_
    refine V_ishl (pc := 25) hC dX6_isBlocker_25 ?_
    refine V_iconst (pc := 26) hC dX6_isBlocker_26 (v := (-1 : Int32)) (by decide) ?_
    refine V_ixor (pc := 27) hC dX6_isBlocker_27 ?_
    refine V_iand (pc := 28) hC dX6_isBlocker_28 ?_
    obtain ⟨h3, hf⟩ := if_some hf
    refine V_zald (pc := 29) hC za_79 (inB_of h3) dX6_isBlocker_29 ?_
    refine V_if_ne (pc := 30) (tgt := 37) hC dX6_isBlocker_30 (by decide) (fun c4 => ?_) (fun c4 => ?_)
    · have hf := ite_f hf c4
      refine V_iconst (pc := 37) hC dX6_isBlocker_37 (v := (nI 0)) (by decide) ?_
      have hf := Option.some.inj hf; subst hf
      exact V_ireturn (pc := 38) hR (nar_z (by decide)) dX6_isBlocker_38
    · have hf := ite_t hf c4
      refine V_iconst (pc := 33) hC dX6_isBlocker_33 (v := (nI 1)) (by decide) ?_
      refine V_goto (pc := 34) (tgt := 38) hC dX6_isBlocker_34 (by decide) ?_
      have hf := Option.some.inj hf; subst hf
      exact V_ireturn (pc := 38) hR (nar_z (by decide)) dX6_isBlocker_38
def f_X6_isDictator_37 (k : Nat) (I : Mem) (v1 : Int32) (v3 : Int32) (sh11 : Int32 → Int32 → Option (Int32)) : Option (Int32) := sh11 (nI 1) (v3 + (nI 1))
set_option maxHeartbeats 4000000 in
set_option maxRecDepth 100000 in
theorem b_X6_isDictator_37 {X : XT} {E : EN} {k : Nat} {I : Mem} {v1 : Int32} {v3 : Int32} {sh11 : Int32 → Int32 → Option (Int32)} {r : Int32} (hC : Cx X E cX6_isDictator 4 RX6 0 0) (hs11 : ∀ (v2 : Int32) (v3 : Int32), sh11 v2 v3 = some r → V X E 4 11 [(0, .ref (E.2.1 (71))), (1, .int v1), (2, .int v2), (3, .int v3)] [] I) (hR : Rt X E cX6_isDictator (some .boolean) (some (.int r)) I) (hf : f_X6_isDictator_37 k I v1 v3 sh11 = some r) : V X E 4 37 [(0, .ref (E.2.1 (71))), (1, .int v1), (3, .int v3)] [] I := by
  unfold f_X6_isDictator_37 at hf
  refine V_iconst (pc := 37) hC dX6_isDictator_37 (v := (nI 1)) (by decide) ?_
  refine V_goto (pc := 38) (tgt := 42) hC dX6_isDictator_38 (by decide) ?_
  refine V_istore_n (pc := 42) (lv' := [(2, .int (nI 1)), (0, .ref (E.2.1 (71))), (1, .int v1), (3, .int v3)]) hC dX6_isDictator_42 rfl (by decide) rfl ?_
  refine V_iinc (pc := 43) (lv' := [(3, .int (v3 + (nI 1))), (2, .int (nI 1)), (0, .ref (E.2.1 (71))), (1, .int v1)]) hC (nI 1) 3 dX6_isDictator_43 rfl (by decide) (by decide) rfl ?_
  refine V_goto (pc := 46) (tgt := 11) hC dX6_isDictator_46 (by decide) ?_
  refine V_sub (pc := 11) (lv' := [(0, .ref (E.2.1 (71))), (1, .int v1), (2, .int (nI 1)), (3, .int (v3 + (nI 1)))]) [2, 3, 1, 0] rfl ?_
  exact hs11 (nI 1) (v3 + (nI 1)) hf
def f_X6_isDictator_11 (k : Nat) (I : Mem) (v1 : Int32) : Nat → Int32 → Int32 → Option (Int32)
  | 0, _, _ => none
  | n + 1, v2, v3 => (if (I (71) 8) ≤ v3 then (if vp_nar .boolean v2 = v2 then some v2 else none) else (if v2 = 0 then (f_X6_isDictator_11 k I v1 n) (nI 0) (v3 + (nI 1)) else (if v3 = v1 then f_X6_isDictator_37 k I v1 v3 (f_X6_isDictator_11 k I v1 n) else (if inB v3 10 = true then (if (I (80) (Int32.toNatClampNeg v3)) = 0 then f_X6_isDictator_37 k I v1 v3 (f_X6_isDictator_11 k I v1 n) else (f_X6_isDictator_11 k I v1 n) (nI 0) (v3 + (nI 1))) else none))))
set_option maxHeartbeats 4000000 in
set_option maxRecDepth 100000 in
theorem b_X6_isDictator_11 {X : XT} {E : EN} {k : Nat} {I : Mem} {v1 : Int32} {r : Int32} (hC : Cx X E cX6_isDictator 4 RX6 0 0) (hR : Rt X E cX6_isDictator (some .boolean) (some (.int r)) I) : ∀ (n : Nat) (v2 : Int32) (v3 : Int32), f_X6_isDictator_11 k I v1 n v2 v3 = some r → V X E 4 11 [(0, .ref (E.2.1 (71))), (1, .int v1), (2, .int v2), (3, .int v3)] [] I := by
  intro n
  induction n with
  | zero =>
    intro v2 v3 hf
    rw [f_X6_isDictator_11] at hf
    cases hf
  | succ n ih =>
    intro v2 v3 hf
    rw [f_X6_isDictator_11] at hf
    refine V_iload_n (pc := 11) hC 3 dX6_isDictator_11 rfl rfl ?_
    refine V_aload_n (pc := 12) hC 0 dX6_isDictator_12 rfl rfl ?_
    refine gf_X6_77 (pc := 13) hC dX6_isDictator_13 ?_
    refine V_icmp_ge (pc := 16) (tgt := 49) hC dX6_isDictator_16 (by decide) (fun c2 => ?_) (fun c2 => ?_)
    · have hf := ite_t hf c2
      refine V_iload_n (pc := 49) hC 2 dX6_isDictator_49 rfl rfl ?_
      obtain ⟨h3, hf⟩ := if_some hf
      have hf := Option.some.inj hf; subst hf
      exact V_ireturn (pc := 50) hR (nar_z h3) dX6_isDictator_50
    · have hf := ite_f hf c2
      refine V_iload_n (pc := 19) hC 2 dX6_isDictator_19 rfl rfl ?_
      refine V_if_eq (pc := 20) (tgt := 41) hC dX6_isDictator_20 (by decide) (fun c4 => ?_) (fun c4 => ?_)
      · have hf := ite_t hf c4
        refine V_iconst (pc := 41) hC dX6_isDictator_41 (v := (nI 0)) (by decide) ?_
        refine V_istore_n (pc := 42) (lv' := [(2, .int (nI 0)), (0, .ref (E.2.1 (71))), (1, .int v1), (3, .int v3)]) hC dX6_isDictator_42 rfl (by decide) rfl ?_
        refine V_iinc (pc := 43) (lv' := [(3, .int (v3 + (nI 1))), (2, .int (nI 0)), (0, .ref (E.2.1 (71))), (1, .int v1)]) hC (nI 1) 3 dX6_isDictator_43 rfl (by decide) (by decide) rfl ?_
        refine V_goto (pc := 46) (tgt := 11) hC dX6_isDictator_46 (by decide) ?_
        refine V_sub (pc := 11) (lv' := [(0, .ref (E.2.1 (71))), (1, .int v1), (2, .int (nI 0)), (3, .int (v3 + (nI 1)))]) [2, 3, 1, 0] rfl ?_
        exact ih (nI 0) (v3 + (nI 1)) hf
      · have hf := ite_f hf c4
        refine V_iload_n (pc := 23) hC 3 dX6_isDictator_23 rfl rfl ?_
        refine V_iload_n (pc := 24) hC 1 dX6_isDictator_24 rfl rfl ?_
        refine V_icmp_eq (pc := 25) (tgt := 37) hC dX6_isDictator_25 (by decide) (fun c5 => ?_) (fun c5 => ?_)
        · have hf := ite_t hf c5
          refine V_sub (pc := 37) (lv' := [(0, .ref (E.2.1 (71))), (1, .int v1), (3, .int v3)]) [0, 1, 3] rfl ?_
          exact b_X6_isDictator_37 hC ih hR hf
        · have hf := ite_f hf c5
          refine V_aload_n (pc := 28) hC 0 dX6_isDictator_28 rfl rfl ?_
          refine gf_X6_36 (pc := 29) hC dX6_isDictator_29 ?_
          refine V_iload_n (pc := 32) hC 3 dX6_isDictator_32 rfl rfl ?_
          obtain ⟨h6, hf⟩ := if_some hf
          refine V_iald (pc := 33) hC ia_80 (inB_of h6) dX6_isDictator_33 ?_
          refine V_if_ne (pc := 34) (tgt := 41) hC dX6_isDictator_34 (by decide) (fun c7 => ?_) (fun c7 => ?_)
          · have hf := ite_f hf c7
            refine V_iconst (pc := 41) hC dX6_isDictator_41 (v := (nI 0)) (by decide) ?_
            refine V_istore_n (pc := 42) (lv' := [(2, .int (nI 0)), (0, .ref (E.2.1 (71))), (1, .int v1), (3, .int v3)]) hC dX6_isDictator_42 rfl (by decide) rfl ?_
            refine V_iinc (pc := 43) (lv' := [(3, .int (v3 + (nI 1))), (2, .int (nI 0)), (0, .ref (E.2.1 (71))), (1, .int v1)]) hC (nI 1) 3 dX6_isDictator_43 rfl (by decide) (by decide) rfl ?_
            refine V_goto (pc := 46) (tgt := 11) hC dX6_isDictator_46 (by decide) ?_
            refine V_sub (pc := 11) (lv' := [(0, .ref (E.2.1 (71))), (1, .int v1), (2, .int (nI 0)), (3, .int (v3 + (nI 1)))]) [2, 3, 1, 0] rfl ?_
            exact ih (nI 0) (v3 + (nI 1)) hf
          · have hf := ite_t hf c7
            refine V_sub (pc := 37) (lv' := [(0, .ref (E.2.1 (71))), (1, .int v1), (3, .int v3)]) [0, 1, 3] rfl ?_
            exact b_X6_isDictator_37 hC ih hR hf
def f_X6_isDictator (k : Nat) (v1 : Int32) (I : Mem) : Option (Int32) := (if inB ((nI 1) <<< (v1 &&& 31)) 1024 = true then f_X6_isDictator_11 k I v1 k (I (79) (Int32.toNatClampNeg ((nI 1) <<< (v1 &&& 31)))) (nI 0) else none)
set_option maxHeartbeats 4000000 in
set_option maxRecDepth 100000 in
theorem c_X6_isDictator {E : EN} {k : Nat} {v1 : Int32} {I : Mem} {r : Int32} (hf : f_X6_isDictator k v1 I = some r) : Ct E yX6_isDictator cX6_isDictator 4 (some .boolean) 0 0 [.ref (E.2.1 (71)), .int v1] I (some (.int r)) I := by
  refine Ct_of (by decide) (Nat.le_of_ble_eq_true rfl) (fun X hC0 hR => ?_)
  have hC : Cx X E cX6_isDictator 4 RX6 0 0 := hC0
  change V X E 4 0 [(0, .ref (E.2.1 (71))), (1, .int v1)] [] I
  unfold f_X6_isDictator at hf
  refine V_aload_n (pc := 0) hC 0 dX6_isDictator_0 rfl rfl ?_
  refine gf_X6_32 (pc := 1) hC dX6_isDictator_1 ?_
  refine V_iconst (pc := 4) hC dX6_isDictator_4 (v := (nI 1)) (by decide) ?_
  refine V_iload_n (pc := 5) hC 1 dX6_isDictator_5 rfl rfl ?_
  refine V_ishl (pc := 6) hC dX6_isDictator_6 ?_
  obtain ⟨h1, hf⟩ := if_some hf
  refine V_zald (pc := 7) hC za_79 (inB_of h1) dX6_isDictator_7 ?_
  refine V_istore_n (pc := 8) (lv' := [(2, .int (I (79) (Int32.toNatClampNeg ((nI 1) <<< (v1 &&& 31))))), (0, .ref (E.2.1 (71))), (1, .int v1)]) hC dX6_isDictator_8 rfl (by decide) rfl ?_
  refine V_iconst (pc := 9) hC dX6_isDictator_9 (v := (nI 0)) (by decide) ?_
  refine V_istore_n (pc := 10) (lv' := [(3, .int (nI 0)), (2, .int (I (79) (Int32.toNatClampNeg ((nI 1) <<< (v1 &&& 31))))), (0, .ref (E.2.1 (71))), (1, .int v1)]) hC dX6_isDictator_10 rfl (by decide) rfl ?_
  refine V_sub (pc := 11) (lv' := [(0, .ref (E.2.1 (71))), (1, .int v1), (2, .int (I (79) (Int32.toNatClampNeg ((nI 1) <<< (v1 &&& 31))))), (3, .int (nI 0))]) [2, 3, 1, 0] rfl ?_
  exact b_X6_isDictator_11 hC hR k (I (79) (Int32.toNatClampNeg ((nI 1) <<< (v1 &&& 31)))) (nI 0) hf
def f_X6_membersOf_4 (k : Nat) (I : Mem) (v1 : Int32) : Nat → Int32 → Int32 → Option (Int32)
  | 0, _, _ => none
  | n + 1, v2, v3 => (if (I (71) 8) ≤ v3 then some v2 else (if (f_X6_isIn v1 v3) = 0 then (f_X6_membersOf_4 k I v1 n) (v2 ||| (nI 0)) (v3 + (nI 1)) else (if inB v3 10 = true then (f_X6_membersOf_4 k I v1 n) (v2 ||| (I (78) (Int32.toNatClampNeg v3))) (v3 + (nI 1)) else none)))
set_option maxHeartbeats 4000000 in
set_option maxRecDepth 100000 in
theorem b_X6_membersOf_4 {X : XT} {E : EN} {k : Nat} {I : Mem} {v1 : Int32} {r : Int32} (hC : Cx X E cX6_membersOf 4 RX6 1 21) (hR : Rt X E cX6_membersOf (some .int) (some (.int r)) I) : ∀ (n : Nat) (v2 : Int32) (v3 : Int32), f_X6_membersOf_4 k I v1 n v2 v3 = some r → V X E 4 4 [(0, .ref (E.2.1 (71))), (1, .int v1), (2, .int v2), (3, .int v3)] [] I := by
  intro n
  induction n with
  | zero =>
    intro v2 v3 hf
    rw [f_X6_membersOf_4] at hf
    cases hf
  | succ n ih =>
    intro v2 v3 hf
    rw [f_X6_membersOf_4] at hf
    refine V_iload_n (pc := 4) hC 3 dX6_membersOf_4 rfl rfl ?_
    refine V_aload_n (pc := 5) hC 0 dX6_membersOf_5 rfl rfl ?_
    refine gf_X6_77 (pc := 6) hC dX6_membersOf_6 ?_
    refine V_icmp_ge (pc := 9) (tgt := 39) hC dX6_membersOf_9 (by decide) (fun c1 => ?_) (fun c1 => ?_)
    · have hf := ite_t hf c1
      refine V_iload_n (pc := 39) hC 2 dX6_membersOf_39 rfl rfl ?_
      have hf := Option.some.inj hf; subst hf
      exact V_ireturn (pc := 40) hR rfl dX6_membersOf_40
    · have hf := ite_f hf c1
      refine V_iload_n (pc := 12) hC 2 dX6_membersOf_12 rfl rfl ?_
      refine V_iload_n (pc := 13) hC 1 dX6_membersOf_13 rfl rfl ?_
      refine V_iload_n (pc := 14) hC 3 dX6_membersOf_14 rfl rfl ?_
      refine V_callS (pc := 15) (rest := [.int v2]) (As := [.int v1, .int v3]) hC lk_X6_86 (c_X6_isIn  rfl) rfl rfl (Nat.le_of_ble_eq_true rfl) (by decide) dX6_membersOf_15 ?_
      change V X E 4 18 [(0, .ref (E.2.1 (71))), (1, .int v1), (2, .int v2), (3, .int v3)] [.int (f_X6_isIn v1 v3), .int v2] I
      refine V_if_eq (pc := 18) (tgt := 30) hC dX6_membersOf_18 (by decide) (fun c2 => ?_) (fun c2 => ?_)
      · have hf := ite_t hf c2
        refine V_iconst (pc := 30) hC dX6_membersOf_30 (v := (nI 0)) (by decide) ?_
        refine V_ior (pc := 31) hC dX6_membersOf_31 ?_
        refine V_istore_n (pc := 32) (lv' := [(2, .int (v2 ||| (nI 0))), (0, .ref (E.2.1 (71))), (1, .int v1), (3, .int v3)]) hC dX6_membersOf_32 rfl (by decide) rfl ?_
        refine V_iinc (pc := 33) (lv' := [(3, .int (v3 + (nI 1))), (2, .int (v2 ||| (nI 0))), (0, .ref (E.2.1 (71))), (1, .int v1)]) hC (nI 1) 3 dX6_membersOf_33 rfl (by decide) (by decide) rfl ?_
        refine V_goto (pc := 36) (tgt := 4) hC dX6_membersOf_36 (by decide) ?_
        refine V_sub (pc := 4) (lv' := [(0, .ref (E.2.1 (71))), (1, .int v1), (2, .int (v2 ||| (nI 0))), (3, .int (v3 + (nI 1)))]) [2, 3, 1, 0] rfl ?_
        exact ih (v2 ||| (nI 0)) (v3 + (nI 1)) hf
      · have hf := ite_f hf c2
        refine V_aload_n (pc := 21) hC 0 dX6_membersOf_21 rfl rfl ?_
        refine gf_X6_29 (pc := 22) hC dX6_membersOf_22 ?_
        refine V_iload_n (pc := 25) hC 3 dX6_membersOf_25 rfl rfl ?_
        obtain ⟨h3, hf⟩ := if_some hf
        refine V_iald (pc := 26) hC ia_78 (inB_of h3) dX6_membersOf_26 ?_
        refine V_goto (pc := 27) (tgt := 31) hC dX6_membersOf_27 (by decide) ?_
        refine V_ior (pc := 31) hC dX6_membersOf_31 ?_
        refine V_istore_n (pc := 32) (lv' := [(2, .int (v2 ||| (I (78) (Int32.toNatClampNeg v3)))), (0, .ref (E.2.1 (71))), (1, .int v1), (3, .int v3)]) hC dX6_membersOf_32 rfl (by decide) rfl ?_
        refine V_iinc (pc := 33) (lv' := [(3, .int (v3 + (nI 1))), (2, .int (v2 ||| (I (78) (Int32.toNatClampNeg v3)))), (0, .ref (E.2.1 (71))), (1, .int v1)]) hC (nI 1) 3 dX6_membersOf_33 rfl (by decide) (by decide) rfl ?_
        refine V_goto (pc := 36) (tgt := 4) hC dX6_membersOf_36 (by decide) ?_
        refine V_sub (pc := 4) (lv' := [(0, .ref (E.2.1 (71))), (1, .int v1), (2, .int (v2 ||| (I (78) (Int32.toNatClampNeg v3)))), (3, .int (v3 + (nI 1)))]) [2, 3, 1, 0] rfl ?_
        exact ih (v2 ||| (I (78) (Int32.toNatClampNeg v3))) (v3 + (nI 1)) hf
def f_X6_membersOf (k : Nat) (v1 : Int32) (I : Mem) : Option (Int32) := f_X6_membersOf_4 k I v1 k (nI 0) (nI 0)
set_option maxHeartbeats 4000000 in
set_option maxRecDepth 100000 in
theorem c_X6_membersOf {E : EN} {k : Nat} {v1 : Int32} {I : Mem} {r : Int32} (hf : f_X6_membersOf k v1 I = some r) : Ct E yX6_membersOf cX6_membersOf 4 (some .int) 1 21 [.ref (E.2.1 (71)), .int v1] I (some (.int r)) I := by
  refine Ct_of (by decide) (Nat.le_of_ble_eq_true rfl) (fun X hC0 hR => ?_)
  have hC : Cx X E cX6_membersOf 4 RX6 1 21 := hC0
  change V X E 4 0 [(0, .ref (E.2.1 (71))), (1, .int v1)] [] I
  unfold f_X6_membersOf at hf
  refine V_iconst (pc := 0) hC dX6_membersOf_0 (v := (nI 0)) (by decide) ?_
  refine V_istore_n (pc := 1) (lv' := [(2, .int (nI 0)), (0, .ref (E.2.1 (71))), (1, .int v1)]) hC dX6_membersOf_1 rfl (by decide) rfl ?_
  refine V_iconst (pc := 2) hC dX6_membersOf_2 (v := (nI 0)) (by decide) ?_
  refine V_istore_n (pc := 3) (lv' := [(3, .int (nI 0)), (2, .int (nI 0)), (0, .ref (E.2.1 (71))), (1, .int v1)]) hC dX6_membersOf_3 rfl (by decide) rfl ?_
  refine V_sub (pc := 4) (lv' := [(0, .ref (E.2.1 (71))), (1, .int v1), (2, .int (nI 0)), (3, .int (nI 0))]) [2, 3, 1, 0] rfl ?_
  exact b_X6_membersOf_4 hC hR k (nI 0) (nI 0) hf
def f_X6_isLeast_44 (k : Nat) (I : Mem) (v1 : Int32) (v3 : Int32) (sh9 : Int32 → Int32 → Option (Int32)) : Option (Int32) := sh9 (nI 1) (v3 + (nI 1))
set_option maxHeartbeats 4000000 in
set_option maxRecDepth 100000 in
theorem b_X6_isLeast_44 {X : XT} {E : EN} {k : Nat} {I : Mem} {v1 : Int32} {v3 : Int32} {sh9 : Int32 → Int32 → Option (Int32)} {r : Int32} (hC : Cx X E cX6_isLeast 4 RX6 1 21) (hs9 : ∀ (v2 : Int32) (v3 : Int32), sh9 v2 v3 = some r → V X E 4 9 [(0, .ref (E.2.1 (71))), (1, .int v1), (2, .int v2), (3, .int v3)] [] I) (hR : Rt X E cX6_isLeast (some .boolean) (some (.int r)) I) (hf : f_X6_isLeast_44 k I v1 v3 sh9 = some r) : V X E 4 44 [(0, .ref (E.2.1 (71))), (1, .int v1), (3, .int v3)] [] I := by
  unfold f_X6_isLeast_44 at hf
  refine V_iconst (pc := 44) hC dX6_isLeast_44 (v := (nI 1)) (by decide) ?_
  refine V_goto (pc := 45) (tgt := 49) hC dX6_isLeast_45 (by decide) ?_
  refine V_istore_n (pc := 49) (lv' := [(2, .int (nI 1)), (0, .ref (E.2.1 (71))), (1, .int v1), (3, .int v3)]) hC dX6_isLeast_49 rfl (by decide) rfl ?_
  refine V_iinc (pc := 50) (lv' := [(3, .int (v3 + (nI 1))), (2, .int (nI 1)), (0, .ref (E.2.1 (71))), (1, .int v1)]) hC (nI 1) 3 dX6_isLeast_50 rfl (by decide) (by decide) rfl ?_
  refine V_goto (pc := 53) (tgt := 9) hC dX6_isLeast_53 (by decide) ?_
  refine V_sub (pc := 9) (lv' := [(0, .ref (E.2.1 (71))), (1, .int v1), (2, .int (nI 1)), (3, .int (v3 + (nI 1)))]) [2, 3, 1, 0] rfl ?_
  exact hs9 (nI 1) (v3 + (nI 1)) hf
def f_X6_isLeast_9 (k : Nat) (I : Mem) (v1 : Int32) : Nat → Int32 → Int32 → Option (Int32)
  | 0, _, _ => none
  | n + 1, v2, v3 => (if (I (71) 8) ≤ v3 then (if vp_nar .boolean v2 = v2 then some v2 else none) else (if v2 = 0 then (f_X6_isLeast_9 k I v1 n) (nI 0) (v3 + (nI 1)) else (if (f_X6_isIn v1 v3) = 0 then f_X6_isLeast_44 k I v1 v3 (f_X6_isLeast_9 k I v1 n) else (if inB (v1 &&& (((nI 1) <<< (v3 &&& 31)) ^^^ (-1 : Int32))) 1024 = true then (if (I (79) (Int32.toNatClampNeg (v1 &&& (((nI 1) <<< (v3 &&& 31)) ^^^ (-1 : Int32))))) = 0 then f_X6_isLeast_44 k I v1 v3 (f_X6_isLeast_9 k I v1 n) else (f_X6_isLeast_9 k I v1 n) (nI 0) (v3 + (nI 1))) else none))))
set_option maxHeartbeats 4000000 in
set_option maxRecDepth 100000 in
theorem b_X6_isLeast_9 {X : XT} {E : EN} {k : Nat} {I : Mem} {v1 : Int32} {r : Int32} (hC : Cx X E cX6_isLeast 4 RX6 1 21) (hR : Rt X E cX6_isLeast (some .boolean) (some (.int r)) I) : ∀ (n : Nat) (v2 : Int32) (v3 : Int32), f_X6_isLeast_9 k I v1 n v2 v3 = some r → V X E 4 9 [(0, .ref (E.2.1 (71))), (1, .int v1), (2, .int v2), (3, .int v3)] [] I := by
  intro n
  induction n with
  | zero =>
    intro v2 v3 hf
    rw [f_X6_isLeast_9] at hf
    cases hf
  | succ n ih =>
    intro v2 v3 hf
    rw [f_X6_isLeast_9] at hf
    refine V_iload_n (pc := 9) hC 3 dX6_isLeast_9 rfl rfl ?_
    refine V_aload_n (pc := 10) hC 0 dX6_isLeast_10 rfl rfl ?_
    refine gf_X6_77 (pc := 11) hC dX6_isLeast_11 ?_
    refine V_icmp_ge (pc := 14) (tgt := 56) hC dX6_isLeast_14 (by decide) (fun c2 => ?_) (fun c2 => ?_)
    · have hf := ite_t hf c2
      refine V_iload_n (pc := 56) hC 2 dX6_isLeast_56 rfl rfl ?_
      obtain ⟨h3, hf⟩ := if_some hf
      have hf := Option.some.inj hf; subst hf
      exact V_ireturn (pc := 57) hR (nar_z h3) dX6_isLeast_57
    · have hf := ite_f hf c2
      refine V_iload_n (pc := 17) hC 2 dX6_isLeast_17 rfl rfl ?_
      refine V_if_eq (pc := 18) (tgt := 48) hC dX6_isLeast_18 (by decide) (fun c4 => ?_) (fun c4 => ?_)
      · have hf := ite_t hf c4
        refine V_iconst (pc := 48) hC dX6_isLeast_48 (v := (nI 0)) (by decide) ?_
        refine V_istore_n (pc := 49) (lv' := [(2, .int (nI 0)), (0, .ref (E.2.1 (71))), (1, .int v1), (3, .int v3)]) hC dX6_isLeast_49 rfl (by decide) rfl ?_
        refine V_iinc (pc := 50) (lv' := [(3, .int (v3 + (nI 1))), (2, .int (nI 0)), (0, .ref (E.2.1 (71))), (1, .int v1)]) hC (nI 1) 3 dX6_isLeast_50 rfl (by decide) (by decide) rfl ?_
        refine V_goto (pc := 53) (tgt := 9) hC dX6_isLeast_53 (by decide) ?_
        refine V_sub (pc := 9) (lv' := [(0, .ref (E.2.1 (71))), (1, .int v1), (2, .int (nI 0)), (3, .int (v3 + (nI 1)))]) [2, 3, 1, 0] rfl ?_
        exact ih (nI 0) (v3 + (nI 1)) hf
      · have hf := ite_f hf c4
        refine V_iload_n (pc := 21) hC 1 dX6_isLeast_21 rfl rfl ?_
        refine V_iload_n (pc := 22) hC 3 dX6_isLeast_22 rfl rfl ?_
        refine V_callS (pc := 23) (rest := []) (As := [.int v1, .int v3]) hC lk_X6_86 (c_X6_isIn  rfl) rfl rfl (Nat.le_of_ble_eq_true rfl) (by decide) dX6_isLeast_23 ?_
        change V X E 4 26 [(0, .ref (E.2.1 (71))), (1, .int v1), (2, .int v2), (3, .int v3)] [.int (f_X6_isIn v1 v3)] I
        refine V_if_eq (pc := 26) (tgt := 44) hC dX6_isLeast_26 (by decide) (fun c5 => ?_) (fun c5 => ?_)
        · have hf := ite_t hf c5
          refine V_sub (pc := 44) (lv' := [(0, .ref (E.2.1 (71))), (1, .int v1), (3, .int v3)]) [0, 1, 3] rfl ?_
          exact b_X6_isLeast_44 hC ih hR hf
        · have hf := ite_f hf c5
          refine V_aload_n (pc := 29) hC 0 dX6_isLeast_29 rfl rfl ?_
          refine gf_X6_32 (pc := 30) hC dX6_isLeast_30 ?_
          refine V_iload_n (pc := 33) hC 1 dX6_isLeast_33 rfl rfl ?_
          refine V_iconst (pc := 34) hC dX6_isLeast_34 (v := (nI 1)) (by decide) ?_
          refine V_iload_n (pc := 35) hC 3 dX6_isLeast_35 rfl rfl ?_
          refine V_ishl (pc := 36) hC dX6_isLeast_36 ?_
          refine V_iconst (pc := 37) hC dX6_isLeast_37 (v := (-1 : Int32)) (by decide) ?_
          refine V_ixor (pc := 38) hC dX6_isLeast_38 ?_
          refine V_iand (pc := 39) hC dX6_isLeast_39 ?_
          obtain ⟨h6, hf⟩ := if_some hf
          refine V_zald (pc := 40) hC za_79 (inB_of h6) dX6_isLeast_40 ?_
          refine V_if_ne (pc := 41) (tgt := 48) hC dX6_isLeast_41 (by decide) (fun c7 => ?_) (fun c7 => ?_)
          · have hf := ite_f hf c7
            refine V_iconst (pc := 48) hC dX6_isLeast_48 (v := (nI 0)) (by decide) ?_
            refine V_istore_n (pc := 49) (lv' := [(2, .int (nI 0)), (0, .ref (E.2.1 (71))), (1, .int v1), (3, .int v3)]) hC dX6_isLeast_49 rfl (by decide) rfl ?_
            refine V_iinc (pc := 50) (lv' := [(3, .int (v3 + (nI 1))), (2, .int (nI 0)), (0, .ref (E.2.1 (71))), (1, .int v1)]) hC (nI 1) 3 dX6_isLeast_50 rfl (by decide) (by decide) rfl ?_
            refine V_goto (pc := 53) (tgt := 9) hC dX6_isLeast_53 (by decide) ?_
            refine V_sub (pc := 9) (lv' := [(0, .ref (E.2.1 (71))), (1, .int v1), (2, .int (nI 0)), (3, .int (v3 + (nI 1)))]) [2, 3, 1, 0] rfl ?_
            exact ih (nI 0) (v3 + (nI 1)) hf
          · have hf := ite_t hf c7
            refine V_sub (pc := 44) (lv' := [(0, .ref (E.2.1 (71))), (1, .int v1), (3, .int v3)]) [0, 1, 3] rfl ?_
            exact b_X6_isLeast_44 hC ih hR hf
def f_X6_isLeast (k : Nat) (v1 : Int32) (I : Mem) : Option (Int32) := (if inB v1 1024 = true then f_X6_isLeast_9 k I v1 k (I (79) (Int32.toNatClampNeg v1)) (nI 0) else none)
set_option maxHeartbeats 4000000 in
set_option maxRecDepth 100000 in
theorem c_X6_isLeast {E : EN} {k : Nat} {v1 : Int32} {I : Mem} {r : Int32} (hf : f_X6_isLeast k v1 I = some r) : Ct E yX6_isLeast cX6_isLeast 4 (some .boolean) 1 21 [.ref (E.2.1 (71)), .int v1] I (some (.int r)) I := by
  refine Ct_of (by decide) (Nat.le_of_ble_eq_true rfl) (fun X hC0 hR => ?_)
  have hC : Cx X E cX6_isLeast 4 RX6 1 21 := hC0
  change V X E 4 0 [(0, .ref (E.2.1 (71))), (1, .int v1)] [] I
  unfold f_X6_isLeast at hf
  refine V_aload_n (pc := 0) hC 0 dX6_isLeast_0 rfl rfl ?_
  refine gf_X6_32 (pc := 1) hC dX6_isLeast_1 ?_
  refine V_iload_n (pc := 4) hC 1 dX6_isLeast_4 rfl rfl ?_
  obtain ⟨h1, hf⟩ := if_some hf
  refine V_zald (pc := 5) hC za_79 (inB_of h1) dX6_isLeast_5 ?_
  refine V_istore_n (pc := 6) (lv' := [(2, .int (I (79) (Int32.toNatClampNeg v1))), (0, .ref (E.2.1 (71))), (1, .int v1)]) hC dX6_isLeast_6 rfl (by decide) rfl ?_
  refine V_iconst (pc := 7) hC dX6_isLeast_7 (v := (nI 0)) (by decide) ?_
  refine V_istore_n (pc := 8) (lv' := [(3, .int (nI 0)), (2, .int (I (79) (Int32.toNatClampNeg v1))), (0, .ref (E.2.1 (71))), (1, .int v1)]) hC dX6_isLeast_8 rfl (by decide) rfl ?_
  refine V_sub (pc := 9) (lv' := [(0, .ref (E.2.1 (71))), (1, .int v1), (2, .int (I (79) (Int32.toNatClampNeg v1))), (3, .int (nI 0))]) [2, 3, 1, 0] rfl ?_
  exact b_X6_isLeast_9 hC hR k (I (79) (Int32.toNatClampNeg v1)) (nI 0) hf
def f_X6_isAhead (k : Nat) (v1 : Int32) (v2 : Int32) (I : Mem) : Option (Int32) := (Option.bind (f_X6_many k v1) (fun r1 => (Option.bind (f_X6_many k v2) (fun r2 => (if r1 = r2 then (Option.bind (f_X6_weightOf k v1 I) (fun r4 => (Option.bind (f_X6_weightOf k v2 I) (fun r5 => (if r4 = r5 then (Option.bind (f_X6_membersOf k v1 I) (fun r7 => (Option.bind (f_X6_membersOf k v2 I) (fun r8 => (if r8 ≤ r7 then some (nI 0) else some (nI 1)))))) else (Option.bind (f_X6_weightOf k v1 I) (fun r10 => (Option.bind (f_X6_weightOf k v2 I) (fun r11 => (if r11 ≤ r10 then some (nI 0) else some (nI 1))))))))))) else (Option.bind (f_X6_many k v1) (fun r13 => (Option.bind (f_X6_many k v2) (fun r14 => (if r14 ≤ r13 then some (nI 0) else some (nI 1)))))))))))
set_option maxHeartbeats 4000000 in
set_option maxRecDepth 100000 in
theorem c_X6_isAhead {E : EN} {k : Nat} {v1 : Int32} {v2 : Int32} {I : Mem} {r : Int32} (hf : f_X6_isAhead k v1 v2 I = some r) : Ct E yX6_isAhead cX6_isAhead 3 (some .boolean) 2 44 [.ref (E.2.1 (71)), .int v1, .int v2] I (some (.int r)) I := by
  refine Ct_of (by decide) (Nat.le_of_ble_eq_true rfl) (fun X hC0 hR => ?_)
  have hC : Cx X E cX6_isAhead 3 RX6 2 44 := hC0
  change V X E 3 0 [(0, .ref (E.2.1 (71))), (1, .int v1), (2, .int v2)] [] I
  unfold f_X6_isAhead at hf
  refine V_iload_n (pc := 0) hC 1 dX6_isAhead_0 rfl rfl ?_
  obtain ⟨r1, g1, hf⟩ := bind_some hf
  refine V_callS (pc := 1) (rest := []) (As := [.int v1]) hC lk_X6_105 (c_X6_many  g1) rfl rfl (Nat.le_of_ble_eq_true rfl) (by decide) dX6_isAhead_1 ?_
  change V X E 3 4 [(0, .ref (E.2.1 (71))), (1, .int v1), (2, .int v2)] [.int r1] I
  refine V_iload_n (pc := 4) hC 2 dX6_isAhead_4 rfl rfl ?_
  obtain ⟨r2, g2, hf⟩ := bind_some hf
  refine V_callS (pc := 5) (rest := [.int r1]) (As := [.int v2]) hC lk_X6_105 (c_X6_many  g2) rfl rfl (Nat.le_of_ble_eq_true rfl) (by decide) dX6_isAhead_5 ?_
  change V X E 3 8 [(0, .ref (E.2.1 (71))), (1, .int v1), (2, .int v2)] [.int r2, .int r1] I
  refine V_icmp_eq (pc := 8) (tgt := 28) hC dX6_isAhead_8 (by decide) (fun c3 => ?_) (fun c3 => ?_)
  · have hf := ite_t hf c3
    refine V_aload_n (pc := 28) hC 0 dX6_isAhead_28 rfl rfl ?_
    refine V_iload_n (pc := 29) hC 1 dX6_isAhead_29 rfl rfl ?_
    obtain ⟨r4, g4, hf⟩ := bind_some hf
    refine V_callV (pc := 30) (rest := []) (As := [.int v1]) hC lk_X6_90 (by decide) cel_X6 rfl (c_X6_weightOf  g4) rfl rfl (Nat.le_of_ble_eq_true rfl) (by decide) dX6_isAhead_30 ?_
    change V X E 3 33 [(0, .ref (E.2.1 (71))), (1, .int v1), (2, .int v2)] [.int r4] I
    refine V_aload_n (pc := 33) hC 0 dX6_isAhead_33 rfl rfl ?_
    refine V_iload_n (pc := 34) hC 2 dX6_isAhead_34 rfl rfl ?_
    obtain ⟨r5, g5, hf⟩ := bind_some hf
    refine V_callV (pc := 35) (rest := [.int r4]) (As := [.int v2]) hC lk_X6_90 (by decide) cel_X6 rfl (c_X6_weightOf  g5) rfl rfl (Nat.le_of_ble_eq_true rfl) (by decide) dX6_isAhead_35 ?_
    change V X E 3 38 [(0, .ref (E.2.1 (71))), (1, .int v1), (2, .int v2)] [.int r5, .int r4] I
    refine V_icmp_eq (pc := 38) (tgt := 60) hC dX6_isAhead_38 (by decide) (fun c6 => ?_) (fun c6 => ?_)
    · have hf := ite_t hf c6
      refine V_aload_n (pc := 60) hC 0 dX6_isAhead_60 rfl rfl ?_
      refine V_iload_n (pc := 61) hC 1 dX6_isAhead_61 rfl rfl ?_
      obtain ⟨r7, g7, hf⟩ := bind_some hf
      refine V_callV (pc := 62) (rest := []) (As := [.int v1]) hC lk_X6_111 (by decide) cel_X6 rfl (c_X6_membersOf  g7) rfl rfl (Nat.le_of_ble_eq_true rfl) (by decide) dX6_isAhead_62 ?_
      change V X E 3 65 [(0, .ref (E.2.1 (71))), (1, .int v1), (2, .int v2)] [.int r7] I
      refine V_aload_n (pc := 65) hC 0 dX6_isAhead_65 rfl rfl ?_
      refine V_iload_n (pc := 66) hC 2 dX6_isAhead_66 rfl rfl ?_
      obtain ⟨r8, g8, hf⟩ := bind_some hf
      refine V_callV (pc := 67) (rest := [.int r7]) (As := [.int v2]) hC lk_X6_111 (by decide) cel_X6 rfl (c_X6_membersOf  g8) rfl rfl (Nat.le_of_ble_eq_true rfl) (by decide) dX6_isAhead_67 ?_
      change V X E 3 70 [(0, .ref (E.2.1 (71))), (1, .int v1), (2, .int v2)] [.int r8, .int r7] I
      refine V_icmp_ge (pc := 70) (tgt := 77) hC dX6_isAhead_70 (by decide) (fun c9 => ?_) (fun c9 => ?_)
      · have hf := ite_t hf c9
        refine V_iconst (pc := 77) hC dX6_isAhead_77 (v := (nI 0)) (by decide) ?_
        have hf := Option.some.inj hf; subst hf
        exact V_ireturn (pc := 78) hR (nar_z (by decide)) dX6_isAhead_78
      · have hf := ite_f hf c9
        refine V_iconst (pc := 73) hC dX6_isAhead_73 (v := (nI 1)) (by decide) ?_
        refine V_goto (pc := 74) (tgt := 78) hC dX6_isAhead_74 (by decide) ?_
        have hf := Option.some.inj hf; subst hf
        exact V_ireturn (pc := 78) hR (nar_z (by decide)) dX6_isAhead_78
    · have hf := ite_f hf c6
      refine V_aload_n (pc := 41) hC 0 dX6_isAhead_41 rfl rfl ?_
      refine V_iload_n (pc := 42) hC 1 dX6_isAhead_42 rfl rfl ?_
      obtain ⟨r10, g10, hf⟩ := bind_some hf
      refine V_callV (pc := 43) (rest := []) (As := [.int v1]) hC lk_X6_90 (by decide) cel_X6 rfl (c_X6_weightOf  g10) rfl rfl (Nat.le_of_ble_eq_true rfl) (by decide) dX6_isAhead_43 ?_
      change V X E 3 46 [(0, .ref (E.2.1 (71))), (1, .int v1), (2, .int v2)] [.int r10] I
      refine V_aload_n (pc := 46) hC 0 dX6_isAhead_46 rfl rfl ?_
      refine V_iload_n (pc := 47) hC 2 dX6_isAhead_47 rfl rfl ?_
      obtain ⟨r11, g11, hf⟩ := bind_some hf
      refine V_callV (pc := 48) (rest := [.int r10]) (As := [.int v2]) hC lk_X6_90 (by decide) cel_X6 rfl (c_X6_weightOf  g11) rfl rfl (Nat.le_of_ble_eq_true rfl) (by decide) dX6_isAhead_48 ?_
      change V X E 3 51 [(0, .ref (E.2.1 (71))), (1, .int v1), (2, .int v2)] [.int r11, .int r10] I
      refine V_icmp_ge (pc := 51) (tgt := 58) hC dX6_isAhead_51 (by decide) (fun c12 => ?_) (fun c12 => ?_)
      · have hf := ite_t hf c12
        refine V_iconst (pc := 58) hC dX6_isAhead_58 (v := (nI 0)) (by decide) ?_
        have hf := Option.some.inj hf; subst hf
        exact V_ireturn (pc := 59) hR (nar_z (by decide)) dX6_isAhead_59
      · have hf := ite_f hf c12
        refine V_iconst (pc := 54) hC dX6_isAhead_54 (v := (nI 1)) (by decide) ?_
        refine V_goto (pc := 55) (tgt := 59) hC dX6_isAhead_55 (by decide) ?_
        have hf := Option.some.inj hf; subst hf
        exact V_ireturn (pc := 59) hR (nar_z (by decide)) dX6_isAhead_59
  · have hf := ite_f hf c3
    refine V_iload_n (pc := 11) hC 1 dX6_isAhead_11 rfl rfl ?_
    obtain ⟨r13, g13, hf⟩ := bind_some hf
    refine V_callS (pc := 12) (rest := []) (As := [.int v1]) hC lk_X6_105 (c_X6_many  g13) rfl rfl (Nat.le_of_ble_eq_true rfl) (by decide) dX6_isAhead_12 ?_
    change V X E 3 15 [(0, .ref (E.2.1 (71))), (1, .int v1), (2, .int v2)] [.int r13] I
    refine V_iload_n (pc := 15) hC 2 dX6_isAhead_15 rfl rfl ?_
    obtain ⟨r14, g14, hf⟩ := bind_some hf
    refine V_callS (pc := 16) (rest := [.int r13]) (As := [.int v2]) hC lk_X6_105 (c_X6_many  g14) rfl rfl (Nat.le_of_ble_eq_true rfl) (by decide) dX6_isAhead_16 ?_
    change V X E 3 19 [(0, .ref (E.2.1 (71))), (1, .int v1), (2, .int v2)] [.int r14, .int r13] I
    refine V_icmp_ge (pc := 19) (tgt := 26) hC dX6_isAhead_19 (by decide) (fun c15 => ?_) (fun c15 => ?_)
    · have hf := ite_t hf c15
      refine V_iconst (pc := 26) hC dX6_isAhead_26 (v := (nI 0)) (by decide) ?_
      have hf := Option.some.inj hf; subst hf
      exact V_ireturn (pc := 27) hR (nar_z (by decide)) dX6_isAhead_27
    · have hf := ite_f hf c15
      refine V_iconst (pc := 22) hC dX6_isAhead_22 (v := (nI 1)) (by decide) ?_
      refine V_goto (pc := 23) (tgt := 27) hC dX6_isAhead_23 (by decide) ?_
      have hf := Option.some.inj hf; subst hf
      exact V_ireturn (pc := 27) hR (nar_z (by decide)) dX6_isAhead_27
def f_X6_findLeast_74 (k : Nat) (I : Mem) (v1 : Int32) (v2 : Int32) (sh11 : Int32 → Mem → Option (Mem)) : Option (Mem) := (if inB v2 1024 = true then (Option.bind (some (up2 (up2 I (81) (Int32.toNatClampNeg v2) v1) (71) 17 (((up2 I (81) (Int32.toNatClampNeg v2) v1) (71) 17) + (nI 1)))) (fun J12 => sh11 (v1 + (nI 1)) J12)) else none)
set_option maxHeartbeats 4000000 in
set_option maxRecDepth 100000 in
theorem b_X6_findLeast_74 {X : XT} {E : EN} {k : Nat} {I : Mem} {v1 : Int32} {v2 : Int32} {sh11 : Int32 → Mem → Option (Mem)} {r : Mem} (hC : Cx X E cX6_findLeast 3 RX6 5 109) (hs11 : ∀ (v1 : Int32) (J : Mem), sh11 v1 J = some r → V X E 3 11 [(0, .ref (E.2.1 (71))), (1, .int v1)] [] J) (hR : Rt X E cX6_findLeast none none r) (hf : f_X6_findLeast_74 k I v1 v2 sh11 = some r) : V X E 3 74 [(0, .ref (E.2.1 (71))), (1, .int v1), (2, .int v2)] [] I := by
  unfold f_X6_findLeast_74 at hf
  refine V_aload_n (pc := 74) hC 0 dX6_findLeast_74 rfl rfl ?_
  refine gf_X6_39 (pc := 75) hC dX6_findLeast_75 ?_
  refine V_iload_n (pc := 78) hC 2 dX6_findLeast_78 rfl rfl ?_
  refine V_iload_n (pc := 79) hC 1 dX6_findLeast_79 rfl rfl ?_
  obtain ⟨h11, hf⟩ := if_some hf
  refine V_iast (pc := 80) hC ia_81 (inB_of h11) dX6_findLeast_80 ?_
  refine V_aload_n (pc := 81) hC 0 dX6_findLeast_81 rfl rfl ?_
  refine V_dup (pc := 82) hC dX6_findLeast_82 rfl ?_
  refine gf_X6_117 (pc := 83) hC dX6_findLeast_83 ?_
  refine V_iconst (pc := 86) hC dX6_findLeast_86 (v := (nI 1)) (by decide) ?_
  refine V_iadd (pc := 87) hC dX6_findLeast_87 ?_
  obtain ⟨J12, eJ12, hf⟩ := bind_some hf
  have eJ12 := Option.some.inj eJ12
  refine pf_X6_117 (pc := 88) hC dX6_findLeast_88 ?_
  rw [eJ12]
  refine V_iinc (pc := 91) (lv' := [(1, .int (v1 + (nI 1))), (0, .ref (E.2.1 (71))), (2, .int v2)]) hC (nI 1) 1 dX6_findLeast_91 rfl (by decide) (by decide) rfl ?_
  refine V_goto (pc := 94) (tgt := 11) hC dX6_findLeast_94 (by decide) ?_
  refine V_sub (pc := 11) (lv' := [(0, .ref (E.2.1 (71))), (1, .int (v1 + (nI 1)))]) [1, 0] rfl ?_
  exact hs11 (v1 + (nI 1)) J12 hf
def f_X6_findLeast_34 (k : Nat) (v1 : Int32) (sh11 : Int32 → Mem → Option (Mem)) : Nat → Int32 → Mem → Option (Mem)
  | 0, _, _ => none
  | n + 1, v2, I => (if v2 ≤ 0 then f_X6_findLeast_74 k I v1 v2 sh11 else (if inB (v2 - (nI 1)) 1024 = true then (Option.bind (f_X6_isAhead k v1 (I (81) (Int32.toNatClampNeg (v2 - (nI 1)))) I) (fun r7 => (if r7 = 0 then f_X6_findLeast_74 k I v1 v2 sh11 else (if inB (v2 - (nI 1)) 1024 = true then (if inB v2 1024 = true then (f_X6_findLeast_34 k v1 sh11 n) (v2 + (-1 : Int32)) (up2 I (81) (Int32.toNatClampNeg v2) (I (81) (Int32.toNatClampNeg (v2 - (nI 1))))) else none) else none)))) else none))
set_option maxHeartbeats 4000000 in
set_option maxRecDepth 100000 in
theorem b_X6_findLeast_34 {X : XT} {E : EN} {k : Nat} {v1 : Int32} {sh11 : Int32 → Mem → Option (Mem)} {r : Mem} (hC : Cx X E cX6_findLeast 3 RX6 5 109) (hs11 : ∀ (v1 : Int32) (J : Mem), sh11 v1 J = some r → V X E 3 11 [(0, .ref (E.2.1 (71))), (1, .int v1)] [] J) (hR : Rt X E cX6_findLeast none none r) : ∀ (n : Nat) (v2 : Int32) (I : Mem), f_X6_findLeast_34 k v1 sh11 n v2 I = some r → V X E 3 34 [(0, .ref (E.2.1 (71))), (1, .int v1), (2, .int v2)] [] I := by
  intro n
  induction n with
  | zero =>
    intro v2 I hf
    rw [f_X6_findLeast_34] at hf
    cases hf
  | succ n ih =>
    intro v2 I hf
    rw [f_X6_findLeast_34] at hf
    refine V_iload_n (pc := 34) hC 2 dX6_findLeast_34 rfl rfl ?_
    refine V_if_le (pc := 35) (tgt := 74) hC dX6_findLeast_35 (by decide) (fun c5 => ?_) (fun c5 => ?_)
    · have hf := ite_t hf c5
      exact b_X6_findLeast_74 hC hs11 hR hf
    · have hf := ite_f hf c5
      refine V_aload_n (pc := 38) hC 0 dX6_findLeast_38 rfl rfl ?_
      refine V_iload_n (pc := 39) hC 1 dX6_findLeast_39 rfl rfl ?_
      refine V_aload_n (pc := 40) hC 0 dX6_findLeast_40 rfl rfl ?_
      refine gf_X6_39 (pc := 41) hC dX6_findLeast_41 ?_
      refine V_iload_n (pc := 44) hC 2 dX6_findLeast_44 rfl rfl ?_
      refine V_iconst (pc := 45) hC dX6_findLeast_45 (v := (nI 1)) (by decide) ?_
      refine V_isub (pc := 46) hC dX6_findLeast_46 ?_
      obtain ⟨h6, hf⟩ := if_some hf
      refine V_iald (pc := 47) hC ia_81 (inB_of h6) dX6_findLeast_47 ?_
      obtain ⟨r7, g7, hf⟩ := bind_some hf
      refine V_callV (pc := 48) (rest := []) (As := [.int v1, .int (I (81) (Int32.toNatClampNeg (v2 - (nI 1))))]) hC lk_X6_123 (by decide) cel_X6 rfl (c_X6_isAhead  g7) rfl rfl (Nat.le_of_ble_eq_true rfl) (by decide) dX6_findLeast_48 ?_
      change V X E 3 51 [(0, .ref (E.2.1 (71))), (1, .int v1), (2, .int v2)] [.int r7] I
      refine V_if_eq (pc := 51) (tgt := 74) hC dX6_findLeast_51 (by decide) (fun c8 => ?_) (fun c8 => ?_)
      · have hf := ite_t hf c8
        exact b_X6_findLeast_74 hC hs11 hR hf
      · have hf := ite_f hf c8
        refine V_aload_n (pc := 54) hC 0 dX6_findLeast_54 rfl rfl ?_
        refine gf_X6_39 (pc := 55) hC dX6_findLeast_55 ?_
        refine V_iload_n (pc := 58) hC 2 dX6_findLeast_58 rfl rfl ?_
        refine V_aload_n (pc := 59) hC 0 dX6_findLeast_59 rfl rfl ?_
        refine gf_X6_39 (pc := 60) hC dX6_findLeast_60 ?_
        refine V_iload_n (pc := 63) hC 2 dX6_findLeast_63 rfl rfl ?_
        refine V_iconst (pc := 64) hC dX6_findLeast_64 (v := (nI 1)) (by decide) ?_
        refine V_isub (pc := 65) hC dX6_findLeast_65 ?_
        obtain ⟨h9, hf⟩ := if_some hf
        refine V_iald (pc := 66) hC ia_81 (inB_of h9) dX6_findLeast_66 ?_
        obtain ⟨h10, hf⟩ := if_some hf
        refine V_iast (pc := 67) hC ia_81 (inB_of h10) dX6_findLeast_67 ?_
        refine V_iinc (pc := 68) (lv' := [(2, .int (v2 + (-1 : Int32))), (0, .ref (E.2.1 (71))), (1, .int v1)]) hC (-1 : Int32) 2 dX6_findLeast_68 rfl (by decide) (by decide) rfl ?_
        refine V_goto (pc := 71) (tgt := 34) hC dX6_findLeast_71 (by decide) ?_
        refine V_sub (pc := 34) (lv' := [(0, .ref (E.2.1 (71))), (1, .int v1), (2, .int (v2 + (-1 : Int32)))]) [1, 2, 0] rfl ?_
        exact ih (v2 + (-1 : Int32)) (up2 I (81) (Int32.toNatClampNeg v2) (I (81) (Int32.toNatClampNeg (v2 - (nI 1))))) hf
def f_X6_findLeast_11 (k : Nat) : Nat → Int32 → Mem → Option (Mem)
  | 0, _, _ => none
  | n + 1, v1, I => (if ((nI 1) <<< ((I (71) 8) &&& 31)) ≤ v1 then some I else (Option.bind (f_X6_isLeast k v1 I) (fun r3 => (if r3 = 0 then (f_X6_findLeast_11 k n) (v1 + (nI 1)) I else f_X6_findLeast_34 k v1 (f_X6_findLeast_11 k n) k (I (71) 17) I))))
set_option maxHeartbeats 4000000 in
set_option maxRecDepth 100000 in
theorem b_X6_findLeast_11 {X : XT} {E : EN} {k : Nat} {r : Mem} (hC : Cx X E cX6_findLeast 3 RX6 5 109) (hR : Rt X E cX6_findLeast none none r) : ∀ (n : Nat) (v1 : Int32) (I : Mem), f_X6_findLeast_11 k n v1 I = some r → V X E 3 11 [(0, .ref (E.2.1 (71))), (1, .int v1)] [] I := by
  intro n
  induction n with
  | zero =>
    intro v1 I hf
    rw [f_X6_findLeast_11] at hf
    cases hf
  | succ n ih =>
    intro v1 I hf
    rw [f_X6_findLeast_11] at hf
    refine V_iload_n (pc := 11) hC 1 dX6_findLeast_11 rfl rfl ?_
    refine V_iconst (pc := 12) hC dX6_findLeast_12 (v := (nI 1)) (by decide) ?_
    refine V_aload_n (pc := 13) hC 0 dX6_findLeast_13 rfl rfl ?_
    refine gf_X6_77 (pc := 14) hC dX6_findLeast_14 ?_
    refine V_ishl (pc := 17) hC dX6_findLeast_17 ?_
    refine V_icmp_ge (pc := 18) (tgt := 97) hC dX6_findLeast_18 (by decide) (fun c2 => ?_) (fun c2 => ?_)
    · have hf := ite_t hf c2
      have hf := Option.some.inj hf; subst hf
      exact V_return (pc := 97) hR trivial dX6_findLeast_97
    · have hf := ite_f hf c2
      refine V_aload_n (pc := 21) hC 0 dX6_findLeast_21 rfl rfl ?_
      refine V_iload_n (pc := 22) hC 1 dX6_findLeast_22 rfl rfl ?_
      obtain ⟨r3, g3, hf⟩ := bind_some hf
      refine V_callV (pc := 23) (rest := []) (As := [.int v1]) hC lk_X6_120 (by decide) cel_X6 rfl (c_X6_isLeast  g3) rfl rfl (Nat.le_of_ble_eq_true rfl) (by decide) dX6_findLeast_23 ?_
      change V X E 3 26 [(0, .ref (E.2.1 (71))), (1, .int v1)] [.int r3] I
      refine V_if_eq (pc := 26) (tgt := 91) hC dX6_findLeast_26 (by decide) (fun c4 => ?_) (fun c4 => ?_)
      · have hf := ite_t hf c4
        refine V_iinc (pc := 91) (lv' := [(1, .int (v1 + (nI 1))), (0, .ref (E.2.1 (71)))]) hC (nI 1) 1 dX6_findLeast_91 rfl (by decide) (by decide) rfl ?_
        refine V_goto (pc := 94) (tgt := 11) hC dX6_findLeast_94 (by decide) ?_
        refine V_sub (pc := 11) (lv' := [(0, .ref (E.2.1 (71))), (1, .int (v1 + (nI 1)))]) [1, 0] rfl ?_
        exact ih (v1 + (nI 1)) I hf
      · have hf := ite_f hf c4
        refine V_aload_n (pc := 29) hC 0 dX6_findLeast_29 rfl rfl ?_
        refine gf_X6_117 (pc := 30) hC dX6_findLeast_30 ?_
        refine V_istore_n (pc := 33) (lv' := [(2, .int (I (71) 17)), (0, .ref (E.2.1 (71))), (1, .int v1)]) hC dX6_findLeast_33 rfl (by decide) rfl ?_
        refine V_sub (pc := 34) (lv' := [(0, .ref (E.2.1 (71))), (1, .int v1), (2, .int (I (71) 17))]) [1, 2, 0] rfl ?_
        exact b_X6_findLeast_34 hC ih hR k (I (71) 17) I hf
def f_X6_findLeast (k : Nat) (I : Mem) : Option (Mem) := (Option.bind (f_X6_findNow k I) (fun r1 => f_X6_findLeast_11 k k (nI 0) (up2 r1 (71) 17 (nI 0))))
set_option maxHeartbeats 4000000 in
set_option maxRecDepth 100000 in
theorem c_X6_findLeast {E : EN} {k : Nat} {I : Mem} {r : Mem} (hf : f_X6_findLeast k I = some r) : Ct E yX6_findLeast cX6_findLeast 3 none 5 109 [.ref (E.2.1 (71))] I none r := by
  refine Ct_of (by decide) (Nat.le_of_ble_eq_true rfl) (fun X hC0 hR => ?_)
  have hC : Cx X E cX6_findLeast 3 RX6 5 109 := hC0
  change V X E 3 0 [(0, .ref (E.2.1 (71)))] [] I
  unfold f_X6_findLeast at hf
  refine V_aload_n (pc := 0) hC 0 dX6_findLeast_0 rfl rfl ?_
  obtain ⟨r1, g1, hf⟩ := bind_some hf
  refine V_callV (pc := 1) (rest := []) (As := []) hC lk_X6_114 (by decide) cel_X6 rfl (c_X6_findNow  g1) rfl rfl (Nat.le_of_ble_eq_true rfl) (by decide) dX6_findLeast_1 ?_
  change V X E 3 4 [(0, .ref (E.2.1 (71)))] [] r1
  refine V_aload_n (pc := 4) hC 0 dX6_findLeast_4 rfl rfl ?_
  refine V_iconst (pc := 5) hC dX6_findLeast_5 (v := (nI 0)) (by decide) ?_
  refine pf_X6_117 (pc := 6) hC dX6_findLeast_6 ?_
  refine V_iconst (pc := 9) hC dX6_findLeast_9 (v := (nI 0)) (by decide) ?_
  refine V_istore_n (pc := 10) (lv' := [(1, .int (nI 0)), (0, .ref (E.2.1 (71)))]) hC dX6_findLeast_10 rfl (by decide) rfl ?_
  refine V_sub (pc := 11) (lv' := [(0, .ref (E.2.1 (71))), (1, .int (nI 0))]) [1, 0] rfl ?_
  exact b_X6_findLeast_11 hC hR k (nI 0) (up2 r1 (71) 17 (nI 0)) hf
