def f_X6_type (k : Nat) (v1 : Int32) (I : Mem) : Option (Int32 × Mem) := (if (I (71) 6) = (nI 60) then some ((-3 : Int32), I) else (if inB (I (71) 6) 60 = true then (Option.bind (some (up2 (up2 I (75) (Int32.toNatClampNeg (I (71) 6)) (vp_nar .char v1)) (71) 6 (((up2 I (75) (Int32.toNatClampNeg (I (71) 6)) (vp_nar .char v1)) (71) 6) + (nI 1)))) (fun J3 => some (J3 (71) 6, J3))) else none))
set_option maxHeartbeats 4000000 in
set_option maxRecDepth 100000 in
theorem c_X6_type {E : EN} {k : Nat} {v1 : Int32} {I : Mem} {r : Int32 × Mem} (hf : f_X6_type k v1 I = some r) : Ct E yX6_type cX6_type 2 (some .int) 0 0 [.ref (E.2.1 (71)), .int v1] I (some (.int r.1)) r.2 := by
  refine Ct_of (by decide) (Nat.le_of_ble_eq_true rfl) (fun X hC0 hR => ?_)
  have hC : Cx X E cX6_type 2 RX6 0 0 := hC0
  change V X E 2 0 [(0, .ref (E.2.1 (71))), (1, .int v1)] [] I
  unfold f_X6_type at hf
  refine V_aload_n (pc := 0) hC 0 dX6_type_0 rfl rfl ?_
  refine gf_X6_126 (pc := 1) hC dX6_type_1 ?_
  refine V_bipush (pc := 4) hC dX6_type_4 (v := (nI 60)) (by decide) ?_
  refine V_icmp_ne (pc := 6) (tgt := 12) hC dX6_type_6 (by decide) (fun c1 => ?_) (fun c1 => ?_)
  · have hf := ite_f hf c1
    refine V_aload_n (pc := 12) hC 0 dX6_type_12 rfl rfl ?_
    refine gf_X6_19 (pc := 13) hC dX6_type_13 ?_
    refine V_aload_n (pc := 16) hC 0 dX6_type_16 rfl rfl ?_
    refine gf_X6_126 (pc := 17) hC dX6_type_17 ?_
    refine V_iload_n (pc := 20) hC 1 dX6_type_20 rfl rfl ?_
    obtain ⟨h2, hf⟩ := if_some hf
    refine V_cast (pc := 21) hC ca_75 (inB_of h2) dX6_type_21 ?_
    refine V_aload_n (pc := 22) hC 0 dX6_type_22 rfl rfl ?_
    refine V_dup (pc := 23) hC dX6_type_23 rfl ?_
    refine gf_X6_126 (pc := 24) hC dX6_type_24 ?_
    refine V_iconst (pc := 27) hC dX6_type_27 (v := (nI 1)) (by decide) ?_
    refine V_iadd (pc := 28) hC dX6_type_28 ?_
    obtain ⟨J3, eJ3, hf⟩ := bind_some hf
    have eJ3 := Option.some.inj eJ3
    refine pf_X6_126 (pc := 29) hC dX6_type_29 ?_
    rw [eJ3]
    refine V_aload_n (pc := 32) hC 0 dX6_type_32 rfl rfl ?_
    refine gf_X6_126 (pc := 33) hC dX6_type_33 ?_
    have hf := Option.some.inj hf; subst hf
    exact V_ireturn (pc := 36) hR rfl dX6_type_36
  · have hf := ite_t hf c1
    refine V_bipush (pc := 9) hC dX6_type_9 (v := (-3 : Int32)) (by decide) ?_
    have hf := Option.some.inj hf; subst hf
    exact V_ireturn (pc := 11) hR rfl dX6_type_11
def f_X6_clearText (k : Nat) (I : Mem) : Option (Int32 × Mem) := some (I (71) 6, up2 I (71) 6 (nI 0))
set_option maxHeartbeats 4000000 in
set_option maxRecDepth 100000 in
theorem c_X6_clearText {E : EN} {k : Nat} {I : Mem} {r : Int32 × Mem} (hf : f_X6_clearText k I = some r) : Ct E yX6_clearText cX6_clearText 2 (some .int) 0 0 [.ref (E.2.1 (71))] I (some (.int r.1)) r.2 := by
  refine Ct_of (by decide) (Nat.le_of_ble_eq_true rfl) (fun X hC0 hR => ?_)
  have hC : Cx X E cX6_clearText 2 RX6 0 0 := hC0
  change V X E 2 0 [(0, .ref (E.2.1 (71)))] [] I
  unfold f_X6_clearText at hf
  refine V_aload_n (pc := 0) hC 0 dX6_clearText_0 rfl rfl ?_
  refine gf_X6_126 (pc := 1) hC dX6_clearText_1 ?_
  refine V_istore_n (pc := 4) (lv' := [(1, .int (I (71) 6)), (0, .ref (E.2.1 (71)))]) hC dX6_clearText_4 rfl (by decide) rfl ?_
  refine V_aload_n (pc := 5) hC 1 dX6_clearText_5 rfl rfl ?_
  refine V_iconst (pc := 6) hC dX6_clearText_6 (v := (nI 0)) (by decide) ?_
  refine pf_X6_126 (pc := 7) hC dX6_clearText_7 ?_
  refine V_iload_n (pc := 10) hC 0 dX6_clearText_10 rfl rfl ?_
  have hf := Option.some.inj hf; subst hf
  exact V_ireturn (pc := 11) hR rfl dX6_clearText_11
def f_X6_leader_12 (k : Nat) (I : Mem) (v1 : Int32) : Nat → Int32 → Int32 → Option (Int32)
  | 0, _, _ => none
  | n + 1, v2, v3 => (if (I (72) (Int32.toNatClampNeg (nI 0))) ≤ v3 then some v2 else (if inB ((nI 49) + v3) 69 = true then (if inB ((nI 49) + v1) 69 = true then (if (I (72) (Int32.toNatClampNeg ((nI 49) + v3))) = (I (72) (Int32.toNatClampNeg ((nI 49) + v1))) then (if inB ((nI 29) + v3) 69 = true then (if inB ((nI 29) + v2) 69 = true then (if (I (72) (Int32.toNatClampNeg ((nI 29) + v3))) ≤ (I (72) (Int32.toNatClampNeg ((nI 29) + v2))) then (f_X6_leader_12 k I v1 n) v2 (v3 + (nI 1)) else (f_X6_leader_12 k I v1 n) v3 (v3 + (nI 1))) else none) else none) else (f_X6_leader_12 k I v1 n) v2 (v3 + (nI 1))) else none) else none))
set_option maxHeartbeats 4000000 in
set_option maxRecDepth 100000 in
theorem b_X6_leader_12 {X : XT} {E : EN} {k : Nat} {I : Mem} {v1 : Int32} {r : Int32} (hC : Cx X E cX6_leader 4 RX6 0 0) (hR : Rt X E cX6_leader (some .int) (some (.int r)) I) : ∀ (n : Nat) (v2 : Int32) (v3 : Int32), f_X6_leader_12 k I v1 n v2 v3 = some r → V X E 4 12 [(0, .ref (E.2.1 (71))), (1, .int v1), (2, .int v2), (3, .int v3)] [] I := by
  intro n
  induction n with
  | zero =>
    intro v2 v3 hf
    rw [f_X6_leader_12] at hf
    cases hf
  | succ n ih =>
    intro v2 v3 hf
    rw [f_X6_leader_12] at hf
    refine V_iload_n (pc := 12) hC 3 dX6_leader_12 rfl rfl ?_
    refine V_aload_n (pc := 13) hC 0 dX6_leader_13 rfl rfl ?_
    refine gf_X6_7 (pc := 14) hC dX6_leader_14 ?_
    refine V_iconst (pc := 17) hC dX6_leader_17 (v := (nI 0)) (by decide) ?_
    refine V_iald (pc := 18) hC ia_72 (inB_of (by decide)) dX6_leader_18 ?_
    refine V_icmp_ge (pc := 19) (tgt := 76) hC dX6_leader_19 (by decide) (fun c2 => ?_) (fun c2 => ?_)
    · have hf := ite_t hf c2
      refine V_iload_n (pc := 76) hC 2 dX6_leader_76 rfl rfl ?_
      have hf := Option.some.inj hf; subst hf
      exact V_ireturn (pc := 77) hR rfl dX6_leader_77
    · have hf := ite_f hf c2
      refine V_aload_n (pc := 22) hC 0 dX6_leader_22 rfl rfl ?_
      refine gf_X6_7 (pc := 23) hC dX6_leader_23 ?_
      refine V_bipush (pc := 26) hC dX6_leader_26 (v := (nI 49)) (by decide) ?_
      refine V_iload_n (pc := 28) hC 3 dX6_leader_28 rfl rfl ?_
      refine V_iadd (pc := 29) hC dX6_leader_29 ?_
      obtain ⟨h3, hf⟩ := if_some hf
      refine V_iald (pc := 30) hC ia_72 (inB_of h3) dX6_leader_30 ?_
      refine V_aload_n (pc := 31) hC 0 dX6_leader_31 rfl rfl ?_
      refine gf_X6_7 (pc := 32) hC dX6_leader_32 ?_
      refine V_bipush (pc := 35) hC dX6_leader_35 (v := (nI 49)) (by decide) ?_
      refine V_iload_n (pc := 37) hC 1 dX6_leader_37 rfl rfl ?_
      refine V_iadd (pc := 38) hC dX6_leader_38 ?_
      obtain ⟨h4, hf⟩ := if_some hf
      refine V_iald (pc := 39) hC ia_72 (inB_of h4) dX6_leader_39 ?_
      refine V_icmp_ne (pc := 40) (tgt := 68) hC dX6_leader_40 (by decide) (fun c5 => ?_) (fun c5 => ?_)
      · have hf := ite_f hf c5
        refine V_iload_n (pc := 68) hC 2 dX6_leader_68 rfl rfl ?_
        refine V_istore_n (pc := 69) (lv' := [(2, .int v2), (0, .ref (E.2.1 (71))), (1, .int v1), (3, .int v3)]) hC dX6_leader_69 rfl (by decide) rfl ?_
        refine V_iinc (pc := 70) (lv' := [(3, .int (v3 + (nI 1))), (2, .int v2), (0, .ref (E.2.1 (71))), (1, .int v1)]) hC (nI 1) 3 dX6_leader_70 rfl (by decide) (by decide) rfl ?_
        refine V_goto (pc := 73) (tgt := 12) hC dX6_leader_73 (by decide) ?_
        refine V_sub (pc := 12) (lv' := [(0, .ref (E.2.1 (71))), (1, .int v1), (2, .int v2), (3, .int (v3 + (nI 1)))]) [2, 3, 1, 0] rfl ?_
        exact ih v2 (v3 + (nI 1)) hf
      · have hf := ite_t hf c5
        refine V_aload_n (pc := 43) hC 0 dX6_leader_43 rfl rfl ?_
        refine gf_X6_7 (pc := 44) hC dX6_leader_44 ?_
        refine V_bipush (pc := 47) hC dX6_leader_47 (v := (nI 29)) (by decide) ?_
        refine V_iload_n (pc := 49) hC 3 dX6_leader_49 rfl rfl ?_
        refine V_iadd (pc := 50) hC dX6_leader_50 ?_
        obtain ⟨h6, hf⟩ := if_some hf
        refine V_iald (pc := 51) hC ia_72 (inB_of h6) dX6_leader_51 ?_
        refine V_aload_n (pc := 52) hC 0 dX6_leader_52 rfl rfl ?_
        refine gf_X6_7 (pc := 53) hC dX6_leader_53 ?_
        refine V_bipush (pc := 56) hC dX6_leader_56 (v := (nI 29)) (by decide) ?_
        refine V_iload_n (pc := 58) hC 2 dX6_leader_58 rfl rfl ?_
        refine V_iadd (pc := 59) hC dX6_leader_59 ?_
        obtain ⟨h7, hf⟩ := if_some hf
        refine V_iald (pc := 60) hC ia_72 (inB_of h7) dX6_leader_60 ?_
        refine V_icmp_le (pc := 61) (tgt := 68) hC dX6_leader_61 (by decide) (fun c8 => ?_) (fun c8 => ?_)
        · have hf := ite_t hf c8
          refine V_iload_n (pc := 68) hC 2 dX6_leader_68 rfl rfl ?_
          refine V_istore_n (pc := 69) (lv' := [(2, .int v2), (0, .ref (E.2.1 (71))), (1, .int v1), (3, .int v3)]) hC dX6_leader_69 rfl (by decide) rfl ?_
          refine V_iinc (pc := 70) (lv' := [(3, .int (v3 + (nI 1))), (2, .int v2), (0, .ref (E.2.1 (71))), (1, .int v1)]) hC (nI 1) 3 dX6_leader_70 rfl (by decide) (by decide) rfl ?_
          refine V_goto (pc := 73) (tgt := 12) hC dX6_leader_73 (by decide) ?_
          refine V_sub (pc := 12) (lv' := [(0, .ref (E.2.1 (71))), (1, .int v1), (2, .int v2), (3, .int (v3 + (nI 1)))]) [2, 3, 1, 0] rfl ?_
          exact ih v2 (v3 + (nI 1)) hf
        · have hf := ite_f hf c8
          refine V_iload_n (pc := 64) hC 3 dX6_leader_64 rfl rfl ?_
          refine V_goto (pc := 65) (tgt := 69) hC dX6_leader_65 (by decide) ?_
          refine V_istore_n (pc := 69) (lv' := [(2, .int v3), (0, .ref (E.2.1 (71))), (1, .int v1), (3, .int v3)]) hC dX6_leader_69 rfl (by decide) rfl ?_
          refine V_iinc (pc := 70) (lv' := [(3, .int (v3 + (nI 1))), (2, .int v3), (0, .ref (E.2.1 (71))), (1, .int v1)]) hC (nI 1) 3 dX6_leader_70 rfl (by decide) (by decide) rfl ?_
          refine V_goto (pc := 73) (tgt := 12) hC dX6_leader_73 (by decide) ?_
          refine V_sub (pc := 12) (lv' := [(0, .ref (E.2.1 (71))), (1, .int v1), (2, .int v3), (3, .int (v3 + (nI 1)))]) [2, 3, 1, 0] rfl ?_
          exact ih v3 (v3 + (nI 1)) hf
def f_X6_leader (k : Nat) (v1 : Int32) (I : Mem) : Option (Int32) := (if inB ((nI 49) + v1) 69 = true then f_X6_leader_12 k I v1 k (I (72) (Int32.toNatClampNeg ((nI 49) + v1))) (nI 0) else none)
set_option maxHeartbeats 4000000 in
set_option maxRecDepth 100000 in
theorem c_X6_leader {E : EN} {k : Nat} {v1 : Int32} {I : Mem} {r : Int32} (hf : f_X6_leader k v1 I = some r) : Ct E yX6_leader cX6_leader 4 (some .int) 0 0 [.ref (E.2.1 (71)), .int v1] I (some (.int r)) I := by
  refine Ct_of (by decide) (Nat.le_of_ble_eq_true rfl) (fun X hC0 hR => ?_)
  have hC : Cx X E cX6_leader 4 RX6 0 0 := hC0
  change V X E 4 0 [(0, .ref (E.2.1 (71))), (1, .int v1)] [] I
  unfold f_X6_leader at hf
  refine V_aload_n (pc := 0) hC 0 dX6_leader_0 rfl rfl ?_
  refine gf_X6_7 (pc := 1) hC dX6_leader_1 ?_
  refine V_bipush (pc := 4) hC dX6_leader_4 (v := (nI 49)) (by decide) ?_
  refine V_iload_n (pc := 6) hC 1 dX6_leader_6 rfl rfl ?_
  refine V_iadd (pc := 7) hC dX6_leader_7 ?_
  obtain ⟨h1, hf⟩ := if_some hf
  refine V_iald (pc := 8) hC ia_72 (inB_of h1) dX6_leader_8 ?_
  refine V_istore_n (pc := 9) (lv' := [(2, .int (I (72) (Int32.toNatClampNeg ((nI 49) + v1)))), (0, .ref (E.2.1 (71))), (1, .int v1)]) hC dX6_leader_9 rfl (by decide) rfl ?_
  refine V_iconst (pc := 10) hC dX6_leader_10 (v := (nI 0)) (by decide) ?_
  refine V_istore_n (pc := 11) (lv' := [(3, .int (nI 0)), (2, .int (I (72) (Int32.toNatClampNeg ((nI 49) + v1)))), (0, .ref (E.2.1 (71))), (1, .int v1)]) hC dX6_leader_11 rfl (by decide) rfl ?_
  refine V_sub (pc := 12) (lv' := [(0, .ref (E.2.1 (71))), (1, .int v1), (2, .int (I (72) (Int32.toNatClampNeg ((nI 49) + v1)))), (3, .int (nI 0))]) [2, 3, 1, 0] rfl ?_
  exact b_X6_leader_12 hC hR k (I (72) (Int32.toNatClampNeg ((nI 49) + v1))) (nI 0) hf
def f_X6_holdBallot_285 (k : Nat) (I : Mem) (v4 : Int32) (w0 : Int32) (w1 : Int32) : Option (Int32 × Mem) := (if inB w1 69 = true then (Option.bind (some (up2 (up2 I (72) (Int32.toNatClampNeg w1) w0) (72) (Int32.toNatClampNeg (nI 2)) (((up2 I (72) (Int32.toNatClampNeg w1) w0) (72) (Int32.toNatClampNeg (nI 2))) + (nI 1)))) (fun J30 => (if v4 = 0 then (Option.bind (some (up2 J30 (72) (Int32.toNatClampNeg (nI 3)) ((J30 (72) (Int32.toNatClampNeg (nI 3))) + (nI 0)))) (fun J32 => (if vp_nar .boolean v4 = v4 then some (v4, J32) else none))) else (Option.bind (some (up2 J30 (72) (Int32.toNatClampNeg (nI 3)) ((J30 (72) (Int32.toNatClampNeg (nI 3))) + (nI 1)))) (fun J34 => (if vp_nar .boolean v4 = v4 then some (v4, J34) else none)))))) else none)
set_option maxHeartbeats 4000000 in
set_option maxRecDepth 100000 in
theorem b_X6_holdBallot_285 {X : XT} {E : EN} {k : Nat} {I : Mem} {v4 : Int32} {w0 : Int32} {w1 : Int32} {r : Int32 × Mem} (hC : Cx X E cX6_holdBallot 7 RX6 3 66) (hR : Rt X E cX6_holdBallot (some .boolean) (some (.int r.1)) r.2) (hf : f_X6_holdBallot_285 k I v4 w0 w1 = some r) : V X E 7 285 [(0, .ref (E.2.1 (71))), (4, .int v4)] [.int w0, .int w1, .ref (E.2.1 (72))] I := by
  unfold f_X6_holdBallot_285 at hf
  obtain ⟨h29, hf⟩ := if_some hf
  refine V_iast (pc := 285) hC ia_72 (inB_of h29) dX6_holdBallot_285 ?_
  refine V_aload_n (pc := 286) hC 0 dX6_holdBallot_286 rfl rfl ?_
  refine gf_X6_7 (pc := 287) hC dX6_holdBallot_287 ?_
  refine V_iconst (pc := 290) hC dX6_holdBallot_290 (v := (nI 2)) (by decide) ?_
  refine V_dup2 (pc := 291) hC dX6_holdBallot_291 rfl rfl ?_
  refine V_iald (pc := 292) hC ia_72 (inB_of (by decide)) dX6_holdBallot_292 ?_
  refine V_iconst (pc := 293) hC dX6_holdBallot_293 (v := (nI 1)) (by decide) ?_
  refine V_iadd (pc := 294) hC dX6_holdBallot_294 ?_
  obtain ⟨J30, eJ30, hf⟩ := bind_some hf
  have eJ30 := Option.some.inj eJ30
  refine V_iast (pc := 295) hC ia_72 (inB_of (by decide)) dX6_holdBallot_295 ?_
  rw [eJ30]
  refine V_aload_n (pc := 296) hC 0 dX6_holdBallot_296 rfl rfl ?_
  refine gf_X6_7 (pc := 297) hC dX6_holdBallot_297 ?_
  refine V_iconst (pc := 300) hC dX6_holdBallot_300 (v := (nI 3)) (by decide) ?_
  refine V_dup2 (pc := 301) hC dX6_holdBallot_301 rfl rfl ?_
  refine V_iald (pc := 302) hC ia_72 (inB_of (by decide)) dX6_holdBallot_302 ?_
  refine V_iload (pc := 303) hC 1 dX6_holdBallot_303 rfl ?_
  refine V_if_eq (pc := 305) (tgt := 312) hC dX6_holdBallot_305 (by decide) (fun c31 => ?_) (fun c31 => ?_)
  · have hf := ite_t hf c31
    refine V_iconst (pc := 312) hC dX6_holdBallot_312 (v := (nI 0)) (by decide) ?_
    refine V_iadd (pc := 313) hC dX6_holdBallot_313 ?_
    obtain ⟨J32, eJ32, hf⟩ := bind_some hf
    have eJ32 := Option.some.inj eJ32
    refine V_iast (pc := 314) hC ia_72 (inB_of (by decide)) dX6_holdBallot_314 ?_
    rw [eJ32]
    refine V_iload (pc := 315) hC 1 dX6_holdBallot_315 rfl ?_
    obtain ⟨h33, hf⟩ := if_some hf
    have hf := Option.some.inj hf; subst hf
    exact V_ireturn (pc := 317) hR (nar_z h33) dX6_holdBallot_317
  · have hf := ite_f hf c31
    refine V_iconst (pc := 308) hC dX6_holdBallot_308 (v := (nI 1)) (by decide) ?_
    refine V_goto (pc := 309) (tgt := 313) hC dX6_holdBallot_309 (by decide) ?_
    refine V_iadd (pc := 313) hC dX6_holdBallot_313 ?_
    obtain ⟨J34, eJ34, hf⟩ := bind_some hf
    have eJ34 := Option.some.inj eJ34
    refine V_iast (pc := 314) hC ia_72 (inB_of (by decide)) dX6_holdBallot_314 ?_
    rw [eJ34]
    refine V_iload (pc := 315) hC 1 dX6_holdBallot_315 rfl ?_
    obtain ⟨h35, hf⟩ := if_some hf
    have hf := Option.some.inj hf; subst hf
    exact V_ireturn (pc := 317) hR (nar_z h35) dX6_holdBallot_317
def f_X6_holdBallot_235 (k : Nat) (I : Mem) (v2 : Int32) (v3 : Int32) (v4 : Int32) (w0 : Int32) (w1 : Int32) : Option (Int32 × Mem) := (if inB w1 69 = true then (Option.bind (f_X6_weightOf k v2 (up2 I (72) (Int32.toNatClampNeg w1) w0)) (fun r26 => (Option.bind (some (up2 (up2 (up2 I (72) (Int32.toNatClampNeg w1) w0) (72) (Int32.toNatClampNeg (nI 6)) r26) (72) (Int32.toNatClampNeg (nI 7)) v3)) (fun J27 => (if (nI 8) ≤ (J27 (72) (Int32.toNatClampNeg (nI 4))) then f_X6_holdBallot_285 k J27 v4 (nI 8) (nI 4) else f_X6_holdBallot_285 k J27 v4 ((J27 (72) (Int32.toNatClampNeg (nI 4))) + (nI 1)) (nI 4)))))) else none)
set_option maxHeartbeats 4000000 in
set_option maxRecDepth 100000 in
theorem b_X6_holdBallot_235 {X : XT} {E : EN} {k : Nat} {I : Mem} {v2 : Int32} {v3 : Int32} {v4 : Int32} {w0 : Int32} {w1 : Int32} {r : Int32 × Mem} (hC : Cx X E cX6_holdBallot 7 RX6 3 66) (hR : Rt X E cX6_holdBallot (some .boolean) (some (.int r.1)) r.2) (hf : f_X6_holdBallot_235 k I v2 v3 v4 w0 w1 = some r) : V X E 7 235 [(0, .ref (E.2.1 (71))), (2, .int v2), (3, .int v3), (4, .int v4)] [.int w0, .int w1, .ref (E.2.1 (72))] I := by
  unfold f_X6_holdBallot_235 at hf
  obtain ⟨h25, hf⟩ := if_some hf
  refine V_iast (pc := 235) hC ia_72 (inB_of h25) dX6_holdBallot_235 ?_
  refine V_aload_n (pc := 236) hC 0 dX6_holdBallot_236 rfl rfl ?_
  refine gf_X6_7 (pc := 237) hC dX6_holdBallot_237 ?_
  refine V_bipush (pc := 240) hC dX6_holdBallot_240 (v := (nI 6)) (by decide) ?_
  refine V_aload_n (pc := 242) hC 0 dX6_holdBallot_242 rfl rfl ?_
  refine V_iload_n (pc := 243) hC 1 dX6_holdBallot_243 rfl rfl ?_
  obtain ⟨r26, g26, hf⟩ := bind_some hf
  refine V_callV (pc := 244) (rest := [.int (nI 6), .ref (E.2.1 (72))]) (As := [.int v2]) hC lk_X6_90 (by decide) cel_X6 rfl (c_X6_weightOf  g26) rfl rfl (Nat.le_of_ble_eq_true rfl) (by decide) dX6_holdBallot_244 ?_
  change V X E 7 247 [(0, .ref (E.2.1 (71))), (2, .int v2), (3, .int v3), (4, .int v4)] [.int r26, .int (nI 6), .ref (E.2.1 (72))] (up2 I (72) (Int32.toNatClampNeg w1) w0)
  refine V_iast (pc := 247) hC ia_72 (inB_of (by decide)) dX6_holdBallot_247 ?_
  refine V_aload_n (pc := 248) hC 0 dX6_holdBallot_248 rfl rfl ?_
  refine gf_X6_7 (pc := 249) hC dX6_holdBallot_249 ?_
  refine V_bipush (pc := 252) hC dX6_holdBallot_252 (v := (nI 7)) (by decide) ?_
  refine V_iload_n (pc := 254) hC 2 dX6_holdBallot_254 rfl rfl ?_
  obtain ⟨J27, eJ27, hf⟩ := bind_some hf
  have eJ27 := Option.some.inj eJ27
  refine V_iast (pc := 255) hC ia_72 (inB_of (by decide)) dX6_holdBallot_255 ?_
  rw [eJ27]
  refine V_aload_n (pc := 256) hC 0 dX6_holdBallot_256 rfl rfl ?_
  refine gf_X6_7 (pc := 257) hC dX6_holdBallot_257 ?_
  refine V_iconst (pc := 260) hC dX6_holdBallot_260 (v := (nI 4)) (by decide) ?_
  refine V_aload_n (pc := 261) hC 0 dX6_holdBallot_261 rfl rfl ?_
  refine gf_X6_7 (pc := 262) hC dX6_holdBallot_262 ?_
  refine V_iconst (pc := 265) hC dX6_holdBallot_265 (v := (nI 4)) (by decide) ?_
  refine V_iald (pc := 266) hC ia_72 (inB_of (by decide)) dX6_holdBallot_266 ?_
  refine V_bipush (pc := 267) hC dX6_holdBallot_267 (v := (nI 8)) (by decide) ?_
  refine V_icmp_ge (pc := 269) (tgt := 283) hC dX6_holdBallot_269 (by decide) (fun c28 => ?_) (fun c28 => ?_)
  · have hf := ite_t hf c28
    refine V_bipush (pc := 283) hC dX6_holdBallot_283 (v := (nI 8)) (by decide) ?_
    refine V_sub (pc := 285) (lv' := [(0, .ref (E.2.1 (71))), (4, .int v4)]) [0, 3] rfl ?_
    exact b_X6_holdBallot_285 hC hR hf
  · have hf := ite_f hf c28
    refine V_aload_n (pc := 272) hC 0 dX6_holdBallot_272 rfl rfl ?_
    refine gf_X6_7 (pc := 273) hC dX6_holdBallot_273 ?_
    refine V_iconst (pc := 276) hC dX6_holdBallot_276 (v := (nI 4)) (by decide) ?_
    refine V_iald (pc := 277) hC ia_72 (inB_of (by decide)) dX6_holdBallot_277 ?_
    refine V_iconst (pc := 278) hC dX6_holdBallot_278 (v := (nI 1)) (by decide) ?_
    refine V_iadd (pc := 279) hC dX6_holdBallot_279 ?_
    refine V_goto (pc := 280) (tgt := 285) hC dX6_holdBallot_280 (by decide) ?_
    refine V_sub (pc := 285) (lv' := [(0, .ref (E.2.1 (71))), (4, .int v4)]) [0, 3] rfl ?_
    exact b_X6_holdBallot_285 hC hR hf
def f_X6_holdBallot_188 (k : Nat) (v2 : Int32) (v3 : Int32) (v4 : Int32) : Nat → Int32 → Mem → Option (Int32 × Mem)
  | 0, _, _ => none
  | n + 1, v5, I => (if v5 ≤ (nI 2) then (if v4 = 0 then f_X6_holdBallot_235 k I v2 v3 v4 (nI 0) (nI 5) else f_X6_holdBallot_235 k I v2 v3 v4 (nI 1) (nI 5)) else (if inB (((nI 5) + v5) - (nI 3)) 69 = true then (if inB ((nI 5) + v5) 69 = true then (Option.bind (some (up2 I (72) (Int32.toNatClampNeg ((nI 5) + v5)) (I (72) (Int32.toNatClampNeg (((nI 5) + v5) - (nI 3)))))) (fun J24 => (f_X6_holdBallot_188 k v2 v3 v4 n) (v5 + (-1 : Int32)) J24)) else none) else none))
set_option maxHeartbeats 4000000 in
set_option maxRecDepth 100000 in
theorem b_X6_holdBallot_188 {X : XT} {E : EN} {k : Nat} {v2 : Int32} {v3 : Int32} {v4 : Int32} {r : Int32 × Mem} (hC : Cx X E cX6_holdBallot 7 RX6 3 66) (hR : Rt X E cX6_holdBallot (some .boolean) (some (.int r.1)) r.2) : ∀ (n : Nat) (v5 : Int32) (I : Mem), f_X6_holdBallot_188 k v2 v3 v4 n v5 I = some r → V X E 7 188 [(0, .ref (E.2.1 (71))), (2, .int v2), (3, .int v3), (4, .int v4), (5, .int v5)] [] I := by
  intro n
  induction n with
  | zero =>
    intro v5 I hf
    rw [f_X6_holdBallot_188] at hf
    cases hf
  | succ n ih =>
    intro v5 I hf
    rw [f_X6_holdBallot_188] at hf
    refine V_iload (pc := 188) hC 4 dX6_holdBallot_188 rfl ?_
    refine V_iconst (pc := 190) hC dX6_holdBallot_190 (v := (nI 2)) (by decide) ?_
    refine V_icmp_le (pc := 191) (tgt := 220) hC dX6_holdBallot_191 (by decide) (fun c20 => ?_) (fun c20 => ?_)
    · have hf := ite_t hf c20
      refine V_aload_n (pc := 220) hC 0 dX6_holdBallot_220 rfl rfl ?_
      refine gf_X6_7 (pc := 221) hC dX6_holdBallot_221 ?_
      refine V_iconst (pc := 224) hC dX6_holdBallot_224 (v := (nI 5)) (by decide) ?_
      refine V_iload (pc := 225) hC 3 dX6_holdBallot_225 rfl ?_
      refine V_if_eq (pc := 227) (tgt := 234) hC dX6_holdBallot_227 (by decide) (fun c21 => ?_) (fun c21 => ?_)
      · have hf := ite_t hf c21
        refine V_iconst (pc := 234) hC dX6_holdBallot_234 (v := (nI 0)) (by decide) ?_
        refine V_sub (pc := 235) (lv' := [(0, .ref (E.2.1 (71))), (2, .int v2), (3, .int v3), (4, .int v4)]) [0, 1, 2, 3] rfl ?_
        exact b_X6_holdBallot_235 hC hR hf
      · have hf := ite_f hf c21
        refine V_iconst (pc := 230) hC dX6_holdBallot_230 (v := (nI 1)) (by decide) ?_
        refine V_goto (pc := 231) (tgt := 235) hC dX6_holdBallot_231 (by decide) ?_
        refine V_sub (pc := 235) (lv' := [(0, .ref (E.2.1 (71))), (2, .int v2), (3, .int v3), (4, .int v4)]) [0, 1, 2, 3] rfl ?_
        exact b_X6_holdBallot_235 hC hR hf
    · have hf := ite_f hf c20
      refine V_aload_n (pc := 194) hC 0 dX6_holdBallot_194 rfl rfl ?_
      refine gf_X6_7 (pc := 195) hC dX6_holdBallot_195 ?_
      refine V_iconst (pc := 198) hC dX6_holdBallot_198 (v := (nI 5)) (by decide) ?_
      refine V_iload (pc := 199) hC 4 dX6_holdBallot_199 rfl ?_
      refine V_iadd (pc := 201) hC dX6_holdBallot_201 ?_
      refine V_aload_n (pc := 202) hC 0 dX6_holdBallot_202 rfl rfl ?_
      refine gf_X6_7 (pc := 203) hC dX6_holdBallot_203 ?_
      refine V_iconst (pc := 206) hC dX6_holdBallot_206 (v := (nI 5)) (by decide) ?_
      refine V_iload (pc := 207) hC 4 dX6_holdBallot_207 rfl ?_
      refine V_iadd (pc := 209) hC dX6_holdBallot_209 ?_
      refine V_iconst (pc := 210) hC dX6_holdBallot_210 (v := (nI 3)) (by decide) ?_
      refine V_isub (pc := 211) hC dX6_holdBallot_211 ?_
      obtain ⟨h22, hf⟩ := if_some hf
      refine V_iald (pc := 212) hC ia_72 (inB_of h22) dX6_holdBallot_212 ?_
      obtain ⟨h23, hf⟩ := if_some hf
      obtain ⟨J24, eJ24, hf⟩ := bind_some hf
      have eJ24 := Option.some.inj eJ24
      refine V_iast (pc := 213) hC ia_72 (inB_of h23) dX6_holdBallot_213 ?_
      rw [eJ24]
      refine V_iinc (pc := 214) (lv' := [(5, .int (v5 + (-1 : Int32))), (0, .ref (E.2.1 (71))), (2, .int v2), (3, .int v3), (4, .int v4)]) hC (-1 : Int32) 4 dX6_holdBallot_214 rfl (by decide) (by decide) rfl ?_
      refine V_goto (pc := 217) (tgt := 188) hC dX6_holdBallot_217 (by decide) ?_
      refine V_sub (pc := 188) (lv' := [(0, .ref (E.2.1 (71))), (2, .int v2), (3, .int v3), (4, .int v4), (5, .int (v5 + (-1 : Int32)))]) [1, 2, 3, 4, 0] rfl ?_
      exact ih (v5 + (-1 : Int32)) J24 hf
def f_X6_holdBallot_175 (k : Nat) (I : Mem) (v2 : Int32) (v3 : Int32) (v4 : Int32) (v5 : Int32) (sh103 : Int32 → Mem → Option (Int32 × Mem)) (w0 : Int32) (w1 : Int32) : Option (Int32 × Mem) := (if inB w1 69 = true then sh103 (v5 + (nI 1)) (up2 I (72) (Int32.toNatClampNeg w1) (w0 + (nI 0))) else none)
set_option maxHeartbeats 4000000 in
set_option maxRecDepth 100000 in
theorem b_X6_holdBallot_175 {X : XT} {E : EN} {k : Nat} {I : Mem} {v2 : Int32} {v3 : Int32} {v4 : Int32} {v5 : Int32} {sh103 : Int32 → Mem → Option (Int32 × Mem)} {w0 : Int32} {w1 : Int32} {r : Int32 × Mem} (hC : Cx X E cX6_holdBallot 7 RX6 3 66) (hs103 : ∀ (v5 : Int32) (J : Mem), sh103 v5 J = some r → V X E 7 103 [(0, .ref (E.2.1 (71))), (2, .int v2), (3, .int v3), (4, .int v4), (5, .int v5)] [] J) (hR : Rt X E cX6_holdBallot (some .boolean) (some (.int r.1)) r.2) (hf : f_X6_holdBallot_175 k I v2 v3 v4 v5 sh103 w0 w1 = some r) : V X E 7 175 [(0, .ref (E.2.1 (71))), (2, .int v2), (3, .int v3), (4, .int v4), (5, .int v5)] [.int w0, .int w1, .ref (E.2.1 (72))] I := by
  unfold f_X6_holdBallot_175 at hf
  refine V_iconst (pc := 175) hC dX6_holdBallot_175 (v := (nI 0)) (by decide) ?_
  refine V_iadd (pc := 176) hC dX6_holdBallot_176 ?_
  obtain ⟨h19, hf⟩ := if_some hf
  refine V_iast (pc := 177) hC ia_72 (inB_of h19) dX6_holdBallot_177 ?_
  refine V_iinc (pc := 178) (lv' := [(5, .int (v5 + (nI 1))), (0, .ref (E.2.1 (71))), (2, .int v2), (3, .int v3), (4, .int v4)]) hC (nI 1) 4 dX6_holdBallot_178 rfl (by decide) (by decide) rfl ?_
  refine V_goto (pc := 181) (tgt := 103) hC dX6_holdBallot_181 (by decide) ?_
  refine V_sub (pc := 103) (lv' := [(0, .ref (E.2.1 (71))), (2, .int v2), (3, .int v3), (4, .int v4), (5, .int (v5 + (nI 1)))]) [1, 2, 3, 4, 0] rfl ?_
  exact hs103 (v5 + (nI 1)) (up2 I (72) (Int32.toNatClampNeg w1) (w0 + (nI 0))) hf
def f_X6_holdBallot_103 (k : Nat) (v2 : Int32) (v3 : Int32) (v4 : Int32) : Nat → Int32 → Mem → Option (Int32 × Mem)
  | 0, _, _ => none
  | n + 1, v5, I => (if (I (72) (Int32.toNatClampNeg (nI 0))) ≤ v5 then f_X6_holdBallot_188 k v2 v3 v4 k (nI 23) I else (Option.bind (f_X6_blocOf k v5 I) (fun r11 => (if inB ((nI 59) + v5) 69 = true then (Option.bind (f_X6_winsWith k (v2 ||| ((nI 1) <<< (r11 &&& 31))) (I (72) (Int32.toNatClampNeg (nI 1))) I) (fun r13 => (if r13 = 0 then f_X6_holdBallot_175 k I v2 v3 v4 v5 (f_X6_holdBallot_103 k v2 v3 v4 n) (I (72) (Int32.toNatClampNeg ((nI 59) + v5))) ((nI 59) + v5) else (Option.bind (f_X6_winsWith k (v2 &&& (((nI 1) <<< (r11 &&& 31)) ^^^ (-1 : Int32))) (I (72) (Int32.toNatClampNeg (nI 1))) I) (fun r15 => (if r15 = 0 then (if inB ((nI 59) + v5) 69 = true then (Option.bind (some (up2 I (72) (Int32.toNatClampNeg ((nI 59) + v5)) ((I (72) (Int32.toNatClampNeg ((nI 59) + v5))) + (nI 1)))) (fun J18 => (f_X6_holdBallot_103 k v2 v3 v4 n) (v5 + (nI 1)) J18)) else none) else f_X6_holdBallot_175 k I v2 v3 v4 v5 (f_X6_holdBallot_103 k v2 v3 v4 n) (I (72) (Int32.toNatClampNeg ((nI 59) + v5))) ((nI 59) + v5))))))) else none))))
set_option maxHeartbeats 4000000 in
set_option maxRecDepth 100000 in
theorem b_X6_holdBallot_103 {X : XT} {E : EN} {k : Nat} {v2 : Int32} {v3 : Int32} {v4 : Int32} {r : Int32 × Mem} (hC : Cx X E cX6_holdBallot 7 RX6 3 66) (hR : Rt X E cX6_holdBallot (some .boolean) (some (.int r.1)) r.2) : ∀ (n : Nat) (v5 : Int32) (I : Mem), f_X6_holdBallot_103 k v2 v3 v4 n v5 I = some r → V X E 7 103 [(0, .ref (E.2.1 (71))), (2, .int v2), (3, .int v3), (4, .int v4), (5, .int v5)] [] I := by
  intro n
  induction n with
  | zero =>
    intro v5 I hf
    rw [f_X6_holdBallot_103] at hf
    cases hf
  | succ n ih =>
    intro v5 I hf
    rw [f_X6_holdBallot_103] at hf
    refine V_iload (pc := 103) hC 4 dX6_holdBallot_103 rfl ?_
    refine V_aload_n (pc := 105) hC 0 dX6_holdBallot_105 rfl rfl ?_
    refine gf_X6_7 (pc := 106) hC dX6_holdBallot_106 ?_
    refine V_iconst (pc := 109) hC dX6_holdBallot_109 (v := (nI 0)) (by decide) ?_
    refine V_iald (pc := 110) hC ia_72 (inB_of (by decide)) dX6_holdBallot_110 ?_
    refine V_icmp_ge (pc := 111) (tgt := 184) hC dX6_holdBallot_111 (by decide) (fun c10 => ?_) (fun c10 => ?_)
    · have hf := ite_t hf c10
      refine V_bipush (pc := 184) hC dX6_holdBallot_184 (v := (nI 23)) (by decide) ?_
      refine V_istore (pc := 186) (lv' := [(5, .int (nI 23)), (0, .ref (E.2.1 (71))), (2, .int v2), (3, .int v3), (4, .int v4)]) hC dX6_holdBallot_186 (by decide) rfl ?_
      refine V_sub (pc := 188) (lv' := [(0, .ref (E.2.1 (71))), (2, .int v2), (3, .int v3), (4, .int v4), (5, .int (nI 23))]) [1, 2, 3, 4, 0] rfl ?_
      exact b_X6_holdBallot_188 hC hR k (nI 23) I hf
    · have hf := ite_f hf c10
      refine V_iconst (pc := 114) hC dX6_holdBallot_114 (v := (nI 1)) (by decide) ?_
      refine V_aload_n (pc := 115) hC 0 dX6_holdBallot_115 rfl rfl ?_
      refine V_iload (pc := 116) hC 4 dX6_holdBallot_116 rfl ?_
      obtain ⟨r11, g11, hf⟩ := bind_some hf
      refine V_callV (pc := 118) (rest := [.int (nI 1)]) (As := [.int v5]) hC lk_X6_83 (by decide) cel_X6 rfl (c_X6_blocOf  g11) rfl rfl (Nat.le_of_ble_eq_true rfl) (by decide) dX6_holdBallot_118 ?_
      change V X E 7 121 [(0, .ref (E.2.1 (71))), (2, .int v2), (3, .int v3), (4, .int v4), (5, .int v5)] [.int r11, .int (nI 1)] I
      refine V_ishl (pc := 121) hC dX6_holdBallot_121 ?_
      refine V_istore (pc := 122) (lv' := [(6, .int ((nI 1) <<< (r11 &&& 31))), (0, .ref (E.2.1 (71))), (2, .int v2), (3, .int v3), (4, .int v4), (5, .int v5)]) hC dX6_holdBallot_122 (by decide) rfl ?_
      refine V_aload_n (pc := 124) hC 1 dX6_holdBallot_124 rfl rfl ?_
      refine gf_X6_7 (pc := 125) hC dX6_holdBallot_125 ?_
      refine V_bipush (pc := 128) hC dX6_holdBallot_128 (v := (nI 59)) (by decide) ?_
      refine V_iload (pc := 130) hC 5 dX6_holdBallot_130 rfl ?_
      refine V_iadd (pc := 132) hC dX6_holdBallot_132 ?_
      refine V_dup2 (pc := 133) hC dX6_holdBallot_133 rfl rfl ?_
      obtain ⟨h12, hf⟩ := if_some hf
      refine V_iald (pc := 134) hC ia_72 (inB_of h12) dX6_holdBallot_134 ?_
      refine V_aload_n (pc := 135) hC 1 dX6_holdBallot_135 rfl rfl ?_
      refine V_iload_n (pc := 136) hC 2 dX6_holdBallot_136 rfl rfl ?_
      refine V_iload (pc := 137) hC 0 dX6_holdBallot_137 rfl ?_
      refine V_ior (pc := 139) hC dX6_holdBallot_139 ?_
      refine V_aload_n (pc := 140) hC 1 dX6_holdBallot_140 rfl rfl ?_
      refine gf_X6_7 (pc := 141) hC dX6_holdBallot_141 ?_
      refine V_iconst (pc := 144) hC dX6_holdBallot_144 (v := (nI 1)) (by decide) ?_
      refine V_iald (pc := 145) hC ia_72 (inB_of (by decide)) dX6_holdBallot_145 ?_
      obtain ⟨r13, g13, hf⟩ := bind_some hf
      refine V_callV (pc := 146) (rest := [.int (I (72) (Int32.toNatClampNeg ((nI 59) + v5))), .int ((nI 59) + v5), .ref (E.2.1 (72))]) (As := [.int (v2 ||| ((nI 1) <<< (r11 &&& 31))), .int (I (72) (Int32.toNatClampNeg (nI 1)))]) hC lk_X6_96 (by decide) cel_X6 rfl (c_X6_winsWith  g13) rfl rfl (Nat.le_of_ble_eq_true rfl) (by decide) dX6_holdBallot_146 ?_
      change V X E 7 149 [(6, .int ((nI 1) <<< (r11 &&& 31))), (0, .ref (E.2.1 (71))), (2, .int v2), (3, .int v3), (4, .int v4), (5, .int v5)] [.int r13, .int (I (72) (Int32.toNatClampNeg ((nI 59) + v5))), .int ((nI 59) + v5), .ref (E.2.1 (72))] I
      refine V_if_eq (pc := 149) (tgt := 175) hC dX6_holdBallot_149 (by decide) (fun c14 => ?_) (fun c14 => ?_)
      · have hf := ite_t hf c14
        refine V_sub (pc := 175) (lv' := [(0, .ref (E.2.1 (71))), (2, .int v2), (3, .int v3), (4, .int v4), (5, .int v5)]) [1, 2, 3, 4, 5] rfl ?_
        exact b_X6_holdBallot_175 hC ih hR hf
      · have hf := ite_f hf c14
        refine V_aload_n (pc := 152) hC 1 dX6_holdBallot_152 rfl rfl ?_
        refine V_iload_n (pc := 153) hC 2 dX6_holdBallot_153 rfl rfl ?_
        refine V_iload (pc := 154) hC 0 dX6_holdBallot_154 rfl ?_
        refine V_iconst (pc := 156) hC dX6_holdBallot_156 (v := (-1 : Int32)) (by decide) ?_
        refine V_ixor (pc := 157) hC dX6_holdBallot_157 ?_
        refine V_iand (pc := 158) hC dX6_holdBallot_158 ?_
        refine V_aload_n (pc := 159) hC 1 dX6_holdBallot_159 rfl rfl ?_
        refine gf_X6_7 (pc := 160) hC dX6_holdBallot_160 ?_
        refine V_iconst (pc := 163) hC dX6_holdBallot_163 (v := (nI 1)) (by decide) ?_
        refine V_iald (pc := 164) hC ia_72 (inB_of (by decide)) dX6_holdBallot_164 ?_
        obtain ⟨r15, g15, hf⟩ := bind_some hf
        refine V_callV (pc := 165) (rest := [.int (I (72) (Int32.toNatClampNeg ((nI 59) + v5))), .int ((nI 59) + v5), .ref (E.2.1 (72))]) (As := [.int (v2 &&& (((nI 1) <<< (r11 &&& 31)) ^^^ (-1 : Int32))), .int (I (72) (Int32.toNatClampNeg (nI 1)))]) hC lk_X6_96 (by decide) cel_X6 rfl (c_X6_winsWith  g15) rfl rfl (Nat.le_of_ble_eq_true rfl) (by decide) dX6_holdBallot_165 ?_
        change V X E 7 168 [(6, .int ((nI 1) <<< (r11 &&& 31))), (0, .ref (E.2.1 (71))), (2, .int v2), (3, .int v3), (4, .int v4), (5, .int v5)] [.int r15, .int (I (72) (Int32.toNatClampNeg ((nI 59) + v5))), .int ((nI 59) + v5), .ref (E.2.1 (72))] I
        refine V_if_ne (pc := 168) (tgt := 175) hC dX6_holdBallot_168 (by decide) (fun c16 => ?_) (fun c16 => ?_)
        · have hf := ite_f hf c16
          refine V_sub (pc := 175) (lv' := [(0, .ref (E.2.1 (71))), (2, .int v2), (3, .int v3), (4, .int v4), (5, .int v5)]) [1, 2, 3, 4, 5] rfl ?_
          exact b_X6_holdBallot_175 hC ih hR hf
        · have hf := ite_t hf c16
          refine V_iconst (pc := 171) hC dX6_holdBallot_171 (v := (nI 1)) (by decide) ?_
          refine V_goto (pc := 172) (tgt := 176) hC dX6_holdBallot_172 (by decide) ?_
          refine V_iadd (pc := 176) hC dX6_holdBallot_176 ?_
          obtain ⟨h17, hf⟩ := if_some hf
          obtain ⟨J18, eJ18, hf⟩ := bind_some hf
          have eJ18 := Option.some.inj eJ18
          refine V_iast (pc := 177) hC ia_72 (inB_of h17) dX6_holdBallot_177 ?_
          rw [eJ18]
          refine V_iinc (pc := 178) (lv' := [(5, .int (v5 + (nI 1))), (6, .int ((nI 1) <<< (r11 &&& 31))), (0, .ref (E.2.1 (71))), (2, .int v2), (3, .int v3), (4, .int v4)]) hC (nI 1) 5 dX6_holdBallot_178 rfl (by decide) (by decide) rfl ?_
          refine V_goto (pc := 181) (tgt := 103) hC dX6_holdBallot_181 (by decide) ?_
          refine V_sub (pc := 103) (lv' := [(0, .ref (E.2.1 (71))), (2, .int v2), (3, .int v3), (4, .int v4), (5, .int (v5 + (nI 1)))]) [2, 3, 4, 5, 0] rfl ?_
          exact ih (v5 + (nI 1)) J18 hf
def f_X6_holdBallot_57 (k : Nat) (I : Mem) (v1 : Int32) (v3 : Int32) (v4 : Int32) (v5 : Int32) (sh11 : Int32 → Int32 → Int32 → Option (Int32 × Mem)) (w0 : Int32) (w1 : Int32) : Option (Int32 × Mem) := (if inB (v1 + v4) 60 = true then (if (I (75) (Int32.toNatClampNeg (v1 + v4))) = v5 then sh11 (w1 ||| w0) (v3 + (nI 0)) (v4 + (nI 1)) else sh11 (w1 ||| w0) (v3 + (nI 1)) (v4 + (nI 1))) else none)
set_option maxHeartbeats 4000000 in
set_option maxRecDepth 100000 in
theorem b_X6_holdBallot_57 {X : XT} {E : EN} {k : Nat} {I : Mem} {v1 : Int32} {v3 : Int32} {v4 : Int32} {v5 : Int32} {sh11 : Int32 → Int32 → Int32 → Option (Int32 × Mem)} {w0 : Int32} {w1 : Int32} {r : Int32 × Mem} (hC : Cx X E cX6_holdBallot 7 RX6 3 66) (hs11 : ∀ (v2 : Int32) (v3 : Int32) (v4 : Int32), sh11 v2 v3 v4 = some r → V X E 7 11 [(0, .ref (E.2.1 (71))), (1, .int v1), (2, .int v2), (3, .int v3), (4, .int v4)] [] I) (hR : Rt X E cX6_holdBallot (some .boolean) (some (.int r.1)) r.2) (hf : f_X6_holdBallot_57 k I v1 v3 v4 v5 sh11 w0 w1 = some r) : V X E 7 57 [(0, .ref (E.2.1 (71))), (1, .int v1), (3, .int v3), (4, .int v4), (5, .int v5)] [.int w0, .int w1] I := by
  unfold f_X6_holdBallot_57 at hf
  refine V_ior (pc := 57) hC dX6_holdBallot_57 ?_
  refine V_istore_n (pc := 58) (lv' := [(2, .int (w1 ||| w0)), (0, .ref (E.2.1 (71))), (1, .int v1), (3, .int v3), (4, .int v4), (5, .int v5)]) hC dX6_holdBallot_58 rfl (by decide) rfl ?_
  refine V_iload_n (pc := 59) hC 3 dX6_holdBallot_59 rfl rfl ?_
  refine V_aload_n (pc := 60) hC 1 dX6_holdBallot_60 rfl rfl ?_
  refine gf_X6_19 (pc := 61) hC dX6_holdBallot_61 ?_
  refine V_iload_n (pc := 64) hC 2 dX6_holdBallot_64 rfl rfl ?_
  refine V_iload (pc := 65) hC 4 dX6_holdBallot_65 rfl ?_
  refine V_iadd (pc := 67) hC dX6_holdBallot_67 ?_
  obtain ⟨h8, hf⟩ := if_some hf
  refine V_cald (pc := 68) hC ca_75 (inB_of h8) dX6_holdBallot_68 ?_
  refine V_iload (pc := 69) hC 5 dX6_holdBallot_69 rfl ?_
  refine V_icmp_ne (pc := 71) (tgt := 78) hC dX6_holdBallot_71 (by decide) (fun c9 => ?_) (fun c9 => ?_)
  · have hf := ite_f hf c9
    refine V_iconst (pc := 78) hC dX6_holdBallot_78 (v := (nI 1)) (by decide) ?_
    refine V_iadd (pc := 79) hC dX6_holdBallot_79 ?_
    refine V_istore_n (pc := 80) (lv' := [(3, .int (v3 + (nI 1))), (2, .int (w1 ||| w0)), (0, .ref (E.2.1 (71))), (1, .int v1), (4, .int v4), (5, .int v5)]) hC dX6_holdBallot_80 rfl (by decide) rfl ?_
    refine V_iinc (pc := 81) (lv' := [(4, .int (v4 + (nI 1))), (3, .int (v3 + (nI 1))), (2, .int (w1 ||| w0)), (0, .ref (E.2.1 (71))), (1, .int v1), (5, .int v5)]) hC (nI 1) 4 dX6_holdBallot_81 rfl (by decide) (by decide) rfl ?_
    refine V_goto (pc := 84) (tgt := 11) hC dX6_holdBallot_84 (by decide) ?_
    refine V_sub (pc := 11) (lv' := [(0, .ref (E.2.1 (71))), (1, .int v1), (2, .int (w1 ||| w0)), (3, .int (v3 + (nI 1))), (4, .int (v4 + (nI 1)))]) [3, 4, 2, 1, 0] rfl ?_
    exact hs11 (w1 ||| w0) (v3 + (nI 1)) (v4 + (nI 1)) hf
  · have hf := ite_t hf c9
    refine V_iconst (pc := 74) hC dX6_holdBallot_74 (v := (nI 0)) (by decide) ?_
    refine V_goto (pc := 75) (tgt := 79) hC dX6_holdBallot_75 (by decide) ?_
    refine V_iadd (pc := 79) hC dX6_holdBallot_79 ?_
    refine V_istore_n (pc := 80) (lv' := [(3, .int (v3 + (nI 0))), (2, .int (w1 ||| w0)), (0, .ref (E.2.1 (71))), (1, .int v1), (4, .int v4), (5, .int v5)]) hC dX6_holdBallot_80 rfl (by decide) rfl ?_
    refine V_iinc (pc := 81) (lv' := [(4, .int (v4 + (nI 1))), (3, .int (v3 + (nI 0))), (2, .int (w1 ||| w0)), (0, .ref (E.2.1 (71))), (1, .int v1), (5, .int v5)]) hC (nI 1) 4 dX6_holdBallot_81 rfl (by decide) (by decide) rfl ?_
    refine V_goto (pc := 84) (tgt := 11) hC dX6_holdBallot_84 (by decide) ?_
    refine V_sub (pc := 11) (lv' := [(0, .ref (E.2.1 (71))), (1, .int v1), (2, .int (w1 ||| w0)), (3, .int (v3 + (nI 0))), (4, .int (v4 + (nI 1)))]) [3, 4, 2, 1, 0] rfl ?_
    exact hs11 (w1 ||| w0) (v3 + (nI 0)) (v4 + (nI 1)) hf
def f_X6_holdBallot_11 (k : Nat) (I : Mem) (v1 : Int32) : Nat → Int32 → Int32 → Int32 → Option (Int32 × Mem)
  | 0, _, _, _ => none
  | n + 1, v2, v3, v4 => (if (I (72) (Int32.toNatClampNeg (nI 0))) ≤ v4 then (Option.bind (f_X6_winsWith k v2 (I (72) (Int32.toNatClampNeg (nI 1))) I) (fun r3 => f_X6_holdBallot_103 k v2 v3 r3 k (nI 0) I)) else (Option.bind (f_X6_leader k v4 I) (fun r4 => (if inB (v1 + r4) 60 = true then (if (I (75) (Int32.toNatClampNeg (v1 + r4))) = (nI 43) then (Option.bind (f_X6_blocOf k v4 I) (fun r7 => f_X6_holdBallot_57 k I v1 v3 v4 (I (75) (Int32.toNatClampNeg (v1 + r4))) (f_X6_holdBallot_11 k I v1 n) ((nI 1) <<< (r7 &&& 31)) v2)) else f_X6_holdBallot_57 k I v1 v3 v4 (I (75) (Int32.toNatClampNeg (v1 + r4))) (f_X6_holdBallot_11 k I v1 n) (nI 0) v2) else none))))
set_option maxHeartbeats 4000000 in
set_option maxRecDepth 100000 in
theorem b_X6_holdBallot_11 {X : XT} {E : EN} {k : Nat} {I : Mem} {v1 : Int32} {r : Int32 × Mem} (hC : Cx X E cX6_holdBallot 7 RX6 3 66) (hR : Rt X E cX6_holdBallot (some .boolean) (some (.int r.1)) r.2) : ∀ (n : Nat) (v2 : Int32) (v3 : Int32) (v4 : Int32), f_X6_holdBallot_11 k I v1 n v2 v3 v4 = some r → V X E 7 11 [(0, .ref (E.2.1 (71))), (1, .int v1), (2, .int v2), (3, .int v3), (4, .int v4)] [] I := by
  intro n
  induction n with
  | zero =>
    intro v2 v3 v4 hf
    rw [f_X6_holdBallot_11] at hf
    cases hf
  | succ n ih =>
    intro v2 v3 v4 hf
    rw [f_X6_holdBallot_11] at hf
    refine V_iload (pc := 11) hC 4 dX6_holdBallot_11 rfl ?_
    refine V_aload_n (pc := 13) hC 0 dX6_holdBallot_13 rfl rfl ?_
    refine gf_X6_7 (pc := 14) hC dX6_holdBallot_14 ?_
    refine V_iconst (pc := 17) hC dX6_holdBallot_17 (v := (nI 0)) (by decide) ?_
    refine V_iald (pc := 18) hC ia_72 (inB_of (by decide)) dX6_holdBallot_18 ?_
    refine V_icmp_ge (pc := 19) (tgt := 87) hC dX6_holdBallot_19 (by decide) (fun c2 => ?_) (fun c2 => ?_)
    · have hf := ite_t hf c2
      refine V_aload_n (pc := 87) hC 0 dX6_holdBallot_87 rfl rfl ?_
      refine V_iload_n (pc := 88) hC 2 dX6_holdBallot_88 rfl rfl ?_
      refine V_aload_n (pc := 89) hC 0 dX6_holdBallot_89 rfl rfl ?_
      refine gf_X6_7 (pc := 90) hC dX6_holdBallot_90 ?_
      refine V_iconst (pc := 93) hC dX6_holdBallot_93 (v := (nI 1)) (by decide) ?_
      refine V_iald (pc := 94) hC ia_72 (inB_of (by decide)) dX6_holdBallot_94 ?_
      obtain ⟨r3, g3, hf⟩ := bind_some hf
      refine V_callV (pc := 95) (rest := []) (As := [.int v2, .int (I (72) (Int32.toNatClampNeg (nI 1)))]) hC lk_X6_96 (by decide) cel_X6 rfl (c_X6_winsWith  g3) rfl rfl (Nat.le_of_ble_eq_true rfl) (by decide) dX6_holdBallot_95 ?_
      change V X E 7 98 [(0, .ref (E.2.1 (71))), (1, .int v1), (2, .int v2), (3, .int v3), (4, .int v4)] [.int r3] I
      refine V_istore (pc := 98) (lv' := [(4, .int r3), (0, .ref (E.2.1 (71))), (1, .int v1), (2, .int v2), (3, .int v3)]) hC dX6_holdBallot_98 (by decide) rfl ?_
      refine V_iconst (pc := 100) hC dX6_holdBallot_100 (v := (nI 0)) (by decide) ?_
      refine V_istore (pc := 101) (lv' := [(5, .int (nI 0)), (4, .int r3), (0, .ref (E.2.1 (71))), (1, .int v1), (2, .int v2), (3, .int v3)]) hC dX6_holdBallot_101 (by decide) rfl ?_
      refine V_sub (pc := 103) (lv' := [(0, .ref (E.2.1 (71))), (2, .int v2), (3, .int v3), (4, .int r3), (5, .int (nI 0))]) [2, 4, 5, 1, 0] rfl ?_
      exact b_X6_holdBallot_103 hC hR k (nI 0) I hf
    · have hf := ite_f hf c2
      refine V_aload_n (pc := 22) hC 0 dX6_holdBallot_22 rfl rfl ?_
      refine gf_X6_19 (pc := 23) hC dX6_holdBallot_23 ?_
      refine V_iload_n (pc := 26) hC 1 dX6_holdBallot_26 rfl rfl ?_
      refine V_aload_n (pc := 27) hC 0 dX6_holdBallot_27 rfl rfl ?_
      refine V_iload (pc := 28) hC 4 dX6_holdBallot_28 rfl ?_
      obtain ⟨r4, g4, hf⟩ := bind_some hf
      refine V_callV (pc := 30) (rest := [.int v1, .ref (E.2.1 (75))]) (As := [.int v4]) hC lk_X6_135 (by decide) cel_X6 rfl (c_X6_leader  g4) rfl rfl (Nat.le_of_ble_eq_true rfl) (by decide) dX6_holdBallot_30 ?_
      change V X E 7 33 [(0, .ref (E.2.1 (71))), (1, .int v1), (2, .int v2), (3, .int v3), (4, .int v4)] [.int r4, .int v1, .ref (E.2.1 (75))] I
      refine V_iadd (pc := 33) hC dX6_holdBallot_33 ?_
      obtain ⟨h5, hf⟩ := if_some hf
      refine V_cald (pc := 34) hC ca_75 (inB_of h5) dX6_holdBallot_34 ?_
      refine V_istore (pc := 35) (lv' := [(5, .int (I (75) (Int32.toNatClampNeg (v1 + r4)))), (0, .ref (E.2.1 (71))), (1, .int v1), (2, .int v2), (3, .int v3), (4, .int v4)]) hC dX6_holdBallot_35 (by decide) rfl ?_
      refine V_iload_n (pc := 37) hC 3 dX6_holdBallot_37 rfl rfl ?_
      refine V_iload (pc := 38) hC 0 dX6_holdBallot_38 rfl ?_
      refine V_bipush (pc := 40) hC dX6_holdBallot_40 (v := (nI 43)) (by decide) ?_
      refine V_icmp_ne (pc := 42) (tgt := 56) hC dX6_holdBallot_42 (by decide) (fun c6 => ?_) (fun c6 => ?_)
      · have hf := ite_f hf c6
        refine V_iconst (pc := 56) hC dX6_holdBallot_56 (v := (nI 0)) (by decide) ?_
        refine V_sub (pc := 57) (lv' := [(0, .ref (E.2.1 (71))), (1, .int v1), (3, .int v3), (4, .int v4), (5, .int (I (75) (Int32.toNatClampNeg (v1 + r4))))]) [1, 2, 4, 5, 0] rfl ?_
        exact b_X6_holdBallot_57 hC ih hR hf
      · have hf := ite_t hf c6
        refine V_iconst (pc := 45) hC dX6_holdBallot_45 (v := (nI 1)) (by decide) ?_
        refine V_aload_n (pc := 46) hC 1 dX6_holdBallot_46 rfl rfl ?_
        refine V_iload (pc := 47) hC 5 dX6_holdBallot_47 rfl ?_
        obtain ⟨r7, g7, hf⟩ := bind_some hf
        refine V_callV (pc := 49) (rest := [.int (nI 1), .int v2]) (As := [.int v4]) hC lk_X6_83 (by decide) cel_X6 rfl (c_X6_blocOf  g7) rfl rfl (Nat.le_of_ble_eq_true rfl) (by decide) dX6_holdBallot_49 ?_
        change V X E 7 52 [(5, .int (I (75) (Int32.toNatClampNeg (v1 + r4)))), (0, .ref (E.2.1 (71))), (1, .int v1), (2, .int v2), (3, .int v3), (4, .int v4)] [.int r7, .int (nI 1), .int v2] I
        refine V_ishl (pc := 52) hC dX6_holdBallot_52 ?_
        refine V_goto (pc := 53) (tgt := 57) hC dX6_holdBallot_53 (by decide) ?_
        refine V_sub (pc := 57) (lv' := [(0, .ref (E.2.1 (71))), (1, .int v1), (3, .int v3), (4, .int v4), (5, .int (I (75) (Int32.toNatClampNeg (v1 + r4))))]) [1, 2, 4, 5, 0] rfl ?_
        exact b_X6_holdBallot_57 hC ih hR hf
def f_X6_holdBallot (k : Nat) (v1 : Int32) (I : Mem) : Option (Int32 × Mem) := (Option.bind (f_X6_layBlocs k I) (fun r1 => f_X6_holdBallot_11 k r1 v1 k (nI 0) (nI 0) (nI 0)))
set_option maxHeartbeats 4000000 in
set_option maxRecDepth 100000 in
theorem c_X6_holdBallot {E : EN} {k : Nat} {v1 : Int32} {I : Mem} {r : Int32 × Mem} (hf : f_X6_holdBallot k v1 I = some r) : Ct E yX6_holdBallot cX6_holdBallot 7 (some .boolean) 3 66 [.ref (E.2.1 (71)), .int v1] I (some (.int r.1)) r.2 := by
  refine Ct_of (by decide) (Nat.le_of_ble_eq_true rfl) (fun X hC0 hR => ?_)
  have hC : Cx X E cX6_holdBallot 7 RX6 3 66 := hC0
  change V X E 7 0 [(0, .ref (E.2.1 (71))), (1, .int v1)] [] I
  unfold f_X6_holdBallot at hf
  refine V_aload_n (pc := 0) hC 0 dX6_holdBallot_0 rfl rfl ?_
  obtain ⟨r1, g1, hf⟩ := bind_some hf
  refine V_callV (pc := 1) (rest := []) (As := []) hC lk_X6_93 (by decide) cel_X6 rfl (c_X6_layBlocs  g1) rfl rfl (Nat.le_of_ble_eq_true rfl) (by decide) dX6_holdBallot_1 ?_
  change V X E 7 4 [(0, .ref (E.2.1 (71))), (1, .int v1)] [] r1
  refine V_iconst (pc := 4) hC dX6_holdBallot_4 (v := (nI 0)) (by decide) ?_
  refine V_istore_n (pc := 5) (lv' := [(2, .int (nI 0)), (0, .ref (E.2.1 (71))), (1, .int v1)]) hC dX6_holdBallot_5 rfl (by decide) rfl ?_
  refine V_iconst (pc := 6) hC dX6_holdBallot_6 (v := (nI 0)) (by decide) ?_
  refine V_istore_n (pc := 7) (lv' := [(3, .int (nI 0)), (2, .int (nI 0)), (0, .ref (E.2.1 (71))), (1, .int v1)]) hC dX6_holdBallot_7 rfl (by decide) rfl ?_
  refine V_iconst (pc := 8) hC dX6_holdBallot_8 (v := (nI 0)) (by decide) ?_
  refine V_istore (pc := 9) (lv' := [(4, .int (nI 0)), (3, .int (nI 0)), (2, .int (nI 0)), (0, .ref (E.2.1 (71))), (1, .int v1)]) hC dX6_holdBallot_9 (by decide) rfl ?_
  refine V_sub (pc := 11) (lv' := [(0, .ref (E.2.1 (71))), (1, .int v1), (2, .int (nI 0)), (3, .int (nI 0)), (4, .int (nI 0))]) [3, 4, 2, 1, 0] rfl ?_
  exact b_X6_holdBallot_11 hC hR k (nI 0) (nI 0) (nI 0) hf
def f_X6_ballots_156 (k : Nat) (I : Mem) (v1 : Int32) (v2 : Int32) (sh9 : Int32 → Int32 → Mem → Option (Int32 × Mem)) (w0 : Int32) : Option (Int32 × Mem) := (if w0 = 0 then sh9 v2 w0 (up2 I (71) 7 ((I (71) 7) + (nI 0))) else sh9 v2 w0 (up2 I (71) 7 ((I (71) 7) + (nI 1))))
set_option maxHeartbeats 4000000 in
set_option maxRecDepth 100000 in
theorem b_X6_ballots_156 {X : XT} {E : EN} {k : Nat} {I : Mem} {v1 : Int32} {v2 : Int32} {sh9 : Int32 → Int32 → Mem → Option (Int32 × Mem)} {w0 : Int32} {r : Int32 × Mem} (hC : Cx X E cX6_ballots 6 RX6 4 92) (hs9 : ∀ (v2 : Int32) (v3 : Int32) (J : Mem), sh9 v2 v3 J = some r → V X E 6 9 [(0, .ref (E.2.1 (71))), (1, .int v1), (2, .int v2), (3, .int v3)] [] J) (hR : Rt X E cX6_ballots (some .int) (some (.int r.1)) r.2) (hf : f_X6_ballots_156 k I v1 v2 sh9 w0 = some r) : V X E 6 156 [(0, .ref (E.2.1 (71))), (1, .int v1), (2, .int v2)] [.int w0] I := by
  unfold f_X6_ballots_156 at hf
  refine V_istore_n (pc := 156) (lv' := [(3, .int w0), (0, .ref (E.2.1 (71))), (1, .int v1), (2, .int v2)]) hC dX6_ballots_156 rfl (by decide) rfl ?_
  refine V_aload_n (pc := 157) hC 1 dX6_ballots_157 rfl rfl ?_
  refine V_dup (pc := 158) hC dX6_ballots_158 rfl ?_
  refine gf_X6_129 (pc := 159) hC dX6_ballots_159 ?_
  refine V_iload_n (pc := 162) hC 0 dX6_ballots_162 rfl rfl ?_
  refine V_if_eq (pc := 163) (tgt := 170) hC dX6_ballots_163 (by decide) (fun c17 => ?_) (fun c17 => ?_)
  · have hf := ite_t hf c17
    refine V_iconst (pc := 170) hC dX6_ballots_170 (v := (nI 0)) (by decide) ?_
    refine V_iadd (pc := 171) hC dX6_ballots_171 ?_
    refine pf_X6_129 (pc := 172) hC dX6_ballots_172 ?_
    refine V_goto (pc := 175) (tgt := 9) hC dX6_ballots_175 (by decide) ?_
    refine V_sub (pc := 9) (lv' := [(0, .ref (E.2.1 (71))), (1, .int v1), (2, .int v2), (3, .int w0)]) [1, 2, 3, 0] rfl ?_
    exact hs9 v2 w0 (up2 I (71) 7 ((I (71) 7) + (nI 0))) hf
  · have hf := ite_f hf c17
    refine V_iconst (pc := 166) hC dX6_ballots_166 (v := (nI 1)) (by decide) ?_
    refine V_goto (pc := 167) (tgt := 171) hC dX6_ballots_167 (by decide) ?_
    refine V_iadd (pc := 171) hC dX6_ballots_171 ?_
    refine pf_X6_129 (pc := 172) hC dX6_ballots_172 ?_
    refine V_goto (pc := 175) (tgt := 9) hC dX6_ballots_175 (by decide) ?_
    refine V_sub (pc := 9) (lv' := [(0, .ref (E.2.1 (71))), (1, .int v1), (2, .int v2), (3, .int w0)]) [1, 2, 3, 0] rfl ?_
    exact hs9 v2 w0 (up2 I (71) 7 ((I (71) 7) + (nI 1))) hf
def f_X6_ballots_124 (k : Nat) (I : Mem) (v1 : Int32) (sh9 : Int32 → Int32 → Mem → Option (Int32 × Mem)) (w0 : Int32) (w1 : Int32) : Option (Int32 × Mem) := (if (I (71) 6) ≤ (I (71) 7) then f_X6_ballots_156 k I v1 (w1 + w0) sh9 (nI 0) else (if inB (I (71) 7) 60 = true then (if (I (75) (Int32.toNatClampNeg (I (71) 7))) = (nI 44) then f_X6_ballots_156 k I v1 (w1 + w0) sh9 (nI 1) else f_X6_ballots_156 k I v1 (w1 + w0) sh9 (nI 0)) else none))
set_option maxHeartbeats 4000000 in
set_option maxRecDepth 100000 in
theorem b_X6_ballots_124 {X : XT} {E : EN} {k : Nat} {I : Mem} {v1 : Int32} {sh9 : Int32 → Int32 → Mem → Option (Int32 × Mem)} {w0 : Int32} {w1 : Int32} {r : Int32 × Mem} (hC : Cx X E cX6_ballots 6 RX6 4 92) (hs9 : ∀ (v2 : Int32) (v3 : Int32) (J : Mem), sh9 v2 v3 J = some r → V X E 6 9 [(0, .ref (E.2.1 (71))), (1, .int v1), (2, .int v2), (3, .int v3)] [] J) (hR : Rt X E cX6_ballots (some .int) (some (.int r.1)) r.2) (hf : f_X6_ballots_124 k I v1 sh9 w0 w1 = some r) : V X E 6 124 [(0, .ref (E.2.1 (71))), (1, .int v1)] [.int w0, .int w1] I := by
  unfold f_X6_ballots_124 at hf
  refine V_iadd (pc := 124) hC dX6_ballots_124 ?_
  refine V_istore_n (pc := 125) (lv' := [(2, .int (w1 + w0)), (0, .ref (E.2.1 (71))), (1, .int v1)]) hC dX6_ballots_125 rfl (by decide) rfl ?_
  refine V_aload_n (pc := 126) hC 1 dX6_ballots_126 rfl rfl ?_
  refine gf_X6_129 (pc := 127) hC dX6_ballots_127 ?_
  refine V_aload_n (pc := 130) hC 1 dX6_ballots_130 rfl rfl ?_
  refine gf_X6_126 (pc := 131) hC dX6_ballots_131 ?_
  refine V_icmp_ge (pc := 134) (tgt := 155) hC dX6_ballots_134 (by decide) (fun c14 => ?_) (fun c14 => ?_)
  · have hf := ite_t hf c14
    refine V_iconst (pc := 155) hC dX6_ballots_155 (v := (nI 0)) (by decide) ?_
    refine V_sub (pc := 156) (lv' := [(0, .ref (E.2.1 (71))), (1, .int v1), (2, .int (w1 + w0))]) [1, 2, 0] rfl ?_
    exact b_X6_ballots_156 hC hs9 hR hf
  · have hf := ite_f hf c14
    refine V_aload_n (pc := 137) hC 1 dX6_ballots_137 rfl rfl ?_
    refine gf_X6_19 (pc := 138) hC dX6_ballots_138 ?_
    refine V_aload_n (pc := 141) hC 1 dX6_ballots_141 rfl rfl ?_
    refine gf_X6_129 (pc := 142) hC dX6_ballots_142 ?_
    obtain ⟨h15, hf⟩ := if_some hf
    refine V_cald (pc := 145) hC ca_75 (inB_of h15) dX6_ballots_145 ?_
    refine V_bipush (pc := 146) hC dX6_ballots_146 (v := (nI 44)) (by decide) ?_
    refine V_icmp_ne (pc := 148) (tgt := 155) hC dX6_ballots_148 (by decide) (fun c16 => ?_) (fun c16 => ?_)
    · have hf := ite_f hf c16
      refine V_iconst (pc := 155) hC dX6_ballots_155 (v := (nI 0)) (by decide) ?_
      refine V_sub (pc := 156) (lv' := [(0, .ref (E.2.1 (71))), (1, .int v1), (2, .int (w1 + w0))]) [1, 2, 0] rfl ?_
      exact b_X6_ballots_156 hC hs9 hR hf
    · have hf := ite_t hf c16
      refine V_iconst (pc := 151) hC dX6_ballots_151 (v := (nI 1)) (by decide) ?_
      refine V_goto (pc := 152) (tgt := 156) hC dX6_ballots_152 (by decide) ?_
      refine V_sub (pc := 156) (lv' := [(0, .ref (E.2.1 (71))), (1, .int v1), (2, .int (w1 + w0))]) [1, 2, 0] rfl ?_
      exact b_X6_ballots_156 hC hs9 hR hf
def f_X6_ballots_89 (k : Nat) (I : Mem) (v1 : Int32) (v2 : Int32) (v4 : Int32) (v5 : Int32) (sh22 : Int32 → Mem → Option (Int32 × Mem)) : Option (Int32 × Mem) := sh22 (v5 + (nI 1)) (up2 I (71) 7 ((I (71) 7) + (nI 1)))
set_option maxHeartbeats 4000000 in
set_option maxRecDepth 100000 in
theorem b_X6_ballots_89 {X : XT} {E : EN} {k : Nat} {I : Mem} {v1 : Int32} {v2 : Int32} {v4 : Int32} {v5 : Int32} {sh22 : Int32 → Mem → Option (Int32 × Mem)} {r : Int32 × Mem} (hC : Cx X E cX6_ballots 6 RX6 4 92) (hs22 : ∀ (v5 : Int32) (J : Mem), sh22 v5 J = some r → V X E 6 22 [(0, .ref (E.2.1 (71))), (1, .int v1), (2, .int v2), (4, .int v4), (5, .int v5)] [] J) (hR : Rt X E cX6_ballots (some .int) (some (.int r.1)) r.2) (hf : f_X6_ballots_89 k I v1 v2 v4 v5 sh22 = some r) : V X E 6 89 [(0, .ref (E.2.1 (71))), (1, .int v1), (2, .int v2), (4, .int v4), (5, .int v5)] [] I := by
  unfold f_X6_ballots_89 at hf
  refine V_aload_n (pc := 89) hC 0 dX6_ballots_89 rfl rfl ?_
  refine V_dup (pc := 90) hC dX6_ballots_90 rfl ?_
  refine gf_X6_129 (pc := 91) hC dX6_ballots_91 ?_
  refine V_iconst (pc := 94) hC dX6_ballots_94 (v := (nI 1)) (by decide) ?_
  refine V_iadd (pc := 95) hC dX6_ballots_95 ?_
  refine pf_X6_129 (pc := 96) hC dX6_ballots_96 ?_
  refine V_iinc (pc := 99) (lv' := [(5, .int (v5 + (nI 1))), (0, .ref (E.2.1 (71))), (1, .int v1), (2, .int v2), (4, .int v4)]) hC (nI 1) 4 dX6_ballots_99 rfl (by decide) (by decide) rfl ?_
  refine V_goto (pc := 102) (tgt := 22) hC dX6_ballots_102 (by decide) ?_
  refine V_sub (pc := 22) (lv' := [(0, .ref (E.2.1 (71))), (1, .int v1), (2, .int v2), (4, .int v4), (5, .int (v5 + (nI 1)))]) [1, 2, 3, 4, 0] rfl ?_
  exact hs22 (v5 + (nI 1)) (up2 I (71) 7 ((I (71) 7) + (nI 1))) hf
def f_X6_ballots_22 (k : Nat) (v1 : Int32) (v2 : Int32) (v4 : Int32) (sh9 : Int32 → Int32 → Mem → Option (Int32 × Mem)) : Nat → Int32 → Mem → Option (Int32 × Mem)
  | 0, _, _ => none
  | n + 1, v5, I => (if (I (72) (Int32.toNatClampNeg (nI 0))) ≤ v5 then (if v1 = 0 then f_X6_ballots_124 k I v1 sh9 (nI 0) v2 else (Option.bind (f_X6_holdBallot k v4 I) (fun r5 => (if r5.1 = 0 then f_X6_ballots_124 k r5.2 v1 sh9 (nI 0) v2 else f_X6_ballots_124 k r5.2 v1 sh9 (nI 1) v2)))) else (if (I (71) 7) = (I (71) 6) then some ((-5 : Int32), I) else (if inB (I (71) 7) 60 = true then (if (I (75) (Int32.toNatClampNeg (I (71) 7))) = (nI 43) then f_X6_ballots_89 k I v1 v2 v4 v5 (f_X6_ballots_22 k v1 v2 v4 sh9 n) else (if inB (I (71) 7) 60 = true then (if (I (75) (Int32.toNatClampNeg (I (71) 7))) = (nI 45) then f_X6_ballots_89 k I v1 v2 v4 v5 (f_X6_ballots_22 k v1 v2 v4 sh9 n) else (if inB (I (71) 7) 60 = true then (if (I (75) (Int32.toNatClampNeg (I (71) 7))) = (nI 48) then f_X6_ballots_89 k I v1 v2 v4 v5 (f_X6_ballots_22 k v1 v2 v4 sh9 n) else some ((-5 : Int32), I)) else none)) else none)) else none)))
set_option maxHeartbeats 4000000 in
set_option maxRecDepth 100000 in
theorem b_X6_ballots_22 {X : XT} {E : EN} {k : Nat} {v1 : Int32} {v2 : Int32} {v4 : Int32} {sh9 : Int32 → Int32 → Mem → Option (Int32 × Mem)} {r : Int32 × Mem} (hC : Cx X E cX6_ballots 6 RX6 4 92) (hs9 : ∀ (v2 : Int32) (v3 : Int32) (J : Mem), sh9 v2 v3 J = some r → V X E 6 9 [(0, .ref (E.2.1 (71))), (1, .int v1), (2, .int v2), (3, .int v3)] [] J) (hR : Rt X E cX6_ballots (some .int) (some (.int r.1)) r.2) : ∀ (n : Nat) (v5 : Int32) (I : Mem), f_X6_ballots_22 k v1 v2 v4 sh9 n v5 I = some r → V X E 6 22 [(0, .ref (E.2.1 (71))), (1, .int v1), (2, .int v2), (4, .int v4), (5, .int v5)] [] I := by
  intro n
  induction n with
  | zero =>
    intro v5 I hf
    rw [f_X6_ballots_22] at hf
    cases hf
  | succ n ih =>
    intro v5 I hf
    rw [f_X6_ballots_22] at hf
    refine V_iload (pc := 22) hC 4 dX6_ballots_22 rfl ?_
    refine V_aload_n (pc := 24) hC 0 dX6_ballots_24 rfl rfl ?_
    refine gf_X6_7 (pc := 25) hC dX6_ballots_25 ?_
    refine V_iconst (pc := 28) hC dX6_ballots_28 (v := (nI 0)) (by decide) ?_
    refine V_iald (pc := 29) hC ia_72 (inB_of (by decide)) dX6_ballots_29 ?_
    refine V_icmp_ge (pc := 30) (tgt := 105) hC dX6_ballots_30 (by decide) (fun c3 => ?_) (fun c3 => ?_)
    · have hf := ite_t hf c3
      refine V_iload_n (pc := 105) hC 2 dX6_ballots_105 rfl rfl ?_
      refine V_iload_n (pc := 106) hC 1 dX6_ballots_106 rfl rfl ?_
      refine V_if_eq (pc := 107) (tgt := 123) hC dX6_ballots_107 (by decide) (fun c4 => ?_) (fun c4 => ?_)
      · have hf := ite_t hf c4
        refine V_iconst (pc := 123) hC dX6_ballots_123 (v := (nI 0)) (by decide) ?_
        refine V_sub (pc := 124) (lv' := [(0, .ref (E.2.1 (71))), (1, .int v1)]) [0, 1] rfl ?_
        exact b_X6_ballots_124 hC hs9 hR hf
      · have hf := ite_f hf c4
        refine V_aload_n (pc := 110) hC 0 dX6_ballots_110 rfl rfl ?_
        refine V_iload (pc := 111) hC 3 dX6_ballots_111 rfl ?_
        obtain ⟨r5, g5, hf⟩ := bind_some hf
        refine V_callV (pc := 113) (rest := [.int v2]) (As := [.int v4]) hC lk_X6_132 (by decide) cel_X6 rfl (c_X6_holdBallot  g5) rfl rfl (Nat.le_of_ble_eq_true rfl) (by decide) dX6_ballots_113 ?_
        change V X E 6 116 [(0, .ref (E.2.1 (71))), (1, .int v1), (2, .int v2), (4, .int v4), (5, .int v5)] [.int r5.1, .int v2] r5.2
        refine V_if_eq (pc := 116) (tgt := 123) hC dX6_ballots_116 (by decide) (fun c6 => ?_) (fun c6 => ?_)
        · have hf := ite_t hf c6
          refine V_iconst (pc := 123) hC dX6_ballots_123 (v := (nI 0)) (by decide) ?_
          refine V_sub (pc := 124) (lv' := [(0, .ref (E.2.1 (71))), (1, .int v1)]) [0, 1] rfl ?_
          exact b_X6_ballots_124 hC hs9 hR hf
        · have hf := ite_f hf c6
          refine V_iconst (pc := 119) hC dX6_ballots_119 (v := (nI 1)) (by decide) ?_
          refine V_goto (pc := 120) (tgt := 124) hC dX6_ballots_120 (by decide) ?_
          refine V_sub (pc := 124) (lv' := [(0, .ref (E.2.1 (71))), (1, .int v1)]) [0, 1] rfl ?_
          exact b_X6_ballots_124 hC hs9 hR hf
    · have hf := ite_f hf c3
      refine V_aload_n (pc := 33) hC 0 dX6_ballots_33 rfl rfl ?_
      refine gf_X6_129 (pc := 34) hC dX6_ballots_34 ?_
      refine V_aload_n (pc := 37) hC 0 dX6_ballots_37 rfl rfl ?_
      refine gf_X6_126 (pc := 38) hC dX6_ballots_38 ?_
      refine V_icmp_eq (pc := 41) (tgt := 86) hC dX6_ballots_41 (by decide) (fun c7 => ?_) (fun c7 => ?_)
      · have hf := ite_t hf c7
        refine V_bipush (pc := 86) hC dX6_ballots_86 (v := (-5 : Int32)) (by decide) ?_
        have hf := Option.some.inj hf; subst hf
        exact V_ireturn (pc := 88) hR rfl dX6_ballots_88
      · have hf := ite_f hf c7
        refine V_aload_n (pc := 44) hC 0 dX6_ballots_44 rfl rfl ?_
        refine gf_X6_19 (pc := 45) hC dX6_ballots_45 ?_
        refine V_aload_n (pc := 48) hC 0 dX6_ballots_48 rfl rfl ?_
        refine gf_X6_129 (pc := 49) hC dX6_ballots_49 ?_
        obtain ⟨h8, hf⟩ := if_some hf
        refine V_cald (pc := 52) hC ca_75 (inB_of h8) dX6_ballots_52 ?_
        refine V_bipush (pc := 53) hC dX6_ballots_53 (v := (nI 43)) (by decide) ?_
        refine V_icmp_eq (pc := 55) (tgt := 89) hC dX6_ballots_55 (by decide) (fun c9 => ?_) (fun c9 => ?_)
        · have hf := ite_t hf c9
          exact b_X6_ballots_89 hC ih hR hf
        · have hf := ite_f hf c9
          refine V_aload_n (pc := 58) hC 0 dX6_ballots_58 rfl rfl ?_
          refine gf_X6_19 (pc := 59) hC dX6_ballots_59 ?_
          refine V_aload_n (pc := 62) hC 0 dX6_ballots_62 rfl rfl ?_
          refine gf_X6_129 (pc := 63) hC dX6_ballots_63 ?_
          obtain ⟨h10, hf⟩ := if_some hf
          refine V_cald (pc := 66) hC ca_75 (inB_of h10) dX6_ballots_66 ?_
          refine V_bipush (pc := 67) hC dX6_ballots_67 (v := (nI 45)) (by decide) ?_
          refine V_icmp_eq (pc := 69) (tgt := 89) hC dX6_ballots_69 (by decide) (fun c11 => ?_) (fun c11 => ?_)
          · have hf := ite_t hf c11
            exact b_X6_ballots_89 hC ih hR hf
          · have hf := ite_f hf c11
            refine V_aload_n (pc := 72) hC 0 dX6_ballots_72 rfl rfl ?_
            refine gf_X6_19 (pc := 73) hC dX6_ballots_73 ?_
            refine V_aload_n (pc := 76) hC 0 dX6_ballots_76 rfl rfl ?_
            refine gf_X6_129 (pc := 77) hC dX6_ballots_77 ?_
            obtain ⟨h12, hf⟩ := if_some hf
            refine V_cald (pc := 80) hC ca_75 (inB_of h12) dX6_ballots_80 ?_
            refine V_bipush (pc := 81) hC dX6_ballots_81 (v := (nI 48)) (by decide) ?_
            refine V_icmp_eq (pc := 83) (tgt := 89) hC dX6_ballots_83 (by decide) (fun c13 => ?_) (fun c13 => ?_)
            · have hf := ite_t hf c13
              exact b_X6_ballots_89 hC ih hR hf
            · have hf := ite_f hf c13
              refine V_bipush (pc := 86) hC dX6_ballots_86 (v := (-5 : Int32)) (by decide) ?_
              have hf := Option.some.inj hf; subst hf
              exact V_ireturn (pc := 88) hR rfl dX6_ballots_88
def f_X6_ballots_9 (k : Nat) (v1 : Int32) : Nat → Int32 → Int32 → Mem → Option (Int32 × Mem)
  | 0, _, _, _ => none
  | n + 1, v2, v3, I => (if v3 = 0 then (if (I (71) 6) ≤ (I (71) 7) then some (v2, I) else some ((-5 : Int32), I)) else f_X6_ballots_22 k v1 v2 (I (71) 7) (f_X6_ballots_9 k v1 n) k (nI 0) I)
set_option maxHeartbeats 4000000 in
set_option maxRecDepth 100000 in
theorem b_X6_ballots_9 {X : XT} {E : EN} {k : Nat} {v1 : Int32} {r : Int32 × Mem} (hC : Cx X E cX6_ballots 6 RX6 4 92) (hR : Rt X E cX6_ballots (some .int) (some (.int r.1)) r.2) : ∀ (n : Nat) (v2 : Int32) (v3 : Int32) (I : Mem), f_X6_ballots_9 k v1 n v2 v3 I = some r → V X E 6 9 [(0, .ref (E.2.1 (71))), (1, .int v1), (2, .int v2), (3, .int v3)] [] I := by
  intro n
  induction n with
  | zero =>
    intro v2 v3 I hf
    rw [f_X6_ballots_9] at hf
    cases hf
  | succ n ih =>
    intro v2 v3 I hf
    rw [f_X6_ballots_9] at hf
    refine V_iload_n (pc := 9) hC 3 dX6_ballots_9 rfl rfl ?_
    refine V_if_eq (pc := 10) (tgt := 178) hC dX6_ballots_10 (by decide) (fun c1 => ?_) (fun c1 => ?_)
    · have hf := ite_t hf c1
      refine V_aload_n (pc := 178) hC 0 dX6_ballots_178 rfl rfl ?_
      refine gf_X6_129 (pc := 179) hC dX6_ballots_179 ?_
      refine V_aload_n (pc := 182) hC 0 dX6_ballots_182 rfl rfl ?_
      refine gf_X6_126 (pc := 183) hC dX6_ballots_183 ?_
      refine V_icmp_ge (pc := 186) (tgt := 194) hC dX6_ballots_186 (by decide) (fun c2 => ?_) (fun c2 => ?_)
      · have hf := ite_t hf c2
        refine V_iload_n (pc := 194) hC 2 dX6_ballots_194 rfl rfl ?_
        have hf := Option.some.inj hf; subst hf
        exact V_ireturn (pc := 195) hR rfl dX6_ballots_195
      · have hf := ite_f hf c2
        refine V_bipush (pc := 189) hC dX6_ballots_189 (v := (-5 : Int32)) (by decide) ?_
        refine V_goto (pc := 191) (tgt := 195) hC dX6_ballots_191 (by decide) ?_
        have hf := Option.some.inj hf; subst hf
        exact V_ireturn (pc := 195) hR rfl dX6_ballots_195
    · have hf := ite_f hf c1
      refine V_aload_n (pc := 13) hC 0 dX6_ballots_13 rfl rfl ?_
      refine gf_X6_129 (pc := 14) hC dX6_ballots_14 ?_
      refine V_istore (pc := 17) (lv' := [(4, .int (I (71) 7)), (0, .ref (E.2.1 (71))), (1, .int v1), (2, .int v2), (3, .int v3)]) hC dX6_ballots_17 (by decide) rfl ?_
      refine V_iconst (pc := 19) hC dX6_ballots_19 (v := (nI 0)) (by decide) ?_
      refine V_istore (pc := 20) (lv' := [(5, .int (nI 0)), (4, .int (I (71) 7)), (0, .ref (E.2.1 (71))), (1, .int v1), (2, .int v2), (3, .int v3)]) hC dX6_ballots_20 (by decide) rfl ?_
      refine V_sub (pc := 22) (lv' := [(0, .ref (E.2.1 (71))), (1, .int v1), (2, .int v2), (4, .int (I (71) 7)), (5, .int (nI 0))]) [2, 3, 4, 1, 0] rfl ?_
      exact b_X6_ballots_22 hC ih hR k (nI 0) I hf
def f_X6_ballots (k : Nat) (v1 : Int32) (I : Mem) : Option (Int32 × Mem) := f_X6_ballots_9 k v1 k (nI 0) (nI 1) (up2 I (71) 7 (nI 0))
set_option maxHeartbeats 4000000 in
set_option maxRecDepth 100000 in
theorem c_X6_ballots {E : EN} {k : Nat} {v1 : Int32} {I : Mem} {r : Int32 × Mem} (hf : f_X6_ballots k v1 I = some r) : Ct E yX6_ballots cX6_ballots 6 (some .int) 4 92 [.ref (E.2.1 (71)), .int v1] I (some (.int r.1)) r.2 := by
  refine Ct_of (by decide) (Nat.le_of_ble_eq_true rfl) (fun X hC0 hR => ?_)
  have hC : Cx X E cX6_ballots 6 RX6 4 92 := hC0
  change V X E 6 0 [(0, .ref (E.2.1 (71))), (1, .int v1)] [] I
  unfold f_X6_ballots at hf
  refine V_aload_n (pc := 0) hC 0 dX6_ballots_0 rfl rfl ?_
  refine V_iconst (pc := 1) hC dX6_ballots_1 (v := (nI 0)) (by decide) ?_
  refine pf_X6_129 (pc := 2) hC dX6_ballots_2 ?_
  refine V_iconst (pc := 5) hC dX6_ballots_5 (v := (nI 0)) (by decide) ?_
  refine V_istore_n (pc := 6) (lv' := [(2, .int (nI 0)), (0, .ref (E.2.1 (71))), (1, .int v1)]) hC dX6_ballots_6 rfl (by decide) rfl ?_
  refine V_iconst (pc := 7) hC dX6_ballots_7 (v := (nI 1)) (by decide) ?_
  refine V_istore_n (pc := 8) (lv' := [(3, .int (nI 1)), (2, .int (nI 0)), (0, .ref (E.2.1 (71))), (1, .int v1)]) hC dX6_ballots_8 rfl (by decide) rfl ?_
  refine V_sub (pc := 9) (lv' := [(0, .ref (E.2.1 (71))), (1, .int v1), (2, .int (nI 0)), (3, .int (nI 1))]) [2, 3, 1, 0] rfl ?_
  exact b_X6_ballots_9 hC hR k (nI 0) (nI 1) (up2 I (71) 7 (nI 0)) hf
def f_X6_vote (k : Nat) (I : Mem) : Option (Int32 × Mem) := (if (I (72) (Int32.toNatClampNeg (nI 0))) = 0 then some ((-100 : Int32), I) else (Option.bind (f_X6_ballots k (nI 0) I) (fun r2 => (if 0 ≤ r2.1 then (Option.bind (f_X6_record k r2.2) (fun r4 => (Option.bind (f_X6_ballots k (nI 1) r4) (fun r5 => some (r5.1, r5.2))))) else some ((-100 : Int32) - (r2.2 (71) 7), r2.2)))))
set_option maxHeartbeats 4000000 in
set_option maxRecDepth 100000 in
theorem c_X6_vote {E : EN} {k : Nat} {I : Mem} {r : Int32 × Mem} (hf : f_X6_vote k I = some r) : Ct E yX6_vote cX6_vote 1 (some .int) 5 117 [.ref (E.2.1 (71))] I (some (.int r.1)) r.2 := by
  refine Ct_of (by decide) (Nat.le_of_ble_eq_true rfl) (fun X hC0 hR => ?_)
  have hC : Cx X E cX6_vote 1 RX6 5 117 := hC0
  change V X E 1 0 [(0, .ref (E.2.1 (71)))] [] I
  unfold f_X6_vote at hf
  refine V_aload_n (pc := 0) hC 0 dX6_vote_0 rfl rfl ?_
  refine gf_X6_7 (pc := 1) hC dX6_vote_1 ?_
  refine V_iconst (pc := 4) hC dX6_vote_4 (v := (nI 0)) (by decide) ?_
  refine V_iald (pc := 5) hC ia_72 (inB_of (by decide)) dX6_vote_5 ?_
  refine V_if_ne (pc := 6) (tgt := 12) hC dX6_vote_6 (by decide) (fun c1 => ?_) (fun c1 => ?_)
  · have hf := ite_f hf c1
    refine V_aload_n (pc := 12) hC 0 dX6_vote_12 rfl rfl ?_
    refine V_iconst (pc := 13) hC dX6_vote_13 (v := (nI 0)) (by decide) ?_
    obtain ⟨r2, g2, hf⟩ := bind_some hf
    refine V_callV (pc := 14) (rest := []) (As := [.int (nI 0)]) hC lk_X6_138 (by decide) cel_X6 rfl (c_X6_ballots  g2) rfl rfl (Nat.le_of_ble_eq_true rfl) (by decide) dX6_vote_14 ?_
    change V X E 1 17 [(0, .ref (E.2.1 (71)))] [.int r2.1] r2.2
    refine V_if_ge (pc := 17) (tgt := 28) hC dX6_vote_17 (by decide) (fun c3 => ?_) (fun c3 => ?_)
    · have hf := ite_t hf c3
      refine V_aload_n (pc := 28) hC 0 dX6_vote_28 rfl rfl ?_
      obtain ⟨r4, g4, hf⟩ := bind_some hf
      refine V_callV (pc := 29) (rest := []) (As := []) hC lk_X6_50 (by decide) cel_X6 rfl (c_X6_record  g4) rfl rfl (Nat.le_of_ble_eq_true rfl) (by decide) dX6_vote_29 ?_
      change V X E 1 32 [(0, .ref (E.2.1 (71)))] [] r4
      refine V_aload_n (pc := 32) hC 0 dX6_vote_32 rfl rfl ?_
      refine V_iconst (pc := 33) hC dX6_vote_33 (v := (nI 1)) (by decide) ?_
      obtain ⟨r5, g5, hf⟩ := bind_some hf
      refine V_callV (pc := 34) (rest := []) (As := [.int (nI 1)]) hC lk_X6_138 (by decide) cel_X6 rfl (c_X6_ballots  g5) rfl rfl (Nat.le_of_ble_eq_true rfl) (by decide) dX6_vote_34 ?_
      change V X E 1 37 [(0, .ref (E.2.1 (71)))] [.int r5.1] r5.2
      have hf := Option.some.inj hf; subst hf
      exact V_ireturn (pc := 37) hR rfl dX6_vote_37
    · have hf := ite_f hf c3
      refine V_bipush (pc := 20) hC dX6_vote_20 (v := (-100 : Int32)) (by decide) ?_
      refine V_aload_n (pc := 22) hC 0 dX6_vote_22 rfl rfl ?_
      refine gf_X6_129 (pc := 23) hC dX6_vote_23 ?_
      refine V_isub (pc := 26) hC dX6_vote_26 ?_
      have hf := Option.some.inj hf; subst hf
      exact V_ireturn (pc := 27) hR rfl dX6_vote_27
  · have hf := ite_t hf c1
    refine V_bipush (pc := 9) hC dX6_vote_9 (v := (-100 : Int32)) (by decide) ?_
    have hf := Option.some.inj hf; subst hf
    exact V_ireturn (pc := 11) hR rfl dX6_vote_11
def f_X6_rank_88 (k : Nat) (I : Mem) (v1 : Int32) (v3 : Int32) (sh4 : Int32 → Int32 → Option (Int32)) (w0 : Int32) : Option (Int32) := sh4 (w0 + (nI 0)) (v3 + (nI 1))
set_option maxHeartbeats 4000000 in
set_option maxRecDepth 100000 in
theorem b_X6_rank_88 {X : XT} {E : EN} {k : Nat} {I : Mem} {v1 : Int32} {v3 : Int32} {sh4 : Int32 → Int32 → Option (Int32)} {w0 : Int32} {r : Int32} (hC : Cx X E cX6_rank 5 RX6 1 22) (hs4 : ∀ (v2 : Int32) (v3 : Int32), sh4 v2 v3 = some r → V X E 5 4 [(0, .ref (E.2.1 (71))), (1, .int v1), (2, .int v2), (3, .int v3)] [] I) (hR : Rt X E cX6_rank (some .int) (some (.int r)) I) (hf : f_X6_rank_88 k I v1 v3 sh4 w0 = some r) : V X E 5 88 [(0, .ref (E.2.1 (71))), (1, .int v1), (3, .int v3)] [.int w0] I := by
  unfold f_X6_rank_88 at hf
  refine V_iconst (pc := 88) hC dX6_rank_88 (v := (nI 0)) (by decide) ?_
  refine V_iadd (pc := 89) hC dX6_rank_89 ?_
  refine V_istore_n (pc := 90) (lv' := [(2, .int (w0 + (nI 0))), (0, .ref (E.2.1 (71))), (1, .int v1), (3, .int v3)]) hC dX6_rank_90 rfl (by decide) rfl ?_
  refine V_iinc (pc := 91) (lv' := [(3, .int (v3 + (nI 1))), (2, .int (w0 + (nI 0))), (0, .ref (E.2.1 (71))), (1, .int v1)]) hC (nI 1) 3 dX6_rank_91 rfl (by decide) (by decide) rfl ?_
  refine V_goto (pc := 94) (tgt := 4) hC dX6_rank_94 (by decide) ?_
  refine V_sub (pc := 4) (lv' := [(0, .ref (E.2.1 (71))), (1, .int v1), (2, .int (w0 + (nI 0))), (3, .int (v3 + (nI 1)))]) [2, 3, 1, 0] rfl ?_
  exact hs4 (w0 + (nI 0)) (v3 + (nI 1)) hf
def f_X6_rank_84 (k : Nat) (I : Mem) (v1 : Int32) (v3 : Int32) (sh4 : Int32 → Int32 → Option (Int32)) (w0 : Int32) : Option (Int32) := sh4 (w0 + (nI 1)) (v3 + (nI 1))
set_option maxHeartbeats 4000000 in
set_option maxRecDepth 100000 in
theorem b_X6_rank_84 {X : XT} {E : EN} {k : Nat} {I : Mem} {v1 : Int32} {v3 : Int32} {sh4 : Int32 → Int32 → Option (Int32)} {w0 : Int32} {r : Int32} (hC : Cx X E cX6_rank 5 RX6 1 22) (hs4 : ∀ (v2 : Int32) (v3 : Int32), sh4 v2 v3 = some r → V X E 5 4 [(0, .ref (E.2.1 (71))), (1, .int v1), (2, .int v2), (3, .int v3)] [] I) (hR : Rt X E cX6_rank (some .int) (some (.int r)) I) (hf : f_X6_rank_84 k I v1 v3 sh4 w0 = some r) : V X E 5 84 [(0, .ref (E.2.1 (71))), (1, .int v1), (3, .int v3)] [.int w0] I := by
  unfold f_X6_rank_84 at hf
  refine V_iconst (pc := 84) hC dX6_rank_84 (v := (nI 1)) (by decide) ?_
  refine V_goto (pc := 85) (tgt := 89) hC dX6_rank_85 (by decide) ?_
  refine V_iadd (pc := 89) hC dX6_rank_89 ?_
  refine V_istore_n (pc := 90) (lv' := [(2, .int (w0 + (nI 1))), (0, .ref (E.2.1 (71))), (1, .int v1), (3, .int v3)]) hC dX6_rank_90 rfl (by decide) rfl ?_
  refine V_iinc (pc := 91) (lv' := [(3, .int (v3 + (nI 1))), (2, .int (w0 + (nI 1))), (0, .ref (E.2.1 (71))), (1, .int v1)]) hC (nI 1) 3 dX6_rank_91 rfl (by decide) (by decide) rfl ?_
  refine V_goto (pc := 94) (tgt := 4) hC dX6_rank_94 (by decide) ?_
  refine V_sub (pc := 4) (lv' := [(0, .ref (E.2.1 (71))), (1, .int v1), (2, .int (w0 + (nI 1))), (3, .int (v3 + (nI 1)))]) [2, 3, 1, 0] rfl ?_
  exact hs4 (w0 + (nI 1)) (v3 + (nI 1)) hf
def f_X6_rank_66 (k : Nat) (I : Mem) (v1 : Int32) (v2 : Int32) (v3 : Int32) (sh4 : Int32 → Int32 → Option (Int32)) (w0 : Int32) : Option (Int32) := (if 0 < w0 then f_X6_rank_84 k I v1 v3 sh4 v2 else (if w0 = 0 then (if v1 ≤ v3 then f_X6_rank_88 k I v1 v3 sh4 v2 else f_X6_rank_84 k I v1 v3 sh4 v2) else f_X6_rank_88 k I v1 v3 sh4 v2))
set_option maxHeartbeats 4000000 in
set_option maxRecDepth 100000 in
theorem b_X6_rank_66 {X : XT} {E : EN} {k : Nat} {I : Mem} {v1 : Int32} {v2 : Int32} {v3 : Int32} {sh4 : Int32 → Int32 → Option (Int32)} {w0 : Int32} {r : Int32} (hC : Cx X E cX6_rank 5 RX6 1 22) (hs4 : ∀ (v2 : Int32) (v3 : Int32), sh4 v2 v3 = some r → V X E 5 4 [(0, .ref (E.2.1 (71))), (1, .int v1), (2, .int v2), (3, .int v3)] [] I) (hR : Rt X E cX6_rank (some .int) (some (.int r)) I) (hf : f_X6_rank_66 k I v1 v2 v3 sh4 w0 = some r) : V X E 5 66 [(0, .ref (E.2.1 (71))), (1, .int v1), (2, .int v2), (3, .int v3)] [.int w0] I := by
  unfold f_X6_rank_66 at hf
  refine V_istore (pc := 66) (lv' := [(4, .int w0), (0, .ref (E.2.1 (71))), (1, .int v1), (2, .int v2), (3, .int v3)]) hC dX6_rank_66 (by decide) rfl ?_
  refine V_iload_n (pc := 68) hC 3 dX6_rank_68 rfl rfl ?_
  refine V_iload (pc := 69) hC 0 dX6_rank_69 rfl ?_
  refine V_if_gt (pc := 71) (tgt := 84) hC dX6_rank_71 (by decide) (fun c9 => ?_) (fun c9 => ?_)
  · have hf := ite_t hf c9
    refine V_sub (pc := 84) (lv' := [(0, .ref (E.2.1 (71))), (1, .int v1), (3, .int v3)]) [1, 2, 4] rfl ?_
    exact b_X6_rank_84 hC hs4 hR hf
  · have hf := ite_f hf c9
    refine V_iload (pc := 74) hC 0 dX6_rank_74 rfl ?_
    refine V_if_ne (pc := 76) (tgt := 88) hC dX6_rank_76 (by decide) (fun c10 => ?_) (fun c10 => ?_)
    · have hf := ite_f hf c10
      refine V_sub (pc := 88) (lv' := [(0, .ref (E.2.1 (71))), (1, .int v1), (3, .int v3)]) [1, 2, 4] rfl ?_
      exact b_X6_rank_88 hC hs4 hR hf
    · have hf := ite_t hf c10
      refine V_iload_n (pc := 79) hC 4 dX6_rank_79 rfl rfl ?_
      refine V_iload_n (pc := 80) hC 2 dX6_rank_80 rfl rfl ?_
      refine V_icmp_ge (pc := 81) (tgt := 88) hC dX6_rank_81 (by decide) (fun c11 => ?_) (fun c11 => ?_)
      · have hf := ite_t hf c11
        refine V_sub (pc := 88) (lv' := [(0, .ref (E.2.1 (71))), (1, .int v1), (3, .int v3)]) [1, 2, 4] rfl ?_
        exact b_X6_rank_88 hC hs4 hR hf
      · have hf := ite_f hf c11
        refine V_sub (pc := 84) (lv' := [(0, .ref (E.2.1 (71))), (1, .int v1), (3, .int v3)]) [1, 2, 4] rfl ?_
        exact b_X6_rank_84 hC hs4 hR hf
def f_X6_rank_4 (k : Nat) (I : Mem) (v1 : Int32) : Nat → Int32 → Int32 → Option (Int32)
  | 0, _, _ => none
  | n + 1, v2, v3 => (if (I (72) (Int32.toNatClampNeg (nI 0))) ≤ v3 then some v2 else (Option.bind (f_X6_blocOf k v3 I) (fun r2 => (if inB r2 10 = true then (Option.bind (f_X6_blocOf k v1 I) (fun r4 => (if inB r4 10 = true then (if ((I (80) (Int32.toNatClampNeg r2)) - (I (80) (Int32.toNatClampNeg r4))) = 0 then (if inB ((nI 29) + v3) 69 = true then (if inB ((nI 29) + v1) 69 = true then f_X6_rank_66 k I v1 v2 v3 (f_X6_rank_4 k I v1 n) ((I (72) (Int32.toNatClampNeg ((nI 29) + v3))) - (I (72) (Int32.toNatClampNeg ((nI 29) + v1)))) else none) else none) else f_X6_rank_66 k I v1 v2 v3 (f_X6_rank_4 k I v1 n) ((I (80) (Int32.toNatClampNeg r2)) - (I (80) (Int32.toNatClampNeg r4)))) else none))) else none))))
set_option maxHeartbeats 4000000 in
set_option maxRecDepth 100000 in
theorem b_X6_rank_4 {X : XT} {E : EN} {k : Nat} {I : Mem} {v1 : Int32} {r : Int32} (hC : Cx X E cX6_rank 5 RX6 1 22) (hR : Rt X E cX6_rank (some .int) (some (.int r)) I) : ∀ (n : Nat) (v2 : Int32) (v3 : Int32), f_X6_rank_4 k I v1 n v2 v3 = some r → V X E 5 4 [(0, .ref (E.2.1 (71))), (1, .int v1), (2, .int v2), (3, .int v3)] [] I := by
  intro n
  induction n with
  | zero =>
    intro v2 v3 hf
    rw [f_X6_rank_4] at hf
    cases hf
  | succ n ih =>
    intro v2 v3 hf
    rw [f_X6_rank_4] at hf
    refine V_iload_n (pc := 4) hC 3 dX6_rank_4 rfl rfl ?_
    refine V_aload_n (pc := 5) hC 0 dX6_rank_5 rfl rfl ?_
    refine gf_X6_7 (pc := 6) hC dX6_rank_6 ?_
    refine V_iconst (pc := 9) hC dX6_rank_9 (v := (nI 0)) (by decide) ?_
    refine V_iald (pc := 10) hC ia_72 (inB_of (by decide)) dX6_rank_10 ?_
    refine V_icmp_ge (pc := 11) (tgt := 97) hC dX6_rank_11 (by decide) (fun c1 => ?_) (fun c1 => ?_)
    · have hf := ite_t hf c1
      refine V_iload_n (pc := 97) hC 2 dX6_rank_97 rfl rfl ?_
      have hf := Option.some.inj hf; subst hf
      exact V_ireturn (pc := 98) hR rfl dX6_rank_98
    · have hf := ite_f hf c1
      refine V_aload_n (pc := 14) hC 0 dX6_rank_14 rfl rfl ?_
      refine gf_X6_36 (pc := 15) hC dX6_rank_15 ?_
      refine V_aload_n (pc := 18) hC 0 dX6_rank_18 rfl rfl ?_
      refine V_iload_n (pc := 19) hC 3 dX6_rank_19 rfl rfl ?_
      obtain ⟨r2, g2, hf⟩ := bind_some hf
      refine V_callV (pc := 20) (rest := [.ref (E.2.1 (80))]) (As := [.int v3]) hC lk_X6_83 (by decide) cel_X6 rfl (c_X6_blocOf  g2) rfl rfl (Nat.le_of_ble_eq_true rfl) (by decide) dX6_rank_20 ?_
      change V X E 5 23 [(0, .ref (E.2.1 (71))), (1, .int v1), (2, .int v2), (3, .int v3)] [.int r2, .ref (E.2.1 (80))] I
      obtain ⟨h3, hf⟩ := if_some hf
      refine V_iald (pc := 23) hC ia_80 (inB_of h3) dX6_rank_23 ?_
      refine V_aload_n (pc := 24) hC 0 dX6_rank_24 rfl rfl ?_
      refine gf_X6_36 (pc := 25) hC dX6_rank_25 ?_
      refine V_aload_n (pc := 28) hC 0 dX6_rank_28 rfl rfl ?_
      refine V_iload_n (pc := 29) hC 1 dX6_rank_29 rfl rfl ?_
      obtain ⟨r4, g4, hf⟩ := bind_some hf
      refine V_callV (pc := 30) (rest := [.ref (E.2.1 (80)), .int (I (80) (Int32.toNatClampNeg r2))]) (As := [.int v1]) hC lk_X6_83 (by decide) cel_X6 rfl (c_X6_blocOf  g4) rfl rfl (Nat.le_of_ble_eq_true rfl) (by decide) dX6_rank_30 ?_
      change V X E 5 33 [(0, .ref (E.2.1 (71))), (1, .int v1), (2, .int v2), (3, .int v3)] [.int r4, .ref (E.2.1 (80)), .int (I (80) (Int32.toNatClampNeg r2))] I
      obtain ⟨h5, hf⟩ := if_some hf
      refine V_iald (pc := 33) hC ia_80 (inB_of h5) dX6_rank_33 ?_
      refine V_isub (pc := 34) hC dX6_rank_34 ?_
      refine V_istore (pc := 35) (lv' := [(4, .int ((I (80) (Int32.toNatClampNeg r2)) - (I (80) (Int32.toNatClampNeg r4)))), (0, .ref (E.2.1 (71))), (1, .int v1), (2, .int v2), (3, .int v3)]) hC dX6_rank_35 (by decide) rfl ?_
      refine V_iload (pc := 37) hC 0 dX6_rank_37 rfl ?_
      refine V_if_ne (pc := 39) (tgt := 64) hC dX6_rank_39 (by decide) (fun c6 => ?_) (fun c6 => ?_)
      · have hf := ite_f hf c6
        refine V_iload (pc := 64) hC 0 dX6_rank_64 rfl ?_
        refine V_sub (pc := 66) (lv' := [(0, .ref (E.2.1 (71))), (1, .int v1), (2, .int v2), (3, .int v3)]) [1, 2, 3, 4] rfl ?_
        exact b_X6_rank_66 hC ih hR hf
      · have hf := ite_t hf c6
        refine V_aload_n (pc := 42) hC 1 dX6_rank_42 rfl rfl ?_
        refine gf_X6_7 (pc := 43) hC dX6_rank_43 ?_
        refine V_bipush (pc := 46) hC dX6_rank_46 (v := (nI 29)) (by decide) ?_
        refine V_iload_n (pc := 48) hC 4 dX6_rank_48 rfl rfl ?_
        refine V_iadd (pc := 49) hC dX6_rank_49 ?_
        obtain ⟨h7, hf⟩ := if_some hf
        refine V_iald (pc := 50) hC ia_72 (inB_of h7) dX6_rank_50 ?_
        refine V_aload_n (pc := 51) hC 1 dX6_rank_51 rfl rfl ?_
        refine gf_X6_7 (pc := 52) hC dX6_rank_52 ?_
        refine V_bipush (pc := 55) hC dX6_rank_55 (v := (nI 29)) (by decide) ?_
        refine V_iload_n (pc := 57) hC 2 dX6_rank_57 rfl rfl ?_
        refine V_iadd (pc := 58) hC dX6_rank_58 ?_
        obtain ⟨h8, hf⟩ := if_some hf
        refine V_iald (pc := 59) hC ia_72 (inB_of h8) dX6_rank_59 ?_
        refine V_isub (pc := 60) hC dX6_rank_60 ?_
        refine V_goto (pc := 61) (tgt := 66) hC dX6_rank_61 (by decide) ?_
        refine V_sub (pc := 66) (lv' := [(0, .ref (E.2.1 (71))), (1, .int v1), (2, .int v2), (3, .int v3)]) [1, 2, 3, 4] rfl ?_
        exact b_X6_rank_66 hC ih hR hf
def f_X6_rank (k : Nat) (v1 : Int32) (I : Mem) : Option (Int32) := f_X6_rank_4 k I v1 k (nI 0) (nI 0)
set_option maxHeartbeats 4000000 in
set_option maxRecDepth 100000 in
theorem c_X6_rank {E : EN} {k : Nat} {v1 : Int32} {I : Mem} {r : Int32} (hf : f_X6_rank k v1 I = some r) : Ct E yX6_rank cX6_rank 5 (some .int) 1 22 [.ref (E.2.1 (71)), .int v1] I (some (.int r)) I := by
  refine Ct_of (by decide) (Nat.le_of_ble_eq_true rfl) (fun X hC0 hR => ?_)
  have hC : Cx X E cX6_rank 5 RX6 1 22 := hC0
  change V X E 5 0 [(0, .ref (E.2.1 (71))), (1, .int v1)] [] I
  unfold f_X6_rank at hf
  refine V_iconst (pc := 0) hC dX6_rank_0 (v := (nI 0)) (by decide) ?_
  refine V_istore_n (pc := 1) (lv' := [(2, .int (nI 0)), (0, .ref (E.2.1 (71))), (1, .int v1)]) hC dX6_rank_1 rfl (by decide) rfl ?_
  refine V_iconst (pc := 2) hC dX6_rank_2 (v := (nI 0)) (by decide) ?_
  refine V_istore_n (pc := 3) (lv' := [(3, .int (nI 0)), (2, .int (nI 0)), (0, .ref (E.2.1 (71))), (1, .int v1)]) hC dX6_rank_3 rfl (by decide) rfl ?_
  refine V_sub (pc := 4) (lv' := [(0, .ref (E.2.1 (71))), (1, .int v1), (2, .int (nI 0)), (3, .int (nI 0))]) [2, 3, 1, 0] rfl ?_
  exact b_X6_rank_4 hC hR k (nI 0) (nI 0) hf
def f_X6_member (k : Nat) (v1 : Int32) (v2 : Int32) (I : Mem) : Option (Int32 × Mem) := (Option.bind (f_X6_noMember k v1 I) (fun r1 => (if r1 = 0 then (Option.bind (f_X6_findNow k I) (fun r3 => (Option.bind (f_X6_blocOf k v1 r3) (fun r4 => (if v2 = (nI 0) then (if inB ((nI 29) + v1) 69 = true then some (r3 (72) (Int32.toNatClampNeg ((nI 29) + v1)), r3) else none) else (if v2 = (nI 1) then (if inB ((nI 39) + v1) 69 = true then some (r3 (72) (Int32.toNatClampNeg ((nI 39) + v1)), r3) else none) else (if v2 = (nI 2) then (if inB ((nI 49) + v1) 69 = true then some (r3 (72) (Int32.toNatClampNeg ((nI 49) + v1)), r3) else none) else (if v2 = (nI 3) then (if inB r4 10 = true then some (r3 (77) (Int32.toNatClampNeg r4), r3) else none) else (if v2 = (nI 4) then (Option.bind (f_X6_leader k v1 r3) (fun r14 => some (r14, r3))) else (if v2 = (nI 5) then (if inB r4 10 = true then some (r3 (80) (Int32.toNatClampNeg r4), r3) else none) else (if v2 = (nI 6) then (Option.bind (f_X6_orders k r4 r3) (fun r18 => some (r18, r3))) else (if v2 = (nI 7) then (if inB r4 10 = true then (if (r3 (80) (Int32.toNatClampNeg r4)) = 0 then some ((nI 1), r3) else some ((nI 0), r3)) else none) else (if v2 = (nI 8) then (Option.bind (f_X6_isBlocker k r4 r3) (fun r23 => (if r23 = 0 then some ((nI 0), r3) else some ((nI 1), r3)))) else (if v2 = (nI 9) then (Option.bind (f_X6_isDictator k r4 r3) (fun r26 => (if r26 = 0 then some ((nI 0), r3) else some ((nI 1), r3)))) else (if v2 = (nI 10) then (Option.bind (f_X6_rank k v1 r3) (fun r29 => some (r29, r3))) else (if v2 = (nI 11) then (if inB ((nI 59) + v1) 69 = true then some (r3 (72) (Int32.toNatClampNeg ((nI 59) + v1)), r3) else none) else some ((-2 : Int32), r3))))))))))))))))) else some ((-1 : Int32), I))))
set_option maxHeartbeats 4000000 in
set_option maxRecDepth 100000 in
theorem c_X6_member {E : EN} {k : Nat} {v1 : Int32} {v2 : Int32} {I : Mem} {r : Int32 × Mem} (hf : f_X6_member k v1 v2 I = some r) : Ct E yX6_member cX6_member 4 (some .int) 5 109 [.ref (E.2.1 (71)), .int v1, .int v2] I (some (.int r.1)) r.2 := by
  refine Ct_of (by decide) (Nat.le_of_ble_eq_true rfl) (fun X hC0 hR => ?_)
  have hC : Cx X E cX6_member 4 RX6 5 109 := hC0
  change V X E 4 0 [(0, .ref (E.2.1 (71))), (1, .int v1), (2, .int v2)] [] I
  unfold f_X6_member at hf
  refine V_aload_n (pc := 0) hC 0 dX6_member_0 rfl rfl ?_
  refine V_iload_n (pc := 1) hC 1 dX6_member_1 rfl rfl ?_
  obtain ⟨r1, g1, hf⟩ := bind_some hf
  refine V_callV (pc := 2) (rest := []) (As := [.int v1]) hC lk_X6_57 (by decide) cel_X6 rfl (c_X6_noMember  g1) rfl rfl (Nat.le_of_ble_eq_true rfl) (by decide) dX6_member_2 ?_
  change V X E 4 5 [(0, .ref (E.2.1 (71))), (1, .int v1), (2, .int v2)] [.int r1] I
  refine V_if_eq (pc := 5) (tgt := 10) hC dX6_member_5 (by decide) (fun c2 => ?_) (fun c2 => ?_)
  · have hf := ite_t hf c2
    refine V_aload_n (pc := 10) hC 0 dX6_member_10 rfl rfl ?_
    obtain ⟨r3, g3, hf⟩ := bind_some hf
    refine V_callV (pc := 11) (rest := []) (As := []) hC lk_X6_114 (by decide) cel_X6 rfl (c_X6_findNow  g3) rfl rfl (Nat.le_of_ble_eq_true rfl) (by decide) dX6_member_11 ?_
    change V X E 4 14 [(0, .ref (E.2.1 (71))), (1, .int v1), (2, .int v2)] [] r3
    refine V_aload_n (pc := 14) hC 0 dX6_member_14 rfl rfl ?_
    refine V_iload_n (pc := 15) hC 1 dX6_member_15 rfl rfl ?_
    obtain ⟨r4, g4, hf⟩ := bind_some hf
    refine V_callV (pc := 16) (rest := []) (As := [.int v1]) hC lk_X6_83 (by decide) cel_X6 rfl (c_X6_blocOf  g4) rfl rfl (Nat.le_of_ble_eq_true rfl) (by decide) dX6_member_16 ?_
    change V X E 4 19 [(0, .ref (E.2.1 (71))), (1, .int v1), (2, .int v2)] [.int r4] r3
    refine V_istore_n (pc := 19) (lv' := [(3, .int r4), (0, .ref (E.2.1 (71))), (1, .int v1), (2, .int v2)]) hC dX6_member_19 rfl (by decide) rfl ?_
    refine V_iload_n (pc := 20) hC 3 dX6_member_20 rfl rfl ?_
    by_cases c5 : v2 = (nI 0)
    · have hf := ite_t hf c5
      refine V_tableIn (pc := 21) (tgt := 84) (off := 63) hC dX6_member_21 (by rw [c5]; decide) (by rw [c5]; decide) (by rw [c5]; decide) (by decide) ?_
      refine V_aload_n (pc := 84) hC 1 dX6_member_84 rfl rfl ?_
      refine gf_X6_7 (pc := 85) hC dX6_member_85 ?_
      refine V_bipush (pc := 88) hC dX6_member_88 (v := (nI 29)) (by decide) ?_
      refine V_iload_n (pc := 90) hC 2 dX6_member_90 rfl rfl ?_
      refine V_iadd (pc := 91) hC dX6_member_91 ?_
      obtain ⟨h6, hf⟩ := if_some hf
      refine V_iald (pc := 92) hC ia_72 (inB_of h6) dX6_member_92 ?_
      have hf := Option.some.inj hf; subst hf
      exact V_ireturn (pc := 93) hR rfl dX6_member_93
    have hf := ite_f hf c5
    by_cases c7 : v2 = (nI 1)
    · have hf := ite_t hf c7
      refine V_tableIn (pc := 21) (tgt := 94) (off := 73) hC dX6_member_21 (by rw [c7]; decide) (by rw [c7]; decide) (by rw [c7]; decide) (by decide) ?_
      refine V_aload_n (pc := 94) hC 1 dX6_member_94 rfl rfl ?_
      refine gf_X6_7 (pc := 95) hC dX6_member_95 ?_
      refine V_bipush (pc := 98) hC dX6_member_98 (v := (nI 39)) (by decide) ?_
      refine V_iload_n (pc := 100) hC 2 dX6_member_100 rfl rfl ?_
      refine V_iadd (pc := 101) hC dX6_member_101 ?_
      obtain ⟨h8, hf⟩ := if_some hf
      refine V_iald (pc := 102) hC ia_72 (inB_of h8) dX6_member_102 ?_
      have hf := Option.some.inj hf; subst hf
      exact V_ireturn (pc := 103) hR rfl dX6_member_103
    have hf := ite_f hf c7
    by_cases c9 : v2 = (nI 2)
    · have hf := ite_t hf c9
      refine V_tableIn (pc := 21) (tgt := 104) (off := 83) hC dX6_member_21 (by rw [c9]; decide) (by rw [c9]; decide) (by rw [c9]; decide) (by decide) ?_
      refine V_aload_n (pc := 104) hC 1 dX6_member_104 rfl rfl ?_
      refine gf_X6_7 (pc := 105) hC dX6_member_105 ?_
      refine V_bipush (pc := 108) hC dX6_member_108 (v := (nI 49)) (by decide) ?_
      refine V_iload_n (pc := 110) hC 2 dX6_member_110 rfl rfl ?_
      refine V_iadd (pc := 111) hC dX6_member_111 ?_
      obtain ⟨h10, hf⟩ := if_some hf
      refine V_iald (pc := 112) hC ia_72 (inB_of h10) dX6_member_112 ?_
      have hf := Option.some.inj hf; subst hf
      exact V_ireturn (pc := 113) hR rfl dX6_member_113
    have hf := ite_f hf c9
    by_cases c11 : v2 = (nI 3)
    · have hf := ite_t hf c11
      refine V_tableIn (pc := 21) (tgt := 114) (off := 93) hC dX6_member_21 (by rw [c11]; decide) (by rw [c11]; decide) (by rw [c11]; decide) (by decide) ?_
      refine V_aload_n (pc := 114) hC 1 dX6_member_114 rfl rfl ?_
      refine gf_X6_26 (pc := 115) hC dX6_member_115 ?_
      refine V_iload_n (pc := 118) hC 0 dX6_member_118 rfl rfl ?_
      obtain ⟨h12, hf⟩ := if_some hf
      refine V_iald (pc := 119) hC ia_77 (inB_of h12) dX6_member_119 ?_
      have hf := Option.some.inj hf; subst hf
      exact V_ireturn (pc := 120) hR rfl dX6_member_120
    have hf := ite_f hf c11
    by_cases c13 : v2 = (nI 4)
    · have hf := ite_t hf c13
      refine V_tableIn (pc := 21) (tgt := 121) (off := 100) hC dX6_member_21 (by rw [c13]; decide) (by rw [c13]; decide) (by rw [c13]; decide) (by decide) ?_
      refine V_aload_n (pc := 121) hC 1 dX6_member_121 rfl rfl ?_
      refine V_iload_n (pc := 122) hC 2 dX6_member_122 rfl rfl ?_
      obtain ⟨r14, g14, hf⟩ := bind_some hf
      refine V_callV (pc := 123) (rest := []) (As := [.int v1]) hC lk_X6_135 (by decide) cel_X6 rfl (c_X6_leader  g14) rfl rfl (Nat.le_of_ble_eq_true rfl) (by decide) dX6_member_123 ?_
      change V X E 4 126 [(3, .int r4), (0, .ref (E.2.1 (71))), (1, .int v1), (2, .int v2)] [.int r14] r3
      have hf := Option.some.inj hf; subst hf
      exact V_ireturn (pc := 126) hR rfl dX6_member_126
    have hf := ite_f hf c13
    by_cases c15 : v2 = (nI 5)
    · have hf := ite_t hf c15
      refine V_tableIn (pc := 21) (tgt := 127) (off := 106) hC dX6_member_21 (by rw [c15]; decide) (by rw [c15]; decide) (by rw [c15]; decide) (by decide) ?_
      refine V_aload_n (pc := 127) hC 1 dX6_member_127 rfl rfl ?_
      refine gf_X6_36 (pc := 128) hC dX6_member_128 ?_
      refine V_iload_n (pc := 131) hC 0 dX6_member_131 rfl rfl ?_
      obtain ⟨h16, hf⟩ := if_some hf
      refine V_iald (pc := 132) hC ia_80 (inB_of h16) dX6_member_132 ?_
      have hf := Option.some.inj hf; subst hf
      exact V_ireturn (pc := 133) hR rfl dX6_member_133
    have hf := ite_f hf c15
    by_cases c17 : v2 = (nI 6)
    · have hf := ite_t hf c17
      refine V_tableIn (pc := 21) (tgt := 134) (off := 113) hC dX6_member_21 (by rw [c17]; decide) (by rw [c17]; decide) (by rw [c17]; decide) (by decide) ?_
      refine V_aload_n (pc := 134) hC 1 dX6_member_134 rfl rfl ?_
      refine V_iload_n (pc := 135) hC 0 dX6_member_135 rfl rfl ?_
      obtain ⟨r18, g18, hf⟩ := bind_some hf
      refine V_callV (pc := 136) (rest := []) (As := [.int r4]) hC lk_X6_142 (by decide) cel_X6 rfl (c_X6_orders  g18) rfl rfl (Nat.le_of_ble_eq_true rfl) (by decide) dX6_member_136 ?_
      change V X E 4 139 [(3, .int r4), (0, .ref (E.2.1 (71))), (1, .int v1), (2, .int v2)] [.int r18] r3
      have hf := Option.some.inj hf; subst hf
      exact V_ireturn (pc := 139) hR rfl dX6_member_139
    have hf := ite_f hf c17
    by_cases c19 : v2 = (nI 7)
    · have hf := ite_t hf c19
      refine V_tableIn (pc := 21) (tgt := 140) (off := 119) hC dX6_member_21 (by rw [c19]; decide) (by rw [c19]; decide) (by rw [c19]; decide) (by decide) ?_
      refine V_aload_n (pc := 140) hC 1 dX6_member_140 rfl rfl ?_
      refine gf_X6_36 (pc := 141) hC dX6_member_141 ?_
      refine V_iload_n (pc := 144) hC 0 dX6_member_144 rfl rfl ?_
      obtain ⟨h20, hf⟩ := if_some hf
      refine V_iald (pc := 145) hC ia_80 (inB_of h20) dX6_member_145 ?_
      refine V_if_ne (pc := 146) (tgt := 153) hC dX6_member_146 (by decide) (fun c21 => ?_) (fun c21 => ?_)
      · have hf := ite_f hf c21
        refine V_iconst (pc := 153) hC dX6_member_153 (v := (nI 0)) (by decide) ?_
        have hf := Option.some.inj hf; subst hf
        exact V_ireturn (pc := 154) hR rfl dX6_member_154
      · have hf := ite_t hf c21
        refine V_iconst (pc := 149) hC dX6_member_149 (v := (nI 1)) (by decide) ?_
        refine V_goto (pc := 150) (tgt := 154) hC dX6_member_150 (by decide) ?_
        have hf := Option.some.inj hf; subst hf
        exact V_ireturn (pc := 154) hR rfl dX6_member_154
    have hf := ite_f hf c19
    by_cases c22 : v2 = (nI 8)
    · have hf := ite_t hf c22
      refine V_tableIn (pc := 21) (tgt := 155) (off := 134) hC dX6_member_21 (by rw [c22]; decide) (by rw [c22]; decide) (by rw [c22]; decide) (by decide) ?_
      refine V_aload_n (pc := 155) hC 1 dX6_member_155 rfl rfl ?_
      refine V_iload_n (pc := 156) hC 0 dX6_member_156 rfl rfl ?_
      obtain ⟨r23, g23, hf⟩ := bind_some hf
      refine V_callV (pc := 157) (rest := []) (As := [.int r4]) hC lk_X6_145 (by decide) cel_X6 rfl (c_X6_isBlocker  g23) rfl rfl (Nat.le_of_ble_eq_true rfl) (by decide) dX6_member_157 ?_
      change V X E 4 160 [(3, .int r4), (0, .ref (E.2.1 (71))), (1, .int v1), (2, .int v2)] [.int r23] r3
      refine V_if_eq (pc := 160) (tgt := 167) hC dX6_member_160 (by decide) (fun c24 => ?_) (fun c24 => ?_)
      · have hf := ite_t hf c24
        refine V_iconst (pc := 167) hC dX6_member_167 (v := (nI 0)) (by decide) ?_
        have hf := Option.some.inj hf; subst hf
        exact V_ireturn (pc := 168) hR rfl dX6_member_168
      · have hf := ite_f hf c24
        refine V_iconst (pc := 163) hC dX6_member_163 (v := (nI 1)) (by decide) ?_
        refine V_goto (pc := 164) (tgt := 168) hC dX6_member_164 (by decide) ?_
        have hf := Option.some.inj hf; subst hf
        exact V_ireturn (pc := 168) hR rfl dX6_member_168
    have hf := ite_f hf c22
    by_cases c25 : v2 = (nI 9)
    · have hf := ite_t hf c25
      refine V_tableIn (pc := 21) (tgt := 169) (off := 148) hC dX6_member_21 (by rw [c25]; decide) (by rw [c25]; decide) (by rw [c25]; decide) (by decide) ?_
      refine V_aload_n (pc := 169) hC 1 dX6_member_169 rfl rfl ?_
      refine V_iload_n (pc := 170) hC 0 dX6_member_170 rfl rfl ?_
      obtain ⟨r26, g26, hf⟩ := bind_some hf
      refine V_callV (pc := 171) (rest := []) (As := [.int r4]) hC lk_X6_148 (by decide) cel_X6 rfl (c_X6_isDictator  g26) rfl rfl (Nat.le_of_ble_eq_true rfl) (by decide) dX6_member_171 ?_
      change V X E 4 174 [(3, .int r4), (0, .ref (E.2.1 (71))), (1, .int v1), (2, .int v2)] [.int r26] r3
      refine V_if_eq (pc := 174) (tgt := 181) hC dX6_member_174 (by decide) (fun c27 => ?_) (fun c27 => ?_)
      · have hf := ite_t hf c27
        refine V_iconst (pc := 181) hC dX6_member_181 (v := (nI 0)) (by decide) ?_
        have hf := Option.some.inj hf; subst hf
        exact V_ireturn (pc := 182) hR rfl dX6_member_182
      · have hf := ite_f hf c27
        refine V_iconst (pc := 177) hC dX6_member_177 (v := (nI 1)) (by decide) ?_
        refine V_goto (pc := 178) (tgt := 182) hC dX6_member_178 (by decide) ?_
        have hf := Option.some.inj hf; subst hf
        exact V_ireturn (pc := 182) hR rfl dX6_member_182
    have hf := ite_f hf c25
    by_cases c28 : v2 = (nI 10)
    · have hf := ite_t hf c28
      refine V_tableIn (pc := 21) (tgt := 183) (off := 162) hC dX6_member_21 (by rw [c28]; decide) (by rw [c28]; decide) (by rw [c28]; decide) (by decide) ?_
      refine V_aload_n (pc := 183) hC 1 dX6_member_183 rfl rfl ?_
      refine V_iload_n (pc := 184) hC 2 dX6_member_184 rfl rfl ?_
      obtain ⟨r29, g29, hf⟩ := bind_some hf
      refine V_callV (pc := 185) (rest := []) (As := [.int v1]) hC lk_X6_151 (by decide) cel_X6 rfl (c_X6_rank  g29) rfl rfl (Nat.le_of_ble_eq_true rfl) (by decide) dX6_member_185 ?_
      change V X E 4 188 [(3, .int r4), (0, .ref (E.2.1 (71))), (1, .int v1), (2, .int v2)] [.int r29] r3
      have hf := Option.some.inj hf; subst hf
      exact V_ireturn (pc := 188) hR rfl dX6_member_188
    have hf := ite_f hf c28
    by_cases c30 : v2 = (nI 11)
    · have hf := ite_t hf c30
      refine V_tableIn (pc := 21) (tgt := 189) (off := 168) hC dX6_member_21 (by rw [c30]; decide) (by rw [c30]; decide) (by rw [c30]; decide) (by decide) ?_
      refine V_aload_n (pc := 189) hC 1 dX6_member_189 rfl rfl ?_
      refine gf_X6_7 (pc := 190) hC dX6_member_190 ?_
      refine V_bipush (pc := 193) hC dX6_member_193 (v := (nI 59)) (by decide) ?_
      refine V_iload_n (pc := 195) hC 2 dX6_member_195 rfl rfl ?_
      refine V_iadd (pc := 196) hC dX6_member_196 ?_
      obtain ⟨h31, hf⟩ := if_some hf
      refine V_iald (pc := 197) hC ia_72 (inB_of h31) dX6_member_197 ?_
      have hf := Option.some.inj hf; subst hf
      exact V_ireturn (pc := 198) hR rfl dX6_member_198
    have hf := ite_f hf c30
    refine V_tableOut (pc := 21) (tgt := 199) hC dX6_member_21 (by have zc5 := lv_neT c5 (a := 0) (by decide); have zc7 := lv_neT c7 (a := 1) (by decide); have zc9 := lv_neT c9 (a := 2) (by decide); have zc11 := lv_neT c11 (a := 3) (by decide); have zc13 := lv_neT c13 (a := 4) (by decide); have zc15 := lv_neT c15 (a := 5) (by decide); have zc17 := lv_neT c17 (a := 6) (by decide); have zc19 := lv_neT c19 (a := 7) (by decide); have zc22 := lv_neT c22 (a := 8) (by decide); have zc25 := lv_neT c25 (a := 9) (by decide); have zc28 := lv_neT c28 (a := 10) (by decide); have zc30 := lv_neT c30 (a := 11) (by decide); omega) (by decide) ?_
    refine V_bipush (pc := 199) hC dX6_member_199 (v := (-2 : Int32)) (by decide) ?_
    have hf := Option.some.inj hf; subst hf
    exact V_ireturn (pc := 201) hR rfl dX6_member_201
  · have hf := ite_f hf c2
    refine V_iconst (pc := 8) hC dX6_member_8 (v := (-1 : Int32)) (by decide) ?_
    have hf := Option.some.inj hf; subst hf
    exact V_ireturn (pc := 9) hR rfl dX6_member_9
def f_X6_common_4 (k : Nat) : Nat → Int32 → Int32 → Option (Int32)
  | 0, _, _ => none
  | n + 1, v2, v3 => (if v3 = 0 then some v2 else (if ¬ v3 = 0 then (f_X6_common_4 k n) v3 (v2 - v2 / v3 * v3) else none))
set_option maxHeartbeats 4000000 in
set_option maxRecDepth 100000 in
theorem b_X6_common_4 {X : XT} {E : EN} {k : Nat} {I : Mem} {r : Int32} (hC : Cx X E cX6_common 5 RX6 0 0) (hR : Rt X E cX6_common (some .int) (some (.int r)) I) : ∀ (n : Nat) (v2 : Int32) (v3 : Int32), f_X6_common_4 k n v2 v3 = some r → V X E 5 4 [(2, .int v2), (3, .int v3)] [] I := by
  intro n
  induction n with
  | zero =>
    intro v2 v3 hf
    rw [f_X6_common_4] at hf
    cases hf
  | succ n ih =>
    intro v2 v3 hf
    rw [f_X6_common_4] at hf
    refine V_iload_n (pc := 4) hC 1 dX6_common_4 rfl rfl ?_
    refine V_if_eq (pc := 5) (tgt := 21) hC dX6_common_5 (by decide) (fun c1 => ?_) (fun c1 => ?_)
    · have hf := ite_t hf c1
      refine V_iload_n (pc := 21) hC 0 dX6_common_21 rfl rfl ?_
      have hf := Option.some.inj hf; subst hf
      exact V_ireturn (pc := 22) hR rfl dX6_common_22
    · have hf := ite_f hf c1
      refine V_iload_n (pc := 8) hC 0 dX6_common_8 rfl rfl ?_
      refine V_iload_n (pc := 9) hC 1 dX6_common_9 rfl rfl ?_
      obtain ⟨h2, hf⟩ := if_some hf
      refine V_irem (pc := 10) hC h2 dX6_common_10 ?_
      refine V_istore (pc := 11) (lv' := [(4, .int (v2 - v2 / v3 * v3)), (2, .int v2), (3, .int v3)]) hC dX6_common_11 (by decide) rfl ?_
      refine V_iload_n (pc := 13) hC 2 dX6_common_13 rfl rfl ?_
      refine V_istore_n (pc := 14) (lv' := [(2, .int v3), (4, .int (v2 - v2 / v3 * v3)), (3, .int v3)]) hC dX6_common_14 rfl (by decide) rfl ?_
      refine V_iload (pc := 15) hC 1 dX6_common_15 rfl ?_
      refine V_istore_n (pc := 17) (lv' := [(3, .int (v2 - v2 / v3 * v3)), (2, .int v3), (4, .int (v2 - v2 / v3 * v3))]) hC dX6_common_17 rfl (by decide) rfl ?_
      refine V_goto (pc := 18) (tgt := 4) hC dX6_common_18 (by decide) ?_
      refine V_sub (pc := 4) (lv' := [(2, .int v3), (3, .int (v2 - v2 / v3 * v3))]) [1, 0] rfl ?_
      exact ih v3 (v2 - v2 / v3 * v3) hf
def f_X6_common (k : Nat) (v0 : Int32) (v1 : Int32) : Option (Int32) := f_X6_common_4 k k v0 v1
set_option maxHeartbeats 4000000 in
set_option maxRecDepth 100000 in
theorem c_X6_common {E : EN} {k : Nat} {v0 : Int32} {v1 : Int32} {I : Mem} {r : Int32} (hf : f_X6_common k v0 v1 = some r) : Ct E yX6_common cX6_common 5 (some .int) 0 0 [.int v0, .int v1] I (some (.int r)) I := by
  refine Ct_of (by decide) (Nat.le_of_ble_eq_true rfl) (fun X hC0 hR => ?_)
  have hC : Cx X E cX6_common 5 RX6 0 0 := hC0
  change V X E 5 0 [(0, .int v0), (1, .int v1)] [] I
  unfold f_X6_common at hf
  refine V_iload_n (pc := 0) hC 0 dX6_common_0 rfl rfl ?_
  refine V_istore_n (pc := 1) (lv' := [(2, .int v0), (0, .int v0), (1, .int v1)]) hC dX6_common_1 rfl (by decide) rfl ?_
  refine V_iload_n (pc := 2) hC 2 dX6_common_2 rfl rfl ?_
  refine V_istore_n (pc := 3) (lv' := [(3, .int v1), (2, .int v0), (0, .int v0), (1, .int v1)]) hC dX6_common_3 rfl (by decide) rfl ?_
  refine V_sub (pc := 4) (lv' := [(2, .int v0), (3, .int v1)]) [1, 0] rfl ?_
  exact b_X6_common_4 hC hR k v0 v1 hf
def f_X6_share_82 (k : Nat) (I : Mem) (v2 : Int32) (v4 : Int32) (w0 : Int32) : Option (Int32 × Mem) := (Option.bind (f_X6_common k w0 v4) (fun r13 => (if (v2 - v2 / (nI 2) * (nI 2)) = 0 then (if ¬ r13 = 0 then some (v4 / r13, I) else none) else (if ¬ r13 = 0 then some (w0 / r13, I) else none))))
set_option maxHeartbeats 4000000 in
set_option maxRecDepth 100000 in
theorem b_X6_share_82 {X : XT} {E : EN} {k : Nat} {I : Mem} {v2 : Int32} {v4 : Int32} {w0 : Int32} {r : Int32 × Mem} (hC : Cx X E cX6_share 7 RX6 5 109) (hR : Rt X E cX6_share (some .int) (some (.int r.1)) r.2) (hf : f_X6_share_82 k I v2 v4 w0 = some r) : V X E 7 82 [(2, .int v2), (4, .int v4)] [.int w0] I := by
  unfold f_X6_share_82 at hf
  refine V_istore (pc := 82) (lv' := [(5, .int w0), (2, .int v2), (4, .int v4)]) hC dX6_share_82 (by decide) rfl ?_
  refine V_iload (pc := 84) hC 0 dX6_share_84 rfl ?_
  refine V_iload (pc := 86) hC 2 dX6_share_86 rfl ?_
  obtain ⟨r13, g13, hf⟩ := bind_some hf
  refine V_callS (pc := 88) (rest := []) (As := [.int w0, .int v4]) hC lk_X6_157 (c_X6_common  g13) rfl rfl (Nat.le_of_ble_eq_true rfl) (by decide) dX6_share_88 ?_
  change V X E 7 91 [(5, .int w0), (2, .int v2), (4, .int v4)] [.int r13] I
  refine V_istore (pc := 91) (lv' := [(6, .int r13), (5, .int w0), (2, .int v2), (4, .int v4)]) hC dX6_share_91 (by decide) rfl ?_
  refine V_iload_n (pc := 93) hC 2 dX6_share_93 rfl rfl ?_
  refine V_iconst (pc := 94) hC dX6_share_94 (v := (nI 2)) (by decide) ?_
  refine V_irem (pc := 95) hC (by decide) dX6_share_95 ?_
  refine V_if_ne (pc := 96) (tgt := 107) hC dX6_share_96 (by decide) (fun c14 => ?_) (fun c14 => ?_)
  · have hf := ite_f hf c14
    refine V_iload (pc := 107) hC 1 dX6_share_107 rfl ?_
    refine V_iload (pc := 109) hC 0 dX6_share_109 rfl ?_
    obtain ⟨h15, hf⟩ := if_some hf
    refine V_idiv (pc := 111) hC h15 dX6_share_111 ?_
    have hf := Option.some.inj hf; subst hf
    exact V_ireturn (pc := 112) hR rfl dX6_share_112
  · have hf := ite_t hf c14
    refine V_iload (pc := 99) hC 3 dX6_share_99 rfl ?_
    refine V_iload (pc := 101) hC 0 dX6_share_101 rfl ?_
    obtain ⟨h16, hf⟩ := if_some hf
    refine V_idiv (pc := 103) hC h16 dX6_share_103 ?_
    refine V_goto (pc := 104) (tgt := 112) hC dX6_share_104 (by decide) ?_
    have hf := Option.some.inj hf; subst hf
    exact V_ireturn (pc := 112) hR rfl dX6_share_112
def f_X6_share_61 (k : Nat) (I : Mem) (v2 : Int32) (w0 : Int32) : Option (Int32 × Mem) := (if (nI 2) ≤ v2 then (Option.bind (f_X6_factorial k (I (71) 8)) (fun r12 => f_X6_share_82 k I v2 w0 r12)) else f_X6_share_82 k I v2 w0 (I (71) 15))
set_option maxHeartbeats 4000000 in
set_option maxRecDepth 100000 in
theorem b_X6_share_61 {X : XT} {E : EN} {k : Nat} {I : Mem} {v2 : Int32} {w0 : Int32} {r : Int32 × Mem} (hC : Cx X E cX6_share 7 RX6 5 109) (hR : Rt X E cX6_share (some .int) (some (.int r.1)) r.2) (hf : f_X6_share_61 k I v2 w0 = some r) : V X E 7 61 [(0, .ref (E.2.1 (71))), (2, .int v2)] [.int w0] I := by
  unfold f_X6_share_61 at hf
  refine V_istore (pc := 61) (lv' := [(4, .int w0), (0, .ref (E.2.1 (71))), (2, .int v2)]) hC dX6_share_61 (by decide) rfl ?_
  refine V_iload_n (pc := 63) hC 2 dX6_share_63 rfl rfl ?_
  refine V_iconst (pc := 64) hC dX6_share_64 (v := (nI 2)) (by decide) ?_
  refine V_icmp_ge (pc := 65) (tgt := 75) hC dX6_share_65 (by decide) (fun c11 => ?_) (fun c11 => ?_)
  · have hf := ite_t hf c11
    refine V_aload_n (pc := 75) hC 1 dX6_share_75 rfl rfl ?_
    refine gf_X6_77 (pc := 76) hC dX6_share_76 ?_
    obtain ⟨r12, g12, hf⟩ := bind_some hf
    refine V_callS (pc := 79) (rest := []) (As := [.int (I (71) 8)]) hC lk_X6_108 (c_X6_factorial  g12) rfl rfl (Nat.le_of_ble_eq_true rfl) (by decide) dX6_share_79 ?_
    change V X E 7 82 [(4, .int w0), (0, .ref (E.2.1 (71))), (2, .int v2)] [.int r12] I
    refine V_sub (pc := 82) (lv' := [(2, .int v2), (4, .int w0)]) [2, 0] rfl ?_
    exact b_X6_share_82 hC hR hf
  · have hf := ite_f hf c11
    refine V_aload_n (pc := 68) hC 1 dX6_share_68 rfl rfl ?_
    refine gf_X6_99 (pc := 69) hC dX6_share_69 ?_
    refine V_goto (pc := 72) (tgt := 82) hC dX6_share_72 (by decide) ?_
    refine V_sub (pc := 82) (lv' := [(2, .int v2), (4, .int w0)]) [2, 0] rfl ?_
    exact b_X6_share_82 hC hR hf
def f_X6_share (k : Nat) (v1 : Int32) (v2 : Int32) (I : Mem) : Option (Int32 × Mem) := (Option.bind (f_X6_noMember k v1 I) (fun r1 => (if r1 = 0 then (if (f_X6_in v2 (nI 0) (nI 3)) = 0 then some ((-2 : Int32), I) else (Option.bind (f_X6_findNow k I) (fun r4 => (Option.bind (f_X6_winning k r4) (fun r5 => (if r5 = 0 then some ((-5 : Int32), r4) else (Option.bind (f_X6_blocOf k v1 r4) (fun r7 => (if (nI 2) ≤ v2 then (Option.bind (f_X6_orders k r7 r4) (fun r9 => f_X6_share_61 k r4 v2 r9)) else (if inB r7 10 = true then f_X6_share_61 k r4 v2 (r4 (80) (Int32.toNatClampNeg r7)) else none)))))))))) else some ((-1 : Int32), I))))
set_option maxHeartbeats 4000000 in
set_option maxRecDepth 100000 in
theorem c_X6_share {E : EN} {k : Nat} {v1 : Int32} {v2 : Int32} {I : Mem} {r : Int32 × Mem} (hf : f_X6_share k v1 v2 I = some r) : Ct E yX6_share cX6_share 7 (some .int) 5 109 [.ref (E.2.1 (71)), .int v1, .int v2] I (some (.int r.1)) r.2 := by
  refine Ct_of (by decide) (Nat.le_of_ble_eq_true rfl) (fun X hC0 hR => ?_)
  have hC : Cx X E cX6_share 7 RX6 5 109 := hC0
  change V X E 7 0 [(0, .ref (E.2.1 (71))), (1, .int v1), (2, .int v2)] [] I
  unfold f_X6_share at hf
  refine V_aload_n (pc := 0) hC 0 dX6_share_0 rfl rfl ?_
  refine V_iload_n (pc := 1) hC 1 dX6_share_1 rfl rfl ?_
  obtain ⟨r1, g1, hf⟩ := bind_some hf
  refine V_callV (pc := 2) (rest := []) (As := [.int v1]) hC lk_X6_57 (by decide) cel_X6 rfl (c_X6_noMember  g1) rfl rfl (Nat.le_of_ble_eq_true rfl) (by decide) dX6_share_2 ?_
  change V X E 7 5 [(0, .ref (E.2.1 (71))), (1, .int v1), (2, .int v2)] [.int r1] I
  refine V_if_eq (pc := 5) (tgt := 10) hC dX6_share_5 (by decide) (fun c2 => ?_) (fun c2 => ?_)
  · have hf := ite_t hf c2
    refine V_iload_n (pc := 10) hC 2 dX6_share_10 rfl rfl ?_
    refine V_iconst (pc := 11) hC dX6_share_11 (v := (nI 0)) (by decide) ?_
    refine V_iconst (pc := 12) hC dX6_share_12 (v := (nI 3)) (by decide) ?_
    refine V_callS (pc := 13) (rest := []) (As := [.int v2, .int (nI 0), .int (nI 3)]) hC lk_X6_53 (c_X6_in  rfl) rfl rfl (Nat.le_of_ble_eq_true rfl) (by decide) dX6_share_13 ?_
    change V X E 7 16 [(0, .ref (E.2.1 (71))), (1, .int v1), (2, .int v2)] [.int (f_X6_in v2 (nI 0) (nI 3))] I
    refine V_if_ne (pc := 16) (tgt := 22) hC dX6_share_16 (by decide) (fun c3 => ?_) (fun c3 => ?_)
    · have hf := ite_f hf c3
      refine V_aload_n (pc := 22) hC 0 dX6_share_22 rfl rfl ?_
      obtain ⟨r4, g4, hf⟩ := bind_some hf
      refine V_callV (pc := 23) (rest := []) (As := []) hC lk_X6_114 (by decide) cel_X6 rfl (c_X6_findNow  g4) rfl rfl (Nat.le_of_ble_eq_true rfl) (by decide) dX6_share_23 ?_
      change V X E 7 26 [(0, .ref (E.2.1 (71))), (1, .int v1), (2, .int v2)] [] r4
      refine V_aload_n (pc := 26) hC 0 dX6_share_26 rfl rfl ?_
      obtain ⟨r5, g5, hf⟩ := bind_some hf
      refine V_callV (pc := 27) (rest := []) (As := []) hC lk_X6_154 (by decide) cel_X6 rfl (c_X6_winning  g5) rfl rfl (Nat.le_of_ble_eq_true rfl) (by decide) dX6_share_27 ?_
      change V X E 7 30 [(0, .ref (E.2.1 (71))), (1, .int v1), (2, .int v2)] [.int r5] r4
      refine V_if_ne (pc := 30) (tgt := 36) hC dX6_share_30 (by decide) (fun c6 => ?_) (fun c6 => ?_)
      · have hf := ite_f hf c6
        refine V_aload_n (pc := 36) hC 0 dX6_share_36 rfl rfl ?_
        refine V_iload_n (pc := 37) hC 1 dX6_share_37 rfl rfl ?_
        obtain ⟨r7, g7, hf⟩ := bind_some hf
        refine V_callV (pc := 38) (rest := []) (As := [.int v1]) hC lk_X6_83 (by decide) cel_X6 rfl (c_X6_blocOf  g7) rfl rfl (Nat.le_of_ble_eq_true rfl) (by decide) dX6_share_38 ?_
        change V X E 7 41 [(0, .ref (E.2.1 (71))), (1, .int v1), (2, .int v2)] [.int r7] r4
        refine V_istore_n (pc := 41) (lv' := [(3, .int r7), (0, .ref (E.2.1 (71))), (1, .int v1), (2, .int v2)]) hC dX6_share_41 rfl (by decide) rfl ?_
        refine V_iload_n (pc := 42) hC 3 dX6_share_42 rfl rfl ?_
        refine V_iconst (pc := 43) hC dX6_share_43 (v := (nI 2)) (by decide) ?_
        refine V_icmp_ge (pc := 44) (tgt := 56) hC dX6_share_44 (by decide) (fun c8 => ?_) (fun c8 => ?_)
        · have hf := ite_t hf c8
          refine V_aload_n (pc := 56) hC 1 dX6_share_56 rfl rfl ?_
          refine V_iload_n (pc := 57) hC 0 dX6_share_57 rfl rfl ?_
          obtain ⟨r9, g9, hf⟩ := bind_some hf
          refine V_callV (pc := 58) (rest := []) (As := [.int r7]) hC lk_X6_142 (by decide) cel_X6 rfl (c_X6_orders  g9) rfl rfl (Nat.le_of_ble_eq_true rfl) (by decide) dX6_share_58 ?_
          change V X E 7 61 [(3, .int r7), (0, .ref (E.2.1 (71))), (1, .int v1), (2, .int v2)] [.int r9] r4
          refine V_sub (pc := 61) (lv' := [(0, .ref (E.2.1 (71))), (2, .int v2)]) [1, 3] rfl ?_
          exact b_X6_share_61 hC hR hf
        · have hf := ite_f hf c8
          refine V_aload_n (pc := 47) hC 1 dX6_share_47 rfl rfl ?_
          refine gf_X6_36 (pc := 48) hC dX6_share_48 ?_
          refine V_iload_n (pc := 51) hC 0 dX6_share_51 rfl rfl ?_
          obtain ⟨h10, hf⟩ := if_some hf
          refine V_iald (pc := 52) hC ia_80 (inB_of h10) dX6_share_52 ?_
          refine V_goto (pc := 53) (tgt := 61) hC dX6_share_53 (by decide) ?_
          refine V_sub (pc := 61) (lv' := [(0, .ref (E.2.1 (71))), (2, .int v2)]) [1, 3] rfl ?_
          exact b_X6_share_61 hC hR hf
      · have hf := ite_t hf c6
        refine V_bipush (pc := 33) hC dX6_share_33 (v := (-5 : Int32)) (by decide) ?_
        have hf := Option.some.inj hf; subst hf
        exact V_ireturn (pc := 35) hR rfl dX6_share_35
    · have hf := ite_t hf c3
      refine V_bipush (pc := 19) hC dX6_share_19 (v := (-2 : Int32)) (by decide) ?_
      have hf := Option.some.inj hf; subst hf
      exact V_ireturn (pc := 21) hR rfl dX6_share_21
  · have hf := ite_f hf c2
    refine V_iconst (pc := 8) hC dX6_share_8 (v := (-1 : Int32)) (by decide) ?_
    have hf := Option.some.inj hf; subst hf
    exact V_ireturn (pc := 9) hR rfl dX6_share_9
def f_X6_wins_29 (k : Nat) (I : Mem) (v1 : Int32) : Nat → Int32 → Int32 → Option (Int32 × Mem)
  | 0, _, _ => none
  | n + 1, v2, v3 => (if (I (71) 8) ≤ v3 then (if inB v2 1024 = true then (if (I (79) (Int32.toNatClampNeg v2)) = 0 then some ((nI 0), I) else some ((nI 1), I)) else none) else (if inB v3 10 = true then (if ((I (78) (Int32.toNatClampNeg v3)) &&& (v1 ^^^ (-1 : Int32))) = 0 then (f_X6_wins_29 k I v1 n) (v2 ||| ((nI 1) <<< (v3 &&& 31))) (v3 + (nI 1)) else (f_X6_wins_29 k I v1 n) (v2 ||| (nI 0)) (v3 + (nI 1))) else none))
set_option maxHeartbeats 4000000 in
set_option maxRecDepth 100000 in
theorem b_X6_wins_29 {X : XT} {E : EN} {k : Nat} {I : Mem} {v1 : Int32} {r : Int32 × Mem} (hC : Cx X E cX6_wins 4 RX6 5 109) (hR : Rt X E cX6_wins (some .int) (some (.int r.1)) r.2) : ∀ (n : Nat) (v2 : Int32) (v3 : Int32), f_X6_wins_29 k I v1 n v2 v3 = some r → V X E 4 29 [(0, .ref (E.2.1 (71))), (1, .int v1), (2, .int v2), (3, .int v3)] [] I := by
  intro n
  induction n with
  | zero =>
    intro v2 v3 hf
    rw [f_X6_wins_29] at hf
    cases hf
  | succ n ih =>
    intro v2 v3 hf
    rw [f_X6_wins_29] at hf
    refine V_iload_n (pc := 29) hC 3 dX6_wins_29 rfl rfl ?_
    refine V_aload_n (pc := 30) hC 0 dX6_wins_30 rfl rfl ?_
    refine gf_X6_77 (pc := 31) hC dX6_wins_31 ?_
    refine V_icmp_ge (pc := 34) (tgt := 66) hC dX6_wins_34 (by decide) (fun c3 => ?_) (fun c3 => ?_)
    · have hf := ite_t hf c3
      refine V_aload_n (pc := 66) hC 0 dX6_wins_66 rfl rfl ?_
      refine gf_X6_32 (pc := 67) hC dX6_wins_67 ?_
      refine V_iload_n (pc := 70) hC 2 dX6_wins_70 rfl rfl ?_
      obtain ⟨h4, hf⟩ := if_some hf
      refine V_zald (pc := 71) hC za_79 (inB_of h4) dX6_wins_71 ?_
      refine V_if_eq (pc := 72) (tgt := 79) hC dX6_wins_72 (by decide) (fun c5 => ?_) (fun c5 => ?_)
      · have hf := ite_t hf c5
        refine V_iconst (pc := 79) hC dX6_wins_79 (v := (nI 0)) (by decide) ?_
        have hf := Option.some.inj hf; subst hf
        exact V_ireturn (pc := 80) hR rfl dX6_wins_80
      · have hf := ite_f hf c5
        refine V_iconst (pc := 75) hC dX6_wins_75 (v := (nI 1)) (by decide) ?_
        refine V_goto (pc := 76) (tgt := 80) hC dX6_wins_76 (by decide) ?_
        have hf := Option.some.inj hf; subst hf
        exact V_ireturn (pc := 80) hR rfl dX6_wins_80
    · have hf := ite_f hf c3
      refine V_iload_n (pc := 37) hC 2 dX6_wins_37 rfl rfl ?_
      refine V_aload_n (pc := 38) hC 0 dX6_wins_38 rfl rfl ?_
      refine gf_X6_29 (pc := 39) hC dX6_wins_39 ?_
      refine V_iload_n (pc := 42) hC 3 dX6_wins_42 rfl rfl ?_
      obtain ⟨h6, hf⟩ := if_some hf
      refine V_iald (pc := 43) hC ia_78 (inB_of h6) dX6_wins_43 ?_
      refine V_iload_n (pc := 44) hC 1 dX6_wins_44 rfl rfl ?_
      refine V_iconst (pc := 45) hC dX6_wins_45 (v := (-1 : Int32)) (by decide) ?_
      refine V_ixor (pc := 46) hC dX6_wins_46 ?_
      refine V_iand (pc := 47) hC dX6_wins_47 ?_
      refine V_if_ne (pc := 48) (tgt := 57) hC dX6_wins_48 (by decide) (fun c7 => ?_) (fun c7 => ?_)
      · have hf := ite_f hf c7
        refine V_iconst (pc := 57) hC dX6_wins_57 (v := (nI 0)) (by decide) ?_
        refine V_ior (pc := 58) hC dX6_wins_58 ?_
        refine V_istore_n (pc := 59) (lv' := [(2, .int (v2 ||| (nI 0))), (0, .ref (E.2.1 (71))), (1, .int v1), (3, .int v3)]) hC dX6_wins_59 rfl (by decide) rfl ?_
        refine V_iinc (pc := 60) (lv' := [(3, .int (v3 + (nI 1))), (2, .int (v2 ||| (nI 0))), (0, .ref (E.2.1 (71))), (1, .int v1)]) hC (nI 1) 3 dX6_wins_60 rfl (by decide) (by decide) rfl ?_
        refine V_goto (pc := 63) (tgt := 29) hC dX6_wins_63 (by decide) ?_
        refine V_sub (pc := 29) (lv' := [(0, .ref (E.2.1 (71))), (1, .int v1), (2, .int (v2 ||| (nI 0))), (3, .int (v3 + (nI 1)))]) [2, 3, 1, 0] rfl ?_
        exact ih (v2 ||| (nI 0)) (v3 + (nI 1)) hf
      · have hf := ite_t hf c7
        refine V_iconst (pc := 51) hC dX6_wins_51 (v := (nI 1)) (by decide) ?_
        refine V_iload_n (pc := 52) hC 3 dX6_wins_52 rfl rfl ?_
        refine V_ishl (pc := 53) hC dX6_wins_53 ?_
        refine V_goto (pc := 54) (tgt := 58) hC dX6_wins_54 (by decide) ?_
        refine V_ior (pc := 58) hC dX6_wins_58 ?_
        refine V_istore_n (pc := 59) (lv' := [(2, .int (v2 ||| ((nI 1) <<< (v3 &&& 31)))), (0, .ref (E.2.1 (71))), (1, .int v1), (3, .int v3)]) hC dX6_wins_59 rfl (by decide) rfl ?_
        refine V_iinc (pc := 60) (lv' := [(3, .int (v3 + (nI 1))), (2, .int (v2 ||| ((nI 1) <<< (v3 &&& 31)))), (0, .ref (E.2.1 (71))), (1, .int v1)]) hC (nI 1) 3 dX6_wins_60 rfl (by decide) (by decide) rfl ?_
        refine V_goto (pc := 63) (tgt := 29) hC dX6_wins_63 (by decide) ?_
        refine V_sub (pc := 29) (lv' := [(0, .ref (E.2.1 (71))), (1, .int v1), (2, .int (v2 ||| ((nI 1) <<< (v3 &&& 31)))), (3, .int (v3 + (nI 1)))]) [2, 3, 1, 0] rfl ?_
        exact ih (v2 ||| ((nI 1) <<< (v3 &&& 31))) (v3 + (nI 1)) hf
def f_X6_wins (k : Nat) (v1 : Int32) (I : Mem) : Option (Int32 × Mem) := (if (f_X6_in v1 (nI 0) (((nI 1) <<< ((I (72) (Int32.toNatClampNeg (nI 0))) &&& 31)) - (nI 1))) = 0 then some ((-2 : Int32), I) else (Option.bind (f_X6_findNow k I) (fun r2 => f_X6_wins_29 k r2 v1 k (nI 0) (nI 0))))
set_option maxHeartbeats 4000000 in
set_option maxRecDepth 100000 in
theorem c_X6_wins {E : EN} {k : Nat} {v1 : Int32} {I : Mem} {r : Int32 × Mem} (hf : f_X6_wins k v1 I = some r) : Ct E yX6_wins cX6_wins 4 (some .int) 5 109 [.ref (E.2.1 (71)), .int v1] I (some (.int r.1)) r.2 := by
  refine Ct_of (by decide) (Nat.le_of_ble_eq_true rfl) (fun X hC0 hR => ?_)
  have hC : Cx X E cX6_wins 4 RX6 5 109 := hC0
  change V X E 4 0 [(0, .ref (E.2.1 (71))), (1, .int v1)] [] I
  unfold f_X6_wins at hf
  refine V_iload_n (pc := 0) hC 1 dX6_wins_0 rfl rfl ?_
  refine V_iconst (pc := 1) hC dX6_wins_1 (v := (nI 0)) (by decide) ?_
  refine V_iconst (pc := 2) hC dX6_wins_2 (v := (nI 1)) (by decide) ?_
  refine V_aload_n (pc := 3) hC 0 dX6_wins_3 rfl rfl ?_
  refine gf_X6_7 (pc := 4) hC dX6_wins_4 ?_
  refine V_iconst (pc := 7) hC dX6_wins_7 (v := (nI 0)) (by decide) ?_
  refine V_iald (pc := 8) hC ia_72 (inB_of (by decide)) dX6_wins_8 ?_
  refine V_ishl (pc := 9) hC dX6_wins_9 ?_
  refine V_iconst (pc := 10) hC dX6_wins_10 (v := (nI 1)) (by decide) ?_
  refine V_isub (pc := 11) hC dX6_wins_11 ?_
  refine V_callS (pc := 12) (rest := []) (As := [.int v1, .int (nI 0), .int (((nI 1) <<< ((I (72) (Int32.toNatClampNeg (nI 0))) &&& 31)) - (nI 1))]) hC lk_X6_53 (c_X6_in  rfl) rfl rfl (Nat.le_of_ble_eq_true rfl) (by decide) dX6_wins_12 ?_
  change V X E 4 15 [(0, .ref (E.2.1 (71))), (1, .int v1)] [.int (f_X6_in v1 (nI 0) (((nI 1) <<< ((I (72) (Int32.toNatClampNeg (nI 0))) &&& 31)) - (nI 1)))] I
  refine V_if_ne (pc := 15) (tgt := 21) hC dX6_wins_15 (by decide) (fun c1 => ?_) (fun c1 => ?_)
  · have hf := ite_f hf c1
    refine V_aload_n (pc := 21) hC 0 dX6_wins_21 rfl rfl ?_
    obtain ⟨r2, g2, hf⟩ := bind_some hf
    refine V_callV (pc := 22) (rest := []) (As := []) hC lk_X6_114 (by decide) cel_X6 rfl (c_X6_findNow  g2) rfl rfl (Nat.le_of_ble_eq_true rfl) (by decide) dX6_wins_22 ?_
    change V X E 4 25 [(0, .ref (E.2.1 (71))), (1, .int v1)] [] r2
    refine V_iconst (pc := 25) hC dX6_wins_25 (v := (nI 0)) (by decide) ?_
    refine V_istore_n (pc := 26) (lv' := [(2, .int (nI 0)), (0, .ref (E.2.1 (71))), (1, .int v1)]) hC dX6_wins_26 rfl (by decide) rfl ?_
    refine V_iconst (pc := 27) hC dX6_wins_27 (v := (nI 0)) (by decide) ?_
    refine V_istore_n (pc := 28) (lv' := [(3, .int (nI 0)), (2, .int (nI 0)), (0, .ref (E.2.1 (71))), (1, .int v1)]) hC dX6_wins_28 rfl (by decide) rfl ?_
    refine V_sub (pc := 29) (lv' := [(0, .ref (E.2.1 (71))), (1, .int v1), (2, .int (nI 0)), (3, .int (nI 0))]) [2, 3, 1, 0] rfl ?_
    exact b_X6_wins_29 hC hR k (nI 0) (nI 0) hf
  · have hf := ite_t hf c1
    refine V_bipush (pc := 18) hC dX6_wins_18 (v := (-2 : Int32)) (by decide) ?_
    have hf := Option.some.inj hf; subst hf
    exact V_ireturn (pc := 20) hR rfl dX6_wins_20
def f_X6_leastCoalition (k : Nat) (v1 : Int32) (v2 : Int32) (I : Mem) : Option (Int32 × Mem) := (if v1 < 0 then some ((-2 : Int32), I) else (if (f_X6_in v2 (nI 0) (nI 2)) = 0 then some ((-2 : Int32), I) else (Option.bind (f_X6_findLeast k I) (fun r3 => (if v1 < (r3 (71) 17) then (if inB v1 1024 = true then (if v2 = 0 then (Option.bind (f_X6_membersOf k (r3 (81) (Int32.toNatClampNeg v1)) r3) (fun r10 => some (r10, r3))) else (if v2 = (nI 1) then (Option.bind (f_X6_many k (r3 (81) (Int32.toNatClampNeg v1))) (fun r9 => some (r9, r3))) else (Option.bind (f_X6_weightOf k (r3 (81) (Int32.toNatClampNeg v1)) r3) (fun r8 => some (r8, r3))))) else none) else some ((-5 : Int32), r3))))))
set_option maxHeartbeats 4000000 in
set_option maxRecDepth 100000 in
theorem c_X6_leastCoalition {E : EN} {k : Nat} {v1 : Int32} {v2 : Int32} {I : Mem} {r : Int32 × Mem} (hf : f_X6_leastCoalition k v1 v2 I = some r) : Ct E yX6_leastCoalition cX6_leastCoalition 4 (some .int) 6 131 [.ref (E.2.1 (71)), .int v1, .int v2] I (some (.int r.1)) r.2 := by
  refine Ct_of (by decide) (Nat.le_of_ble_eq_true rfl) (fun X hC0 hR => ?_)
  have hC : Cx X E cX6_leastCoalition 4 RX6 6 131 := hC0
  change V X E 4 0 [(0, .ref (E.2.1 (71))), (1, .int v1), (2, .int v2)] [] I
  unfold f_X6_leastCoalition at hf
  refine V_iload_n (pc := 0) hC 1 dX6_leastCoalition_0 rfl rfl ?_
  refine V_if_lt (pc := 1) (tgt := 13) hC dX6_leastCoalition_1 (by decide) (fun c1 => ?_) (fun c1 => ?_)
  · have hf := ite_t hf c1
    refine V_bipush (pc := 13) hC dX6_leastCoalition_13 (v := (-2 : Int32)) (by decide) ?_
    have hf := Option.some.inj hf; subst hf
    exact V_ireturn (pc := 15) hR rfl dX6_leastCoalition_15
  · have hf := ite_f hf c1
    refine V_iload_n (pc := 4) hC 2 dX6_leastCoalition_4 rfl rfl ?_
    refine V_iconst (pc := 5) hC dX6_leastCoalition_5 (v := (nI 0)) (by decide) ?_
    refine V_iconst (pc := 6) hC dX6_leastCoalition_6 (v := (nI 2)) (by decide) ?_
    refine V_callS (pc := 7) (rest := []) (As := [.int v2, .int (nI 0), .int (nI 2)]) hC lk_X6_53 (c_X6_in  rfl) rfl rfl (Nat.le_of_ble_eq_true rfl) (by decide) dX6_leastCoalition_7 ?_
    change V X E 4 10 [(0, .ref (E.2.1 (71))), (1, .int v1), (2, .int v2)] [.int (f_X6_in v2 (nI 0) (nI 2))] I
    refine V_if_ne (pc := 10) (tgt := 16) hC dX6_leastCoalition_10 (by decide) (fun c2 => ?_) (fun c2 => ?_)
    · have hf := ite_f hf c2
      refine V_aload_n (pc := 16) hC 0 dX6_leastCoalition_16 rfl rfl ?_
      obtain ⟨r3, g3, hf⟩ := bind_some hf
      refine V_callV (pc := 17) (rest := []) (As := []) hC lk_X6_160 (by decide) cel_X6 rfl (c_X6_findLeast  g3) rfl rfl (Nat.le_of_ble_eq_true rfl) (by decide) dX6_leastCoalition_17 ?_
      change V X E 4 20 [(0, .ref (E.2.1 (71))), (1, .int v1), (2, .int v2)] [] r3
      refine V_iload_n (pc := 20) hC 1 dX6_leastCoalition_20 rfl rfl ?_
      refine V_aload_n (pc := 21) hC 0 dX6_leastCoalition_21 rfl rfl ?_
      refine gf_X6_117 (pc := 22) hC dX6_leastCoalition_22 ?_
      refine V_icmp_lt (pc := 25) (tgt := 31) hC dX6_leastCoalition_25 (by decide) (fun c4 => ?_) (fun c4 => ?_)
      · have hf := ite_t hf c4
        refine V_aload_n (pc := 31) hC 0 dX6_leastCoalition_31 rfl rfl ?_
        refine gf_X6_39 (pc := 32) hC dX6_leastCoalition_32 ?_
        refine V_iload_n (pc := 35) hC 1 dX6_leastCoalition_35 rfl rfl ?_
        obtain ⟨h5, hf⟩ := if_some hf
        refine V_iald (pc := 36) hC ia_81 (inB_of h5) dX6_leastCoalition_36 ?_
        refine V_istore_n (pc := 37) (lv' := [(3, .int (r3 (81) (Int32.toNatClampNeg v1))), (0, .ref (E.2.1 (71))), (1, .int v1), (2, .int v2)]) hC dX6_leastCoalition_37 rfl (by decide) rfl ?_
        refine V_iload_n (pc := 38) hC 3 dX6_leastCoalition_38 rfl rfl ?_
        refine V_if_ne (pc := 39) (tgt := 50) hC dX6_leastCoalition_39 (by decide) (fun c6 => ?_) (fun c6 => ?_)
        · have hf := ite_f hf c6
          refine V_iload_n (pc := 50) hC 3 dX6_leastCoalition_50 rfl rfl ?_
          refine V_iconst (pc := 51) hC dX6_leastCoalition_51 (v := (nI 1)) (by decide) ?_
          refine V_icmp_ne (pc := 52) (tgt := 62) hC dX6_leastCoalition_52 (by decide) (fun c7 => ?_) (fun c7 => ?_)
          · have hf := ite_f hf c7
            refine V_aload_n (pc := 62) hC 1 dX6_leastCoalition_62 rfl rfl ?_
            refine V_iload_n (pc := 63) hC 0 dX6_leastCoalition_63 rfl rfl ?_
            obtain ⟨r8, g8, hf⟩ := bind_some hf
            refine V_callV (pc := 64) (rest := []) (As := [.int (r3 (81) (Int32.toNatClampNeg v1))]) hC lk_X6_90 (by decide) cel_X6 rfl (c_X6_weightOf  g8) rfl rfl (Nat.le_of_ble_eq_true rfl) (by decide) dX6_leastCoalition_64 ?_
            change V X E 4 67 [(3, .int (r3 (81) (Int32.toNatClampNeg v1))), (0, .ref (E.2.1 (71))), (1, .int v1), (2, .int v2)] [.int r8] r3
            have hf := Option.some.inj hf; subst hf
            exact V_ireturn (pc := 67) hR rfl dX6_leastCoalition_67
          · have hf := ite_t hf c7
            refine V_iload_n (pc := 55) hC 0 dX6_leastCoalition_55 rfl rfl ?_
            obtain ⟨r9, g9, hf⟩ := bind_some hf
            refine V_callS (pc := 56) (rest := []) (As := [.int (r3 (81) (Int32.toNatClampNeg v1))]) hC lk_X6_105 (c_X6_many  g9) rfl rfl (Nat.le_of_ble_eq_true rfl) (by decide) dX6_leastCoalition_56 ?_
            change V X E 4 59 [(3, .int (r3 (81) (Int32.toNatClampNeg v1))), (0, .ref (E.2.1 (71))), (1, .int v1), (2, .int v2)] [.int r9] r3
            refine V_goto (pc := 59) (tgt := 67) hC dX6_leastCoalition_59 (by decide) ?_
            have hf := Option.some.inj hf; subst hf
            exact V_ireturn (pc := 67) hR rfl dX6_leastCoalition_67
        · have hf := ite_t hf c6
          refine V_aload_n (pc := 42) hC 1 dX6_leastCoalition_42 rfl rfl ?_
          refine V_iload_n (pc := 43) hC 0 dX6_leastCoalition_43 rfl rfl ?_
          obtain ⟨r10, g10, hf⟩ := bind_some hf
          refine V_callV (pc := 44) (rest := []) (As := [.int (r3 (81) (Int32.toNatClampNeg v1))]) hC lk_X6_111 (by decide) cel_X6 rfl (c_X6_membersOf  g10) rfl rfl (Nat.le_of_ble_eq_true rfl) (by decide) dX6_leastCoalition_44 ?_
          change V X E 4 47 [(3, .int (r3 (81) (Int32.toNatClampNeg v1))), (0, .ref (E.2.1 (71))), (1, .int v1), (2, .int v2)] [.int r10] r3
          refine V_goto (pc := 47) (tgt := 67) hC dX6_leastCoalition_47 (by decide) ?_
          have hf := Option.some.inj hf; subst hf
          exact V_ireturn (pc := 67) hR rfl dX6_leastCoalition_67
      · have hf := ite_f hf c4
        refine V_bipush (pc := 28) hC dX6_leastCoalition_28 (v := (-5 : Int32)) (by decide) ?_
        have hf := Option.some.inj hf; subst hf
        exact V_ireturn (pc := 30) hR rfl dX6_leastCoalition_30
    · have hf := ite_t hf c2
      refine V_bipush (pc := 13) hC dX6_leastCoalition_13 (v := (-2 : Int32)) (by decide) ?_
      have hf := Option.some.inj hf; subst hf
      exact V_ireturn (pc := 15) hR rfl dX6_leastCoalition_15
def f_X6_ranked_13 (k : Nat) (I : Mem) (v1 : Int32) : Nat → Int32 → Option (Int32 × Mem)
  | 0, _ => none
  | n + 1, v2 => (if (I (72) (Int32.toNatClampNeg (nI 0))) ≤ v2 then some ((-5 : Int32), I) else (Option.bind (f_X6_rank k v2 I) (fun r4 => (if r4 = v1 then some (v2, I) else (f_X6_ranked_13 k I v1 n) (v2 + (nI 1))))))
set_option maxHeartbeats 4000000 in
set_option maxRecDepth 100000 in
theorem b_X6_ranked_13 {X : XT} {E : EN} {k : Nat} {I : Mem} {v1 : Int32} {r : Int32 × Mem} (hC : Cx X E cX6_ranked 3 RX6 5 109) (hR : Rt X E cX6_ranked (some .int) (some (.int r.1)) r.2) : ∀ (n : Nat) (v2 : Int32), f_X6_ranked_13 k I v1 n v2 = some r → V X E 3 13 [(0, .ref (E.2.1 (71))), (1, .int v1), (2, .int v2)] [] I := by
  intro n
  induction n with
  | zero =>
    intro v2 hf
    rw [f_X6_ranked_13] at hf
    cases hf
  | succ n ih =>
    intro v2 hf
    rw [f_X6_ranked_13] at hf
    refine V_iload_n (pc := 13) hC 2 dX6_ranked_13 rfl rfl ?_
    refine V_aload_n (pc := 14) hC 0 dX6_ranked_14 rfl rfl ?_
    refine gf_X6_7 (pc := 15) hC dX6_ranked_15 ?_
    refine V_iconst (pc := 18) hC dX6_ranked_18 (v := (nI 0)) (by decide) ?_
    refine V_iald (pc := 19) hC ia_72 (inB_of (by decide)) dX6_ranked_19 ?_
    refine V_icmp_ge (pc := 20) (tgt := 40) hC dX6_ranked_20 (by decide) (fun c3 => ?_) (fun c3 => ?_)
    · have hf := ite_t hf c3
      refine V_bipush (pc := 40) hC dX6_ranked_40 (v := (-5 : Int32)) (by decide) ?_
      have hf := Option.some.inj hf; subst hf
      exact V_ireturn (pc := 42) hR rfl dX6_ranked_42
    · have hf := ite_f hf c3
      refine V_aload_n (pc := 23) hC 0 dX6_ranked_23 rfl rfl ?_
      refine V_iload_n (pc := 24) hC 2 dX6_ranked_24 rfl rfl ?_
      obtain ⟨r4, g4, hf⟩ := bind_some hf
      refine V_callV (pc := 25) (rest := []) (As := [.int v2]) hC lk_X6_151 (by decide) cel_X6 rfl (c_X6_rank  g4) rfl rfl (Nat.le_of_ble_eq_true rfl) (by decide) dX6_ranked_25 ?_
      change V X E 3 28 [(0, .ref (E.2.1 (71))), (1, .int v1), (2, .int v2)] [.int r4] I
      refine V_iload_n (pc := 28) hC 1 dX6_ranked_28 rfl rfl ?_
      refine V_icmp_ne (pc := 29) (tgt := 34) hC dX6_ranked_29 (by decide) (fun c5 => ?_) (fun c5 => ?_)
      · have hf := ite_f hf c5
        refine V_iinc (pc := 34) (lv' := [(2, .int (v2 + (nI 1))), (0, .ref (E.2.1 (71))), (1, .int v1)]) hC (nI 1) 2 dX6_ranked_34 rfl (by decide) (by decide) rfl ?_
        refine V_goto (pc := 37) (tgt := 13) hC dX6_ranked_37 (by decide) ?_
        refine V_sub (pc := 13) (lv' := [(0, .ref (E.2.1 (71))), (1, .int v1), (2, .int (v2 + (nI 1)))]) [1, 2, 0] rfl ?_
        exact ih (v2 + (nI 1)) hf
      · have hf := ite_t hf c5
        refine V_iload_n (pc := 32) hC 2 dX6_ranked_32 rfl rfl ?_
        have hf := Option.some.inj hf; subst hf
        exact V_ireturn (pc := 33) hR rfl dX6_ranked_33
def f_X6_ranked (k : Nat) (v1 : Int32) (I : Mem) : Option (Int32 × Mem) := (if 0 ≤ v1 then (Option.bind (f_X6_findNow k I) (fun r2 => f_X6_ranked_13 k r2 v1 k (nI 0))) else some ((-2 : Int32), I))
set_option maxHeartbeats 4000000 in
set_option maxRecDepth 100000 in
theorem c_X6_ranked {E : EN} {k : Nat} {v1 : Int32} {I : Mem} {r : Int32 × Mem} (hf : f_X6_ranked k v1 I = some r) : Ct E yX6_ranked cX6_ranked 3 (some .int) 5 109 [.ref (E.2.1 (71)), .int v1] I (some (.int r.1)) r.2 := by
  refine Ct_of (by decide) (Nat.le_of_ble_eq_true rfl) (fun X hC0 hR => ?_)
  have hC : Cx X E cX6_ranked 3 RX6 5 109 := hC0
  change V X E 3 0 [(0, .ref (E.2.1 (71))), (1, .int v1)] [] I
  unfold f_X6_ranked at hf
  refine V_iload_n (pc := 0) hC 1 dX6_ranked_0 rfl rfl ?_
  refine V_if_ge (pc := 1) (tgt := 7) hC dX6_ranked_1 (by decide) (fun c1 => ?_) (fun c1 => ?_)
  · have hf := ite_t hf c1
    refine V_aload_n (pc := 7) hC 0 dX6_ranked_7 rfl rfl ?_
    obtain ⟨r2, g2, hf⟩ := bind_some hf
    refine V_callV (pc := 8) (rest := []) (As := []) hC lk_X6_114 (by decide) cel_X6 rfl (c_X6_findNow  g2) rfl rfl (Nat.le_of_ble_eq_true rfl) (by decide) dX6_ranked_8 ?_
    change V X E 3 11 [(0, .ref (E.2.1 (71))), (1, .int v1)] [] r2
    refine V_iconst (pc := 11) hC dX6_ranked_11 (v := (nI 0)) (by decide) ?_
    refine V_istore_n (pc := 12) (lv' := [(2, .int (nI 0)), (0, .ref (E.2.1 (71))), (1, .int v1)]) hC dX6_ranked_12 rfl (by decide) rfl ?_
    refine V_sub (pc := 13) (lv' := [(0, .ref (E.2.1 (71))), (1, .int v1), (2, .int (nI 0))]) [1, 2, 0] rfl ?_
    exact b_X6_ranked_13 hC hR k (nI 0) hf
  · have hf := ite_f hf c1
    refine V_bipush (pc := 4) hC dX6_ranked_4 (v := (-2 : Int32)) (by decide) ?_
    have hf := Option.some.inj hf; subst hf
    exact V_ireturn (pc := 6) hR rfl dX6_ranked_6
def f_X6_dummies_4 (k : Nat) (I : Mem) : Nat → Int32 → Int32 → Option (Int32)
  | 0, _, _ => none
  | n + 1, v1, v2 => (if (I (71) 8) ≤ v2 then some v1 else (if inB v2 10 = true then (if (I (80) (Int32.toNatClampNeg v2)) = 0 then (f_X6_dummies_4 k I n) (v1 + (nI 1)) (v2 + (nI 1)) else (f_X6_dummies_4 k I n) (v1 + (nI 0)) (v2 + (nI 1))) else none))
set_option maxHeartbeats 4000000 in
set_option maxRecDepth 100000 in
theorem b_X6_dummies_4 {X : XT} {E : EN} {k : Nat} {I : Mem} {r : Int32} (hC : Cx X E cX6_dummies 3 RX6 0 0) (hR : Rt X E cX6_dummies (some .int) (some (.int r)) I) : ∀ (n : Nat) (v1 : Int32) (v2 : Int32), f_X6_dummies_4 k I n v1 v2 = some r → V X E 3 4 [(0, .ref (E.2.1 (71))), (1, .int v1), (2, .int v2)] [] I := by
  intro n
  induction n with
  | zero =>
    intro v1 v2 hf
    rw [f_X6_dummies_4] at hf
    cases hf
  | succ n ih =>
    intro v1 v2 hf
    rw [f_X6_dummies_4] at hf
    refine V_iload_n (pc := 4) hC 2 dX6_dummies_4 rfl rfl ?_
    refine V_aload_n (pc := 5) hC 0 dX6_dummies_5 rfl rfl ?_
    refine gf_X6_77 (pc := 6) hC dX6_dummies_6 ?_
    refine V_icmp_ge (pc := 9) (tgt := 35) hC dX6_dummies_9 (by decide) (fun c1 => ?_) (fun c1 => ?_)
    · have hf := ite_t hf c1
      refine V_iload_n (pc := 35) hC 1 dX6_dummies_35 rfl rfl ?_
      have hf := Option.some.inj hf; subst hf
      exact V_ireturn (pc := 36) hR rfl dX6_dummies_36
    · have hf := ite_f hf c1
      refine V_iload_n (pc := 12) hC 1 dX6_dummies_12 rfl rfl ?_
      refine V_aload_n (pc := 13) hC 0 dX6_dummies_13 rfl rfl ?_
      refine gf_X6_36 (pc := 14) hC dX6_dummies_14 ?_
      refine V_iload_n (pc := 17) hC 2 dX6_dummies_17 rfl rfl ?_
      obtain ⟨h2, hf⟩ := if_some hf
      refine V_iald (pc := 18) hC ia_80 (inB_of h2) dX6_dummies_18 ?_
      refine V_if_ne (pc := 19) (tgt := 26) hC dX6_dummies_19 (by decide) (fun c3 => ?_) (fun c3 => ?_)
      · have hf := ite_f hf c3
        refine V_iconst (pc := 26) hC dX6_dummies_26 (v := (nI 0)) (by decide) ?_
        refine V_iadd (pc := 27) hC dX6_dummies_27 ?_
        refine V_istore_n (pc := 28) (lv' := [(1, .int (v1 + (nI 0))), (0, .ref (E.2.1 (71))), (2, .int v2)]) hC dX6_dummies_28 rfl (by decide) rfl ?_
        refine V_iinc (pc := 29) (lv' := [(2, .int (v2 + (nI 1))), (1, .int (v1 + (nI 0))), (0, .ref (E.2.1 (71)))]) hC (nI 1) 2 dX6_dummies_29 rfl (by decide) (by decide) rfl ?_
        refine V_goto (pc := 32) (tgt := 4) hC dX6_dummies_32 (by decide) ?_
        refine V_sub (pc := 4) (lv' := [(0, .ref (E.2.1 (71))), (1, .int (v1 + (nI 0))), (2, .int (v2 + (nI 1)))]) [2, 1, 0] rfl ?_
        exact ih (v1 + (nI 0)) (v2 + (nI 1)) hf
      · have hf := ite_t hf c3
        refine V_iconst (pc := 22) hC dX6_dummies_22 (v := (nI 1)) (by decide) ?_
        refine V_goto (pc := 23) (tgt := 27) hC dX6_dummies_23 (by decide) ?_
        refine V_iadd (pc := 27) hC dX6_dummies_27 ?_
        refine V_istore_n (pc := 28) (lv' := [(1, .int (v1 + (nI 1))), (0, .ref (E.2.1 (71))), (2, .int v2)]) hC dX6_dummies_28 rfl (by decide) rfl ?_
        refine V_iinc (pc := 29) (lv' := [(2, .int (v2 + (nI 1))), (1, .int (v1 + (nI 1))), (0, .ref (E.2.1 (71)))]) hC (nI 1) 2 dX6_dummies_29 rfl (by decide) (by decide) rfl ?_
        refine V_goto (pc := 32) (tgt := 4) hC dX6_dummies_32 (by decide) ?_
        refine V_sub (pc := 4) (lv' := [(0, .ref (E.2.1 (71))), (1, .int (v1 + (nI 1))), (2, .int (v2 + (nI 1)))]) [2, 1, 0] rfl ?_
        exact ih (v1 + (nI 1)) (v2 + (nI 1)) hf
def f_X6_dummies (k : Nat) (I : Mem) : Option (Int32) := f_X6_dummies_4 k I k (nI 0) (nI 0)
set_option maxHeartbeats 4000000 in
set_option maxRecDepth 100000 in
theorem c_X6_dummies {E : EN} {k : Nat} {I : Mem} {r : Int32} (hf : f_X6_dummies k I = some r) : Ct E yX6_dummies cX6_dummies 3 (some .int) 0 0 [.ref (E.2.1 (71))] I (some (.int r)) I := by
  refine Ct_of (by decide) (Nat.le_of_ble_eq_true rfl) (fun X hC0 hR => ?_)
  have hC : Cx X E cX6_dummies 3 RX6 0 0 := hC0
  change V X E 3 0 [(0, .ref (E.2.1 (71)))] [] I
  unfold f_X6_dummies at hf
  refine V_iconst (pc := 0) hC dX6_dummies_0 (v := (nI 0)) (by decide) ?_
  refine V_istore_n (pc := 1) (lv' := [(1, .int (nI 0)), (0, .ref (E.2.1 (71)))]) hC dX6_dummies_1 rfl (by decide) rfl ?_
  refine V_iconst (pc := 2) hC dX6_dummies_2 (v := (nI 0)) (by decide) ?_
  refine V_istore_n (pc := 3) (lv' := [(2, .int (nI 0)), (1, .int (nI 0)), (0, .ref (E.2.1 (71)))]) hC dX6_dummies_3 rfl (by decide) rfl ?_
  refine V_sub (pc := 4) (lv' := [(0, .ref (E.2.1 (71))), (1, .int (nI 0)), (2, .int (nI 0))]) [2, 1, 0] rfl ?_
  exact b_X6_dummies_4 hC hR k (nI 0) (nI 0) hf
def f_X6_blockers_4 (k : Nat) (I : Mem) : Nat → Int32 → Int32 → Option (Int32)
  | 0, _, _ => none
  | n + 1, v1, v2 => (if (I (71) 8) ≤ v2 then some v1 else (Option.bind (f_X6_isBlocker k v2 I) (fun r2 => (if r2 = 0 then (f_X6_blockers_4 k I n) (v1 + (nI 0)) (v2 + (nI 1)) else (f_X6_blockers_4 k I n) (v1 + (nI 1)) (v2 + (nI 1))))))
set_option maxHeartbeats 4000000 in
set_option maxRecDepth 100000 in
theorem b_X6_blockers_4 {X : XT} {E : EN} {k : Nat} {I : Mem} {r : Int32} (hC : Cx X E cX6_blockers 3 RX6 1 22) (hR : Rt X E cX6_blockers (some .int) (some (.int r)) I) : ∀ (n : Nat) (v1 : Int32) (v2 : Int32), f_X6_blockers_4 k I n v1 v2 = some r → V X E 3 4 [(0, .ref (E.2.1 (71))), (1, .int v1), (2, .int v2)] [] I := by
  intro n
  induction n with
  | zero =>
    intro v1 v2 hf
    rw [f_X6_blockers_4] at hf
    cases hf
  | succ n ih =>
    intro v1 v2 hf
    rw [f_X6_blockers_4] at hf
    refine V_iload_n (pc := 4) hC 2 dX6_blockers_4 rfl rfl ?_
    refine V_aload_n (pc := 5) hC 0 dX6_blockers_5 rfl rfl ?_
    refine gf_X6_77 (pc := 6) hC dX6_blockers_6 ?_
    refine V_icmp_ge (pc := 9) (tgt := 34) hC dX6_blockers_9 (by decide) (fun c1 => ?_) (fun c1 => ?_)
    · have hf := ite_t hf c1
      refine V_iload_n (pc := 34) hC 1 dX6_blockers_34 rfl rfl ?_
      have hf := Option.some.inj hf; subst hf
      exact V_ireturn (pc := 35) hR rfl dX6_blockers_35
    · have hf := ite_f hf c1
      refine V_iload_n (pc := 12) hC 1 dX6_blockers_12 rfl rfl ?_
      refine V_aload_n (pc := 13) hC 0 dX6_blockers_13 rfl rfl ?_
      refine V_iload_n (pc := 14) hC 2 dX6_blockers_14 rfl rfl ?_
      obtain ⟨r2, g2, hf⟩ := bind_some hf
      refine V_callV (pc := 15) (rest := [.int v1]) (As := [.int v2]) hC lk_X6_145 (by decide) cel_X6 rfl (c_X6_isBlocker  g2) rfl rfl (Nat.le_of_ble_eq_true rfl) (by decide) dX6_blockers_15 ?_
      change V X E 3 18 [(0, .ref (E.2.1 (71))), (1, .int v1), (2, .int v2)] [.int r2, .int v1] I
      refine V_if_eq (pc := 18) (tgt := 25) hC dX6_blockers_18 (by decide) (fun c3 => ?_) (fun c3 => ?_)
      · have hf := ite_t hf c3
        refine V_iconst (pc := 25) hC dX6_blockers_25 (v := (nI 0)) (by decide) ?_
        refine V_iadd (pc := 26) hC dX6_blockers_26 ?_
        refine V_istore_n (pc := 27) (lv' := [(1, .int (v1 + (nI 0))), (0, .ref (E.2.1 (71))), (2, .int v2)]) hC dX6_blockers_27 rfl (by decide) rfl ?_
        refine V_iinc (pc := 28) (lv' := [(2, .int (v2 + (nI 1))), (1, .int (v1 + (nI 0))), (0, .ref (E.2.1 (71)))]) hC (nI 1) 2 dX6_blockers_28 rfl (by decide) (by decide) rfl ?_
        refine V_goto (pc := 31) (tgt := 4) hC dX6_blockers_31 (by decide) ?_
        refine V_sub (pc := 4) (lv' := [(0, .ref (E.2.1 (71))), (1, .int (v1 + (nI 0))), (2, .int (v2 + (nI 1)))]) [2, 1, 0] rfl ?_
        exact ih (v1 + (nI 0)) (v2 + (nI 1)) hf
      · have hf := ite_f hf c3
        refine V_iconst (pc := 21) hC dX6_blockers_21 (v := (nI 1)) (by decide) ?_
        refine V_goto (pc := 22) (tgt := 26) hC dX6_blockers_22 (by decide) ?_
        refine V_iadd (pc := 26) hC dX6_blockers_26 ?_
        refine V_istore_n (pc := 27) (lv' := [(1, .int (v1 + (nI 1))), (0, .ref (E.2.1 (71))), (2, .int v2)]) hC dX6_blockers_27 rfl (by decide) rfl ?_
        refine V_iinc (pc := 28) (lv' := [(2, .int (v2 + (nI 1))), (1, .int (v1 + (nI 1))), (0, .ref (E.2.1 (71)))]) hC (nI 1) 2 dX6_blockers_28 rfl (by decide) (by decide) rfl ?_
        refine V_goto (pc := 31) (tgt := 4) hC dX6_blockers_31 (by decide) ?_
        refine V_sub (pc := 4) (lv' := [(0, .ref (E.2.1 (71))), (1, .int (v1 + (nI 1))), (2, .int (v2 + (nI 1)))]) [2, 1, 0] rfl ?_
        exact ih (v1 + (nI 1)) (v2 + (nI 1)) hf
def f_X6_blockers (k : Nat) (I : Mem) : Option (Int32) := f_X6_blockers_4 k I k (nI 0) (nI 0)
set_option maxHeartbeats 4000000 in
set_option maxRecDepth 100000 in
theorem c_X6_blockers {E : EN} {k : Nat} {I : Mem} {r : Int32} (hf : f_X6_blockers k I = some r) : Ct E yX6_blockers cX6_blockers 3 (some .int) 1 22 [.ref (E.2.1 (71))] I (some (.int r)) I := by
  refine Ct_of (by decide) (Nat.le_of_ble_eq_true rfl) (fun X hC0 hR => ?_)
  have hC : Cx X E cX6_blockers 3 RX6 1 22 := hC0
  change V X E 3 0 [(0, .ref (E.2.1 (71)))] [] I
  unfold f_X6_blockers at hf
  refine V_iconst (pc := 0) hC dX6_blockers_0 (v := (nI 0)) (by decide) ?_
  refine V_istore_n (pc := 1) (lv' := [(1, .int (nI 0)), (0, .ref (E.2.1 (71)))]) hC dX6_blockers_1 rfl (by decide) rfl ?_
  refine V_iconst (pc := 2) hC dX6_blockers_2 (v := (nI 0)) (by decide) ?_
  refine V_istore_n (pc := 3) (lv' := [(2, .int (nI 0)), (1, .int (nI 0)), (0, .ref (E.2.1 (71)))]) hC dX6_blockers_3 rfl (by decide) rfl ?_
  refine V_sub (pc := 4) (lv' := [(0, .ref (E.2.1 (71))), (1, .int (nI 0)), (2, .int (nI 0))]) [2, 1, 0] rfl ?_
  exact b_X6_blockers_4 hC hR k (nI 0) (nI 0) hf
def f_X6_withQuota (k : Nat) (v1 : Int32) (v2 : Int32) (I : Mem) : Option (Int32 × Mem) := (if (f_X6_in v1 (nI 1) (nI 500)) = 0 then some ((-2 : Int32), I) else (if (f_X6_in v2 (nI 0) (nI 3)) = 0 then some ((-2 : Int32), I) else (Option.bind (f_X6_find k v1 I) (fun r3 => (if v2 = 0 then (Option.bind (f_X6_dummies k r3) (fun r9 => some (r9, r3))) else (if v2 = (nI 1) then (Option.bind (f_X6_blockers k r3) (fun r8 => some (r8, r3))) else (if v2 = (nI 2) then some (r3 (71) 15, r3) else (Option.bind (f_X6_winning k r3) (fun r7 => some (r7, r3))))))))))
set_option maxHeartbeats 4000000 in
set_option maxRecDepth 100000 in
theorem c_X6_withQuota {E : EN} {k : Nat} {v1 : Int32} {v2 : Int32} {I : Mem} {r : Int32 × Mem} (hf : f_X6_withQuota k v1 v2 I = some r) : Ct E yX6_withQuota cX6_withQuota 3 (some .int) 4 89 [.ref (E.2.1 (71)), .int v1, .int v2] I (some (.int r.1)) r.2 := by
  refine Ct_of (by decide) (Nat.le_of_ble_eq_true rfl) (fun X hC0 hR => ?_)
  have hC : Cx X E cX6_withQuota 3 RX6 4 89 := hC0
  change V X E 3 0 [(0, .ref (E.2.1 (71))), (1, .int v1), (2, .int v2)] [] I
  unfold f_X6_withQuota at hf
  refine V_iload_n (pc := 0) hC 1 dX6_withQuota_0 rfl rfl ?_
  refine V_iconst (pc := 1) hC dX6_withQuota_1 (v := (nI 1)) (by decide) ?_
  refine V_sipush (pc := 2) hC dX6_withQuota_2 (v := (nI 500)) (by decide) ?_
  refine V_callS (pc := 5) (rest := []) (As := [.int v1, .int (nI 1), .int (nI 500)]) hC lk_X6_53 (c_X6_in  rfl) rfl rfl (Nat.le_of_ble_eq_true rfl) (by decide) dX6_withQuota_5 ?_
  change V X E 3 8 [(0, .ref (E.2.1 (71))), (1, .int v1), (2, .int v2)] [.int (f_X6_in v1 (nI 1) (nI 500))] I
  refine V_if_eq (pc := 8) (tgt := 20) hC dX6_withQuota_8 (by decide) (fun c1 => ?_) (fun c1 => ?_)
  · have hf := ite_t hf c1
    refine V_bipush (pc := 20) hC dX6_withQuota_20 (v := (-2 : Int32)) (by decide) ?_
    have hf := Option.some.inj hf; subst hf
    exact V_ireturn (pc := 22) hR rfl dX6_withQuota_22
  · have hf := ite_f hf c1
    refine V_iload_n (pc := 11) hC 2 dX6_withQuota_11 rfl rfl ?_
    refine V_iconst (pc := 12) hC dX6_withQuota_12 (v := (nI 0)) (by decide) ?_
    refine V_iconst (pc := 13) hC dX6_withQuota_13 (v := (nI 3)) (by decide) ?_
    refine V_callS (pc := 14) (rest := []) (As := [.int v2, .int (nI 0), .int (nI 3)]) hC lk_X6_53 (c_X6_in  rfl) rfl rfl (Nat.le_of_ble_eq_true rfl) (by decide) dX6_withQuota_14 ?_
    change V X E 3 17 [(0, .ref (E.2.1 (71))), (1, .int v1), (2, .int v2)] [.int (f_X6_in v2 (nI 0) (nI 3))] I
    refine V_if_ne (pc := 17) (tgt := 23) hC dX6_withQuota_17 (by decide) (fun c2 => ?_) (fun c2 => ?_)
    · have hf := ite_f hf c2
      refine V_aload_n (pc := 23) hC 0 dX6_withQuota_23 rfl rfl ?_
      refine V_iload_n (pc := 24) hC 1 dX6_withQuota_24 rfl rfl ?_
      obtain ⟨r3, g3, hf⟩ := bind_some hf
      refine V_callV (pc := 25) (rest := []) (As := [.int v1]) hC lk_X6_102 (by decide) cel_X6 rfl (c_X6_find  g3) rfl rfl (Nat.le_of_ble_eq_true rfl) (by decide) dX6_withQuota_25 ?_
      change V X E 3 28 [(0, .ref (E.2.1 (71))), (1, .int v1), (2, .int v2)] [] r3
      refine V_iload_n (pc := 28) hC 2 dX6_withQuota_28 rfl rfl ?_
      refine V_if_ne (pc := 29) (tgt := 39) hC dX6_withQuota_29 (by decide) (fun c4 => ?_) (fun c4 => ?_)
      · have hf := ite_f hf c4
        refine V_iload_n (pc := 39) hC 2 dX6_withQuota_39 rfl rfl ?_
        refine V_iconst (pc := 40) hC dX6_withQuota_40 (v := (nI 1)) (by decide) ?_
        refine V_icmp_ne (pc := 41) (tgt := 51) hC dX6_withQuota_41 (by decide) (fun c5 => ?_) (fun c5 => ?_)
        · have hf := ite_f hf c5
          refine V_iload_n (pc := 51) hC 2 dX6_withQuota_51 rfl rfl ?_
          refine V_iconst (pc := 52) hC dX6_withQuota_52 (v := (nI 2)) (by decide) ?_
          refine V_icmp_ne (pc := 53) (tgt := 63) hC dX6_withQuota_53 (by decide) (fun c6 => ?_) (fun c6 => ?_)
          · have hf := ite_f hf c6
            refine V_aload_n (pc := 63) hC 0 dX6_withQuota_63 rfl rfl ?_
            obtain ⟨r7, g7, hf⟩ := bind_some hf
            refine V_callV (pc := 64) (rest := []) (As := []) hC lk_X6_154 (by decide) cel_X6 rfl (c_X6_winning  g7) rfl rfl (Nat.le_of_ble_eq_true rfl) (by decide) dX6_withQuota_64 ?_
            change V X E 3 67 [(0, .ref (E.2.1 (71))), (1, .int v1), (2, .int v2)] [.int r7] r3
            have hf := Option.some.inj hf; subst hf
            exact V_ireturn (pc := 67) hR rfl dX6_withQuota_67
          · have hf := ite_t hf c6
            refine V_aload_n (pc := 56) hC 0 dX6_withQuota_56 rfl rfl ?_
            refine gf_X6_99 (pc := 57) hC dX6_withQuota_57 ?_
            refine V_goto (pc := 60) (tgt := 67) hC dX6_withQuota_60 (by decide) ?_
            have hf := Option.some.inj hf; subst hf
            exact V_ireturn (pc := 67) hR rfl dX6_withQuota_67
        · have hf := ite_t hf c5
          refine V_aload_n (pc := 44) hC 0 dX6_withQuota_44 rfl rfl ?_
          obtain ⟨r8, g8, hf⟩ := bind_some hf
          refine V_callV (pc := 45) (rest := []) (As := []) hC lk_X6_166 (by decide) cel_X6 rfl (c_X6_blockers  g8) rfl rfl (Nat.le_of_ble_eq_true rfl) (by decide) dX6_withQuota_45 ?_
          change V X E 3 48 [(0, .ref (E.2.1 (71))), (1, .int v1), (2, .int v2)] [.int r8] r3
          refine V_goto (pc := 48) (tgt := 67) hC dX6_withQuota_48 (by decide) ?_
          have hf := Option.some.inj hf; subst hf
          exact V_ireturn (pc := 67) hR rfl dX6_withQuota_67
      · have hf := ite_t hf c4
        refine V_aload_n (pc := 32) hC 0 dX6_withQuota_32 rfl rfl ?_
        obtain ⟨r9, g9, hf⟩ := bind_some hf
        refine V_callV (pc := 33) (rest := []) (As := []) hC lk_X6_163 (by decide) cel_X6 rfl (c_X6_dummies  g9) rfl rfl (Nat.le_of_ble_eq_true rfl) (by decide) dX6_withQuota_33 ?_
        change V X E 3 36 [(0, .ref (E.2.1 (71))), (1, .int v1), (2, .int v2)] [.int r9] r3
        refine V_goto (pc := 36) (tgt := 67) hC dX6_withQuota_36 (by decide) ?_
        have hf := Option.some.inj hf; subst hf
        exact V_ireturn (pc := 67) hR rfl dX6_withQuota_67
    · have hf := ite_t hf c2
      refine V_bipush (pc := 20) hC dX6_withQuota_20 (v := (-2 : Int32)) (by decide) ?_
      have hf := Option.some.inj hf; subst hf
      exact V_ireturn (pc := 22) hR rfl dX6_withQuota_22
def f_X6_allWeights_4 (k : Nat) (I : Mem) : Nat → Int32 → Int32 → Option (Int32)
  | 0, _, _ => none
  | n + 1, v1, v2 => (if (I (72) (Int32.toNatClampNeg (nI 0))) ≤ v2 then some v1 else (if inB ((nI 29) + v2) 69 = true then (f_X6_allWeights_4 k I n) (v1 + (I (72) (Int32.toNatClampNeg ((nI 29) + v2)))) (v2 + (nI 1)) else none))
set_option maxHeartbeats 4000000 in
set_option maxRecDepth 100000 in
theorem b_X6_allWeights_4 {X : XT} {E : EN} {k : Nat} {I : Mem} {r : Int32} (hC : Cx X E cX6_allWeights 3 RX6 0 0) (hR : Rt X E cX6_allWeights (some .int) (some (.int r)) I) : ∀ (n : Nat) (v1 : Int32) (v2 : Int32), f_X6_allWeights_4 k I n v1 v2 = some r → V X E 3 4 [(0, .ref (E.2.1 (71))), (1, .int v1), (2, .int v2)] [] I := by
  intro n
  induction n with
  | zero =>
    intro v1 v2 hf
    rw [f_X6_allWeights_4] at hf
    cases hf
  | succ n ih =>
    intro v1 v2 hf
    rw [f_X6_allWeights_4] at hf
    refine V_iload_n (pc := 4) hC 2 dX6_allWeights_4 rfl rfl ?_
    refine V_aload_n (pc := 5) hC 0 dX6_allWeights_5 rfl rfl ?_
    refine gf_X6_7 (pc := 6) hC dX6_allWeights_6 ?_
    refine V_iconst (pc := 9) hC dX6_allWeights_9 (v := (nI 0)) (by decide) ?_
    refine V_iald (pc := 10) hC ia_72 (inB_of (by decide)) dX6_allWeights_10 ?_
    refine V_icmp_ge (pc := 11) (tgt := 32) hC dX6_allWeights_11 (by decide) (fun c1 => ?_) (fun c1 => ?_)
    · have hf := ite_t hf c1
      refine V_iload_n (pc := 32) hC 1 dX6_allWeights_32 rfl rfl ?_
      have hf := Option.some.inj hf; subst hf
      exact V_ireturn (pc := 33) hR rfl dX6_allWeights_33
    · have hf := ite_f hf c1
      refine V_iload_n (pc := 14) hC 1 dX6_allWeights_14 rfl rfl ?_
      refine V_aload_n (pc := 15) hC 0 dX6_allWeights_15 rfl rfl ?_
      refine gf_X6_7 (pc := 16) hC dX6_allWeights_16 ?_
      refine V_bipush (pc := 19) hC dX6_allWeights_19 (v := (nI 29)) (by decide) ?_
      refine V_iload_n (pc := 21) hC 2 dX6_allWeights_21 rfl rfl ?_
      refine V_iadd (pc := 22) hC dX6_allWeights_22 ?_
      obtain ⟨h2, hf⟩ := if_some hf
      refine V_iald (pc := 23) hC ia_72 (inB_of h2) dX6_allWeights_23 ?_
      refine V_iadd (pc := 24) hC dX6_allWeights_24 ?_
      refine V_istore_n (pc := 25) (lv' := [(1, .int (v1 + (I (72) (Int32.toNatClampNeg ((nI 29) + v2))))), (0, .ref (E.2.1 (71))), (2, .int v2)]) hC dX6_allWeights_25 rfl (by decide) rfl ?_
      refine V_iinc (pc := 26) (lv' := [(2, .int (v2 + (nI 1))), (1, .int (v1 + (I (72) (Int32.toNatClampNeg ((nI 29) + v2))))), (0, .ref (E.2.1 (71)))]) hC (nI 1) 2 dX6_allWeights_26 rfl (by decide) (by decide) rfl ?_
      refine V_goto (pc := 29) (tgt := 4) hC dX6_allWeights_29 (by decide) ?_
      refine V_sub (pc := 4) (lv' := [(0, .ref (E.2.1 (71))), (1, .int (v1 + (I (72) (Int32.toNatClampNeg ((nI 29) + v2))))), (2, .int (v2 + (nI 1)))]) [2, 1, 0] rfl ?_
      exact ih (v1 + (I (72) (Int32.toNatClampNeg ((nI 29) + v2)))) (v2 + (nI 1)) hf
def f_X6_allWeights (k : Nat) (I : Mem) : Option (Int32) := f_X6_allWeights_4 k I k (nI 0) (nI 0)
set_option maxHeartbeats 4000000 in
set_option maxRecDepth 100000 in
theorem c_X6_allWeights {E : EN} {k : Nat} {I : Mem} {r : Int32} (hf : f_X6_allWeights k I = some r) : Ct E yX6_allWeights cX6_allWeights 3 (some .int) 0 0 [.ref (E.2.1 (71))] I (some (.int r)) I := by
  refine Ct_of (by decide) (Nat.le_of_ble_eq_true rfl) (fun X hC0 hR => ?_)
  have hC : Cx X E cX6_allWeights 3 RX6 0 0 := hC0
  change V X E 3 0 [(0, .ref (E.2.1 (71)))] [] I
  unfold f_X6_allWeights at hf
  refine V_iconst (pc := 0) hC dX6_allWeights_0 (v := (nI 0)) (by decide) ?_
  refine V_istore_n (pc := 1) (lv' := [(1, .int (nI 0)), (0, .ref (E.2.1 (71)))]) hC dX6_allWeights_1 rfl (by decide) rfl ?_
  refine V_iconst (pc := 2) hC dX6_allWeights_2 (v := (nI 0)) (by decide) ?_
  refine V_istore_n (pc := 3) (lv' := [(2, .int (nI 0)), (1, .int (nI 0)), (0, .ref (E.2.1 (71)))]) hC dX6_allWeights_3 rfl (by decide) rfl ?_
  refine V_sub (pc := 4) (lv' := [(0, .ref (E.2.1 (71))), (1, .int (nI 0)), (2, .int (nI 0))]) [2, 1, 0] rfl ?_
  exact b_X6_allWeights_4 hC hR k (nI 0) (nI 0) hf
def f_X6_leavesOut_32 (k : Nat) (v1 : Int32) (v3 : Int32) : Nat → Int32 → Mem → Option (Int32 × Mem)
  | 0, _, _ => none
  | n + 1, v4, I => (if v3 < v4 then some ((-5 : Int32), I) else (Option.bind (f_X6_find k v4 I) (fun r6 => (Option.bind (f_X6_blocOf k v1 r6) (fun r7 => (if inB r7 10 = true then (if (r6 (80) (Int32.toNatClampNeg r7)) = 0 then some (v4, r6) else (f_X6_leavesOut_32 k v1 v3 n) (v4 + (nI 1)) r6) else none))))))
set_option maxHeartbeats 4000000 in
set_option maxRecDepth 100000 in
theorem b_X6_leavesOut_32 {X : XT} {E : EN} {k : Nat} {v1 : Int32} {v3 : Int32} {r : Int32 × Mem} (hC : Cx X E cX6_leavesOut 5 RX6 4 89) (hR : Rt X E cX6_leavesOut (some .int) (some (.int r.1)) r.2) : ∀ (n : Nat) (v4 : Int32) (I : Mem), f_X6_leavesOut_32 k v1 v3 n v4 I = some r → V X E 5 32 [(0, .ref (E.2.1 (71))), (1, .int v1), (3, .int v3), (4, .int v4)] [] I := by
  intro n
  induction n with
  | zero =>
    intro v4 I hf
    rw [f_X6_leavesOut_32] at hf
    cases hf
  | succ n ih =>
    intro v4 I hf
    rw [f_X6_leavesOut_32] at hf
    refine V_iload (pc := 32) hC 3 dX6_leavesOut_32 rfl ?_
    refine V_iload_n (pc := 34) hC 2 dX6_leavesOut_34 rfl rfl ?_
    refine V_icmp_gt (pc := 35) (tgt := 66) hC dX6_leavesOut_35 (by decide) (fun c5 => ?_) (fun c5 => ?_)
    · have hf := ite_t hf c5
      refine V_bipush (pc := 66) hC dX6_leavesOut_66 (v := (-5 : Int32)) (by decide) ?_
      have hf := Option.some.inj hf; subst hf
      exact V_ireturn (pc := 68) hR rfl dX6_leavesOut_68
    · have hf := ite_f hf c5
      refine V_aload_n (pc := 38) hC 0 dX6_leavesOut_38 rfl rfl ?_
      refine V_iload (pc := 39) hC 3 dX6_leavesOut_39 rfl ?_
      obtain ⟨r6, g6, hf⟩ := bind_some hf
      refine V_callV (pc := 41) (rest := []) (As := [.int v4]) hC lk_X6_102 (by decide) cel_X6 rfl (c_X6_find  g6) rfl rfl (Nat.le_of_ble_eq_true rfl) (by decide) dX6_leavesOut_41 ?_
      change V X E 5 44 [(0, .ref (E.2.1 (71))), (1, .int v1), (3, .int v3), (4, .int v4)] [] r6
      refine V_aload_n (pc := 44) hC 0 dX6_leavesOut_44 rfl rfl ?_
      refine gf_X6_36 (pc := 45) hC dX6_leavesOut_45 ?_
      refine V_aload_n (pc := 48) hC 0 dX6_leavesOut_48 rfl rfl ?_
      refine V_iload_n (pc := 49) hC 1 dX6_leavesOut_49 rfl rfl ?_
      obtain ⟨r7, g7, hf⟩ := bind_some hf
      refine V_callV (pc := 50) (rest := [.ref (E.2.1 (80))]) (As := [.int v1]) hC lk_X6_83 (by decide) cel_X6 rfl (c_X6_blocOf  g7) rfl rfl (Nat.le_of_ble_eq_true rfl) (by decide) dX6_leavesOut_50 ?_
      change V X E 5 53 [(0, .ref (E.2.1 (71))), (1, .int v1), (3, .int v3), (4, .int v4)] [.int r7, .ref (E.2.1 (80))] r6
      obtain ⟨h8, hf⟩ := if_some hf
      refine V_iald (pc := 53) hC ia_80 (inB_of h8) dX6_leavesOut_53 ?_
      refine V_if_ne (pc := 54) (tgt := 60) hC dX6_leavesOut_54 (by decide) (fun c9 => ?_) (fun c9 => ?_)
      · have hf := ite_f hf c9
        refine V_iinc (pc := 60) (lv' := [(4, .int (v4 + (nI 1))), (0, .ref (E.2.1 (71))), (1, .int v1), (3, .int v3)]) hC (nI 1) 3 dX6_leavesOut_60 rfl (by decide) (by decide) rfl ?_
        refine V_goto (pc := 63) (tgt := 32) hC dX6_leavesOut_63 (by decide) ?_
        refine V_sub (pc := 32) (lv' := [(0, .ref (E.2.1 (71))), (1, .int v1), (3, .int v3), (4, .int (v4 + (nI 1)))]) [1, 2, 3, 0] rfl ?_
        exact ih (v4 + (nI 1)) r6 hf
      · have hf := ite_t hf c9
        refine V_iload (pc := 57) hC 3 dX6_leavesOut_57 rfl ?_
        have hf := Option.some.inj hf; subst hf
        exact V_ireturn (pc := 59) hR rfl dX6_leavesOut_59
def f_X6_leavesOut (k : Nat) (v1 : Int32) (v2 : Int32) (I : Mem) : Option (Int32 × Mem) := (Option.bind (f_X6_noMember k v1 I) (fun r1 => (if r1 = 0 then (if (f_X6_in v2 (nI 1) (nI 500)) = 0 then some ((-2 : Int32), I) else (Option.bind (f_X6_allWeights k I) (fun r4 => f_X6_leavesOut_32 k v1 r4 k v2 I))) else some ((-1 : Int32), I))))
set_option maxHeartbeats 4000000 in
set_option maxRecDepth 100000 in
theorem c_X6_leavesOut {E : EN} {k : Nat} {v1 : Int32} {v2 : Int32} {I : Mem} {r : Int32 × Mem} (hf : f_X6_leavesOut k v1 v2 I = some r) : Ct E yX6_leavesOut cX6_leavesOut 5 (some .int) 4 89 [.ref (E.2.1 (71)), .int v1, .int v2] I (some (.int r.1)) r.2 := by
  refine Ct_of (by decide) (Nat.le_of_ble_eq_true rfl) (fun X hC0 hR => ?_)
  have hC : Cx X E cX6_leavesOut 5 RX6 4 89 := hC0
  change V X E 5 0 [(0, .ref (E.2.1 (71))), (1, .int v1), (2, .int v2)] [] I
  unfold f_X6_leavesOut at hf
  refine V_aload_n (pc := 0) hC 0 dX6_leavesOut_0 rfl rfl ?_
  refine V_iload_n (pc := 1) hC 1 dX6_leavesOut_1 rfl rfl ?_
  obtain ⟨r1, g1, hf⟩ := bind_some hf
  refine V_callV (pc := 2) (rest := []) (As := [.int v1]) hC lk_X6_57 (by decide) cel_X6 rfl (c_X6_noMember  g1) rfl rfl (Nat.le_of_ble_eq_true rfl) (by decide) dX6_leavesOut_2 ?_
  change V X E 5 5 [(0, .ref (E.2.1 (71))), (1, .int v1), (2, .int v2)] [.int r1] I
  refine V_if_eq (pc := 5) (tgt := 10) hC dX6_leavesOut_5 (by decide) (fun c2 => ?_) (fun c2 => ?_)
  · have hf := ite_t hf c2
    refine V_iload_n (pc := 10) hC 2 dX6_leavesOut_10 rfl rfl ?_
    refine V_iconst (pc := 11) hC dX6_leavesOut_11 (v := (nI 1)) (by decide) ?_
    refine V_sipush (pc := 12) hC dX6_leavesOut_12 (v := (nI 500)) (by decide) ?_
    refine V_callS (pc := 15) (rest := []) (As := [.int v2, .int (nI 1), .int (nI 500)]) hC lk_X6_53 (c_X6_in  rfl) rfl rfl (Nat.le_of_ble_eq_true rfl) (by decide) dX6_leavesOut_15 ?_
    change V X E 5 18 [(0, .ref (E.2.1 (71))), (1, .int v1), (2, .int v2)] [.int (f_X6_in v2 (nI 1) (nI 500))] I
    refine V_if_ne (pc := 18) (tgt := 24) hC dX6_leavesOut_18 (by decide) (fun c3 => ?_) (fun c3 => ?_)
    · have hf := ite_f hf c3
      refine V_aload_n (pc := 24) hC 0 dX6_leavesOut_24 rfl rfl ?_
      obtain ⟨r4, g4, hf⟩ := bind_some hf
      refine V_callV (pc := 25) (rest := []) (As := []) hC lk_X6_169 (by decide) cel_X6 rfl (c_X6_allWeights  g4) rfl rfl (Nat.le_of_ble_eq_true rfl) (by decide) dX6_leavesOut_25 ?_
      change V X E 5 28 [(0, .ref (E.2.1 (71))), (1, .int v1), (2, .int v2)] [.int r4] I
      refine V_istore_n (pc := 28) (lv' := [(3, .int r4), (0, .ref (E.2.1 (71))), (1, .int v1), (2, .int v2)]) hC dX6_leavesOut_28 rfl (by decide) rfl ?_
      refine V_iload_n (pc := 29) hC 3 dX6_leavesOut_29 rfl rfl ?_
      refine V_istore (pc := 30) (lv' := [(4, .int v2), (3, .int r4), (0, .ref (E.2.1 (71))), (1, .int v1), (2, .int v2)]) hC dX6_leavesOut_30 (by decide) rfl ?_
      refine V_sub (pc := 32) (lv' := [(0, .ref (E.2.1 (71))), (1, .int v1), (3, .int r4), (4, .int v2)]) [2, 3, 1, 0] rfl ?_
      exact b_X6_leavesOut_32 hC hR k v2 I hf
    · have hf := ite_t hf c3
      refine V_bipush (pc := 21) hC dX6_leavesOut_21 (v := (-2 : Int32)) (by decide) ?_
      have hf := Option.some.inj hf; subst hf
      exact V_ireturn (pc := 23) hR rfl dX6_leavesOut_23
  · have hf := ite_f hf c2
    refine V_iconst (pc := 8) hC dX6_leavesOut_8 (v := (-1 : Int32)) (by decide) ?_
    have hf := Option.some.inj hf; subst hf
    exact V_ireturn (pc := 9) hR rfl dX6_leavesOut_9
def f_X6_apart_5 (k : Nat) (I : Mem) (v1 : Int32) : Nat → Int64 → Int32 → Option (Int64)
  | 0, _, _ => none
  | n + 1, v2, v4 => (if (I (71) 8) ≤ v4 then some v2 else (if inB v4 10 = true then (if inB v4 10 = true then (if 0 ≤ (lg_cmp (((Int32.toInt64 (I (80) (Int32.toNatClampNeg v4))) * (Int32.toInt64 v1)) - ((Int32.toInt64 (I (77) (Int32.toNatClampNeg v4))) * (Int32.toInt64 (I (71) 15)))) (0 : Int64)) then (f_X6_apart_5 k I v1 n) (v2 + (((Int32.toInt64 (I (80) (Int32.toNatClampNeg v4))) * (Int32.toInt64 v1)) - ((Int32.toInt64 (I (77) (Int32.toNatClampNeg v4))) * (Int32.toInt64 (I (71) 15))))) (v4 + (nI 1)) else (f_X6_apart_5 k I v1 n) (v2 + (-(((Int32.toInt64 (I (80) (Int32.toNatClampNeg v4))) * (Int32.toInt64 v1)) - ((Int32.toInt64 (I (77) (Int32.toNatClampNeg v4))) * (Int32.toInt64 (I (71) 15)))))) (v4 + (nI 1))) else none) else none))
set_option maxHeartbeats 4000000 in
set_option maxRecDepth 100000 in
theorem b_X6_apart_5 {X : XT} {E : EN} {k : Nat} {I : Mem} {v1 : Int32} {r : Int64} (hC : Cx X E cX6_apart 7 RX6 0 0) (hR : Rt X E cX6_apart (some .long) (some (.long r)) I) : ∀ (n : Nat) (v2 : Int64) (v4 : Int32), f_X6_apart_5 k I v1 n v2 v4 = some r → V X E 7 5 [(0, .ref (E.2.1 (71))), (1, .int v1), (2, .long v2), (4, .int v4)] [] I := by
  intro n
  induction n with
  | zero =>
    intro v2 v4 hf
    rw [f_X6_apart_5] at hf
    cases hf
  | succ n ih =>
    intro v2 v4 hf
    rw [f_X6_apart_5] at hf
    refine V_iload (pc := 5) hC 3 dX6_apart_5 rfl ?_
    refine V_aload_n (pc := 7) hC 0 dX6_apart_7 rfl rfl ?_
    refine gf_X6_77 (pc := 8) hC dX6_apart_8 ?_
    refine V_icmp_ge (pc := 11) (tgt := 66) hC dX6_apart_11 (by decide) (fun c1 => ?_) (fun c1 => ?_)
    · have hf := ite_t hf c1
      refine V_lload_n (pc := 66) hC 2 dX6_apart_66 rfl rfl ?_
      have hf := Option.some.inj hf; subst hf
      exact V_lreturn (pc := 67) hR rfl dX6_apart_67
    · have hf := ite_f hf c1
      refine V_aload_n (pc := 14) hC 0 dX6_apart_14 rfl rfl ?_
      refine gf_X6_36 (pc := 15) hC dX6_apart_15 ?_
      refine V_iload (pc := 18) hC 3 dX6_apart_18 rfl ?_
      obtain ⟨h2, hf⟩ := if_some hf
      refine V_iald (pc := 20) hC ia_80 (inB_of h2) dX6_apart_20 ?_
      refine V_i2l (pc := 21) hC dX6_apart_21 ?_
      refine V_iload_n (pc := 22) hC 1 dX6_apart_22 rfl rfl ?_
      refine V_i2l (pc := 23) hC dX6_apart_23 ?_
      refine V_lmul (pc := 24) hC dX6_apart_24 ?_
      refine V_aload_n (pc := 25) hC 0 dX6_apart_25 rfl rfl ?_
      refine gf_X6_26 (pc := 26) hC dX6_apart_26 ?_
      refine V_iload (pc := 29) hC 3 dX6_apart_29 rfl ?_
      obtain ⟨h3, hf⟩ := if_some hf
      refine V_iald (pc := 31) hC ia_77 (inB_of h3) dX6_apart_31 ?_
      refine V_i2l (pc := 32) hC dX6_apart_32 ?_
      refine V_aload_n (pc := 33) hC 0 dX6_apart_33 rfl rfl ?_
      refine gf_X6_99 (pc := 34) hC dX6_apart_34 ?_
      refine V_i2l (pc := 37) hC dX6_apart_37 ?_
      refine V_lmul (pc := 38) hC dX6_apart_38 ?_
      refine V_lsub (pc := 39) hC dX6_apart_39 ?_
      refine V_lstore (pc := 40) (lv' := [(5, .long (((Int32.toInt64 (I (80) (Int32.toNatClampNeg v4))) * (Int32.toInt64 v1)) - ((Int32.toInt64 (I (77) (Int32.toNatClampNeg v4))) * (Int32.toInt64 (I (71) 15))))), (0, .ref (E.2.1 (71))), (1, .int v1), (2, .long v2), (4, .int v4)]) hC dX6_apart_40 (by decide) rfl ?_
      refine V_lload_n (pc := 42) hC 3 dX6_apart_42 rfl rfl ?_
      refine V_lload (pc := 43) hC 0 dX6_apart_43 rfl ?_
      refine V_lconst (pc := 45) hC dX6_apart_45 (v := (0 : Int64)) (by decide) ?_
      refine V_lcmp (pc := 46) hC dX6_apart_46 ?_
      refine V_if_ge (pc := 47) (tgt := 56) hC dX6_apart_47 (by decide) (fun c4 => ?_) (fun c4 => ?_)
      · have hf := ite_t hf c4
        refine V_lload (pc := 56) hC 0 dX6_apart_56 rfl ?_
        refine V_ladd (pc := 58) hC dX6_apart_58 ?_
        refine V_lstore_n (pc := 59) (lv' := [(2, .long (v2 + (((Int32.toInt64 (I (80) (Int32.toNatClampNeg v4))) * (Int32.toInt64 v1)) - ((Int32.toInt64 (I (77) (Int32.toNatClampNeg v4))) * (Int32.toInt64 (I (71) 15)))))), (5, .long (((Int32.toInt64 (I (80) (Int32.toNatClampNeg v4))) * (Int32.toInt64 v1)) - ((Int32.toInt64 (I (77) (Int32.toNatClampNeg v4))) * (Int32.toInt64 (I (71) 15))))), (0, .ref (E.2.1 (71))), (1, .int v1), (4, .int v4)]) hC dX6_apart_59 rfl (by decide) rfl ?_
        refine V_iinc (pc := 60) (lv' := [(4, .int (v4 + (nI 1))), (2, .long (v2 + (((Int32.toInt64 (I (80) (Int32.toNatClampNeg v4))) * (Int32.toInt64 v1)) - ((Int32.toInt64 (I (77) (Int32.toNatClampNeg v4))) * (Int32.toInt64 (I (71) 15)))))), (5, .long (((Int32.toInt64 (I (80) (Int32.toNatClampNeg v4))) * (Int32.toInt64 v1)) - ((Int32.toInt64 (I (77) (Int32.toNatClampNeg v4))) * (Int32.toInt64 (I (71) 15))))), (0, .ref (E.2.1 (71))), (1, .int v1)]) hC (nI 1) 4 dX6_apart_60 rfl (by decide) (by decide) rfl ?_
        refine V_goto (pc := 63) (tgt := 5) hC dX6_apart_63 (by decide) ?_
        refine V_sub (pc := 5) (lv' := [(0, .ref (E.2.1 (71))), (1, .int v1), (2, .long (v2 + (((Int32.toInt64 (I (80) (Int32.toNatClampNeg v4))) * (Int32.toInt64 v1)) - ((Int32.toInt64 (I (77) (Int32.toNatClampNeg v4))) * (Int32.toInt64 (I (71) 15)))))), (4, .int (v4 + (nI 1)))]) [3, 4, 1, 0] rfl ?_
        exact ih (v2 + (((Int32.toInt64 (I (80) (Int32.toNatClampNeg v4))) * (Int32.toInt64 v1)) - ((Int32.toInt64 (I (77) (Int32.toNatClampNeg v4))) * (Int32.toInt64 (I (71) 15))))) (v4 + (nI 1)) hf
      · have hf := ite_f hf c4
        refine V_lload (pc := 50) hC 0 dX6_apart_50 rfl ?_
        refine V_lneg (pc := 52) hC dX6_apart_52 ?_
        refine V_goto (pc := 53) (tgt := 58) hC dX6_apart_53 (by decide) ?_
        refine V_ladd (pc := 58) hC dX6_apart_58 ?_
        refine V_lstore_n (pc := 59) (lv' := [(2, .long (v2 + (-(((Int32.toInt64 (I (80) (Int32.toNatClampNeg v4))) * (Int32.toInt64 v1)) - ((Int32.toInt64 (I (77) (Int32.toNatClampNeg v4))) * (Int32.toInt64 (I (71) 15))))))), (5, .long (((Int32.toInt64 (I (80) (Int32.toNatClampNeg v4))) * (Int32.toInt64 v1)) - ((Int32.toInt64 (I (77) (Int32.toNatClampNeg v4))) * (Int32.toInt64 (I (71) 15))))), (0, .ref (E.2.1 (71))), (1, .int v1), (4, .int v4)]) hC dX6_apart_59 rfl (by decide) rfl ?_
        refine V_iinc (pc := 60) (lv' := [(4, .int (v4 + (nI 1))), (2, .long (v2 + (-(((Int32.toInt64 (I (80) (Int32.toNatClampNeg v4))) * (Int32.toInt64 v1)) - ((Int32.toInt64 (I (77) (Int32.toNatClampNeg v4))) * (Int32.toInt64 (I (71) 15))))))), (5, .long (((Int32.toInt64 (I (80) (Int32.toNatClampNeg v4))) * (Int32.toInt64 v1)) - ((Int32.toInt64 (I (77) (Int32.toNatClampNeg v4))) * (Int32.toInt64 (I (71) 15))))), (0, .ref (E.2.1 (71))), (1, .int v1)]) hC (nI 1) 4 dX6_apart_60 rfl (by decide) (by decide) rfl ?_
        refine V_goto (pc := 63) (tgt := 5) hC dX6_apart_63 (by decide) ?_
        refine V_sub (pc := 5) (lv' := [(0, .ref (E.2.1 (71))), (1, .int v1), (2, .long (v2 + (-(((Int32.toInt64 (I (80) (Int32.toNatClampNeg v4))) * (Int32.toInt64 v1)) - ((Int32.toInt64 (I (77) (Int32.toNatClampNeg v4))) * (Int32.toInt64 (I (71) 15))))))), (4, .int (v4 + (nI 1)))]) [3, 4, 1, 0] rfl ?_
        exact ih (v2 + (-(((Int32.toInt64 (I (80) (Int32.toNatClampNeg v4))) * (Int32.toInt64 v1)) - ((Int32.toInt64 (I (77) (Int32.toNatClampNeg v4))) * (Int32.toInt64 (I (71) 15)))))) (v4 + (nI 1)) hf
def f_X6_apart (k : Nat) (v1 : Int32) (I : Mem) : Option (Int64) := f_X6_apart_5 k I v1 k (0 : Int64) (nI 0)
set_option maxHeartbeats 4000000 in
set_option maxRecDepth 100000 in
theorem c_X6_apart {E : EN} {k : Nat} {v1 : Int32} {I : Mem} {r : Int64} (hf : f_X6_apart k v1 I = some r) : Ct E yX6_apart cX6_apart 7 (some .long) 0 0 [.ref (E.2.1 (71)), .int v1] I (some (.long r)) I := by
  refine Ct_of (by decide) (Nat.le_of_ble_eq_true rfl) (fun X hC0 hR => ?_)
  have hC : Cx X E cX6_apart 7 RX6 0 0 := hC0
  change V X E 7 0 [(0, .ref (E.2.1 (71))), (1, .int v1)] [] I
  unfold f_X6_apart at hf
  refine V_lconst (pc := 0) hC dX6_apart_0 (v := (0 : Int64)) (by decide) ?_
  refine V_lstore_n (pc := 1) (lv' := [(2, .long (0 : Int64)), (0, .ref (E.2.1 (71))), (1, .int v1)]) hC dX6_apart_1 rfl (by decide) rfl ?_
  refine V_iconst (pc := 2) hC dX6_apart_2 (v := (nI 0)) (by decide) ?_
  refine V_istore (pc := 3) (lv' := [(4, .int (nI 0)), (2, .long (0 : Int64)), (0, .ref (E.2.1 (71))), (1, .int v1)]) hC dX6_apart_3 (by decide) rfl ?_
  refine V_sub (pc := 5) (lv' := [(0, .ref (E.2.1 (71))), (1, .int v1), (2, .long (0 : Int64)), (4, .int (nI 0))]) [2, 3, 1, 0] rfl ?_
  exact b_X6_apart_5 hC hR k (0 : Int64) (nI 0) hf
def f_X6_fairest_55 (k : Nat) (I : Mem) (v1 : Int32) (v7 : Int32) (v8 : Int64) (sh16 : Int32 → Int64 → Int64 → Int32 → Mem → Option (Int32 × Mem)) : Option (Int32 × Mem) := sh16 v7 v8 (Int32.toInt64 (I (71) 15)) (v7 + (nI 1)) I
set_option maxHeartbeats 4000000 in
set_option maxRecDepth 100000 in
theorem b_X6_fairest_55 {X : XT} {E : EN} {k : Nat} {I : Mem} {v1 : Int32} {v7 : Int32} {v8 : Int64} {sh16 : Int32 → Int64 → Int64 → Int32 → Mem → Option (Int32 × Mem)} {r : Int32 × Mem} (hC : Cx X E cX6_fairest 10 RX6 4 89) (hs16 : ∀ (v2 : Int32) (v3 : Int64) (v5 : Int64) (v7 : Int32) (J : Mem), sh16 v2 v3 v5 v7 J = some r → V X E 10 16 [(0, .ref (E.2.1 (71))), (1, .int v1), (2, .int v2), (3, .long v3), (5, .long v5), (7, .int v7)] [] J) (hR : Rt X E cX6_fairest (some .int) (some (.int r.1)) r.2) (hf : f_X6_fairest_55 k I v1 v7 v8 sh16 = some r) : V X E 10 55 [(0, .ref (E.2.1 (71))), (1, .int v1), (7, .int v7), (8, .long v8)] [] I := by
  unfold f_X6_fairest_55 at hf
  refine V_iload (pc := 55) hC 2 dX6_fairest_55 rfl ?_
  refine V_istore_n (pc := 57) (lv' := [(2, .int v7), (0, .ref (E.2.1 (71))), (1, .int v1), (7, .int v7), (8, .long v8)]) hC dX6_fairest_57 rfl (by decide) rfl ?_
  refine V_lload (pc := 58) hC 4 dX6_fairest_58 rfl ?_
  refine V_lstore_n (pc := 60) (lv' := [(3, .long v8), (2, .int v7), (0, .ref (E.2.1 (71))), (1, .int v1), (7, .int v7), (8, .long v8)]) hC dX6_fairest_60 rfl (by decide) rfl ?_
  refine V_aload_n (pc := 61) hC 2 dX6_fairest_61 rfl rfl ?_
  refine gf_X6_99 (pc := 62) hC dX6_fairest_62 ?_
  refine V_i2l (pc := 65) hC dX6_fairest_65 ?_
  refine V_lstore (pc := 66) (lv' := [(5, .long (Int32.toInt64 (I (71) 15))), (3, .long v8), (2, .int v7), (0, .ref (E.2.1 (71))), (1, .int v1), (7, .int v7), (8, .long v8)]) hC dX6_fairest_66 (by decide) rfl ?_
  refine V_iinc (pc := 68) (lv' := [(7, .int (v7 + (nI 1))), (5, .long (Int32.toInt64 (I (71) 15))), (3, .long v8), (2, .int v7), (0, .ref (E.2.1 (71))), (1, .int v1), (8, .long v8)]) hC (nI 1) 5 dX6_fairest_68 rfl (by decide) (by decide) rfl ?_
  refine V_goto (pc := 71) (tgt := 16) hC dX6_fairest_71 (by decide) ?_
  refine V_sub (pc := 16) (lv' := [(0, .ref (E.2.1 (71))), (1, .int v1), (2, .int v7), (3, .long v8), (5, .long (Int32.toInt64 (I (71) 15))), (7, .int (v7 + (nI 1)))]) [4, 5, 3, 2, 1, 0] rfl ?_
  exact hs16 v7 v8 (Int32.toInt64 (I (71) 15)) (v7 + (nI 1)) I hf
def f_X6_fairest_16 (k : Nat) (v1 : Int32) : Nat → Int32 → Int64 → Int64 → Int32 → Mem → Option (Int32 × Mem)
  | 0, _, _, _, _, _ => none
  | n + 1, v2, v3, v5, v7, I => (if v1 < v7 then some (v2, I) else (Option.bind (f_X6_find k v7 I) (fun r3 => (Option.bind (f_X6_apart k v1 r3) (fun r4 => (if v2 < 0 then f_X6_fairest_55 k r3 v1 v7 r4 (f_X6_fairest_16 k v1 n) else (if 0 ≤ (lg_cmp (r4 * v5) (v3 * (Int32.toInt64 (r3 (71) 15)))) then (f_X6_fairest_16 k v1 n) v2 v3 v5 (v7 + (nI 1)) r3 else f_X6_fairest_55 k r3 v1 v7 r4 (f_X6_fairest_16 k v1 n))))))))
set_option maxHeartbeats 4000000 in
set_option maxRecDepth 100000 in
theorem b_X6_fairest_16 {X : XT} {E : EN} {k : Nat} {v1 : Int32} {r : Int32 × Mem} (hC : Cx X E cX6_fairest 10 RX6 4 89) (hR : Rt X E cX6_fairest (some .int) (some (.int r.1)) r.2) : ∀ (n : Nat) (v2 : Int32) (v3 : Int64) (v5 : Int64) (v7 : Int32) (I : Mem), f_X6_fairest_16 k v1 n v2 v3 v5 v7 I = some r → V X E 10 16 [(0, .ref (E.2.1 (71))), (1, .int v1), (2, .int v2), (3, .long v3), (5, .long v5), (7, .int v7)] [] I := by
  intro n
  induction n with
  | zero =>
    intro v2 v3 v5 v7 I hf
    rw [f_X6_fairest_16] at hf
    cases hf
  | succ n ih =>
    intro v2 v3 v5 v7 I hf
    rw [f_X6_fairest_16] at hf
    refine V_iload (pc := 16) hC 5 dX6_fairest_16 rfl ?_
    refine V_iload_n (pc := 18) hC 1 dX6_fairest_18 rfl rfl ?_
    refine V_icmp_gt (pc := 19) (tgt := 74) hC dX6_fairest_19 (by decide) (fun c2 => ?_) (fun c2 => ?_)
    · have hf := ite_t hf c2
      refine V_iload_n (pc := 74) hC 2 dX6_fairest_74 rfl rfl ?_
      have hf := Option.some.inj hf; subst hf
      exact V_ireturn (pc := 75) hR rfl dX6_fairest_75
    · have hf := ite_f hf c2
      refine V_aload_n (pc := 22) hC 0 dX6_fairest_22 rfl rfl ?_
      refine V_iload (pc := 23) hC 5 dX6_fairest_23 rfl ?_
      obtain ⟨r3, g3, hf⟩ := bind_some hf
      refine V_callV (pc := 25) (rest := []) (As := [.int v7]) hC lk_X6_102 (by decide) cel_X6 rfl (c_X6_find  g3) rfl rfl (Nat.le_of_ble_eq_true rfl) (by decide) dX6_fairest_25 ?_
      change V X E 10 28 [(0, .ref (E.2.1 (71))), (1, .int v1), (2, .int v2), (3, .long v3), (5, .long v5), (7, .int v7)] [] r3
      refine V_aload_n (pc := 28) hC 0 dX6_fairest_28 rfl rfl ?_
      refine V_iload_n (pc := 29) hC 1 dX6_fairest_29 rfl rfl ?_
      obtain ⟨r4, g4, hf⟩ := bind_some hf
      refine V_callV (pc := 30) (rest := []) (As := [.int v1]) hC lk_X6_172 (by decide) cel_X6 rfl (c_X6_apart  g4) rfl rfl (Nat.le_of_ble_eq_true rfl) (by decide) dX6_fairest_30 ?_
      change V X E 10 33 [(0, .ref (E.2.1 (71))), (1, .int v1), (2, .int v2), (3, .long v3), (5, .long v5), (7, .int v7)] [.long r4] r3
      refine V_lstore (pc := 33) (lv' := [(8, .long r4), (0, .ref (E.2.1 (71))), (1, .int v1), (2, .int v2), (3, .long v3), (5, .long v5), (7, .int v7)]) hC dX6_fairest_33 (by decide) rfl ?_
      refine V_iload_n (pc := 35) hC 3 dX6_fairest_35 rfl rfl ?_
      refine V_if_lt (pc := 36) (tgt := 55) hC dX6_fairest_36 (by decide) (fun c5 => ?_) (fun c5 => ?_)
      · have hf := ite_t hf c5
        refine V_sub (pc := 55) (lv' := [(0, .ref (E.2.1 (71))), (1, .int v1), (7, .int v7), (8, .long r4)]) [1, 2, 6, 0] rfl ?_
        exact b_X6_fairest_55 hC ih hR hf
      · have hf := ite_f hf c5
        refine V_lload (pc := 39) hC 0 dX6_fairest_39 rfl ?_
        refine V_lload (pc := 41) hC 5 dX6_fairest_41 rfl ?_
        refine V_lmul (pc := 43) hC dX6_fairest_43 ?_
        refine V_lload_n (pc := 44) hC 4 dX6_fairest_44 rfl rfl ?_
        refine V_aload_n (pc := 45) hC 1 dX6_fairest_45 rfl rfl ?_
        refine gf_X6_99 (pc := 46) hC dX6_fairest_46 ?_
        refine V_i2l (pc := 49) hC dX6_fairest_49 ?_
        refine V_lmul (pc := 50) hC dX6_fairest_50 ?_
        refine V_lcmp (pc := 51) hC dX6_fairest_51 ?_
        refine V_if_ge (pc := 52) (tgt := 68) hC dX6_fairest_52 (by decide) (fun c6 => ?_) (fun c6 => ?_)
        · have hf := ite_t hf c6
          refine V_iinc (pc := 68) (lv' := [(7, .int (v7 + (nI 1))), (8, .long r4), (0, .ref (E.2.1 (71))), (1, .int v1), (2, .int v2), (3, .long v3), (5, .long v5)]) hC (nI 1) 6 dX6_fairest_68 rfl (by decide) (by decide) rfl ?_
          refine V_goto (pc := 71) (tgt := 16) hC dX6_fairest_71 (by decide) ?_
          refine V_sub (pc := 16) (lv' := [(0, .ref (E.2.1 (71))), (1, .int v1), (2, .int v2), (3, .long v3), (5, .long v5), (7, .int (v7 + (nI 1)))]) [2, 3, 4, 5, 6, 0] rfl ?_
          exact ih v2 v3 v5 (v7 + (nI 1)) r3 hf
        · have hf := ite_f hf c6
          refine V_sub (pc := 55) (lv' := [(0, .ref (E.2.1 (71))), (1, .int v1), (7, .int v7), (8, .long r4)]) [1, 2, 6, 0] rfl ?_
          exact b_X6_fairest_55 hC ih hR hf
def f_X6_fairest (k : Nat) (I : Mem) : Option (Int32 × Mem) := (Option.bind (f_X6_allWeights k I) (fun r1 => f_X6_fairest_16 k r1 k (-5 : Int32) (0 : Int64) (1 : Int64) (nI 1) I))
set_option maxHeartbeats 4000000 in
set_option maxRecDepth 100000 in
theorem c_X6_fairest {E : EN} {k : Nat} {I : Mem} {r : Int32 × Mem} (hf : f_X6_fairest k I = some r) : Ct E yX6_fairest cX6_fairest 10 (some .int) 4 89 [.ref (E.2.1 (71))] I (some (.int r.1)) r.2 := by
  refine Ct_of (by decide) (Nat.le_of_ble_eq_true rfl) (fun X hC0 hR => ?_)
  have hC : Cx X E cX6_fairest 10 RX6 4 89 := hC0
  change V X E 10 0 [(0, .ref (E.2.1 (71)))] [] I
  unfold f_X6_fairest at hf
  refine V_aload_n (pc := 0) hC 0 dX6_fairest_0 rfl rfl ?_
  obtain ⟨r1, g1, hf⟩ := bind_some hf
  refine V_callV (pc := 1) (rest := []) (As := []) hC lk_X6_169 (by decide) cel_X6 rfl (c_X6_allWeights  g1) rfl rfl (Nat.le_of_ble_eq_true rfl) (by decide) dX6_fairest_1 ?_
  change V X E 10 4 [(0, .ref (E.2.1 (71)))] [.int r1] I
  refine V_istore_n (pc := 4) (lv' := [(1, .int r1), (0, .ref (E.2.1 (71)))]) hC dX6_fairest_4 rfl (by decide) rfl ?_
  refine V_bipush (pc := 5) hC dX6_fairest_5 (v := (-5 : Int32)) (by decide) ?_
  refine V_istore_n (pc := 7) (lv' := [(2, .int (-5 : Int32)), (1, .int r1), (0, .ref (E.2.1 (71)))]) hC dX6_fairest_7 rfl (by decide) rfl ?_
  refine V_lconst (pc := 8) hC dX6_fairest_8 (v := (0 : Int64)) (by decide) ?_
  refine V_lstore_n (pc := 9) (lv' := [(3, .long (0 : Int64)), (2, .int (-5 : Int32)), (1, .int r1), (0, .ref (E.2.1 (71)))]) hC dX6_fairest_9 rfl (by decide) rfl ?_
  refine V_lconst (pc := 10) hC dX6_fairest_10 (v := (1 : Int64)) (by decide) ?_
  refine V_lstore (pc := 11) (lv' := [(5, .long (1 : Int64)), (3, .long (0 : Int64)), (2, .int (-5 : Int32)), (1, .int r1), (0, .ref (E.2.1 (71)))]) hC dX6_fairest_11 (by decide) rfl ?_
  refine V_iconst (pc := 13) hC dX6_fairest_13 (v := (nI 1)) (by decide) ?_
  refine V_istore (pc := 14) (lv' := [(7, .int (nI 1)), (5, .long (1 : Int64)), (3, .long (0 : Int64)), (2, .int (-5 : Int32)), (1, .int r1), (0, .ref (E.2.1 (71)))]) hC dX6_fairest_14 (by decide) rfl ?_
  refine V_sub (pc := 16) (lv' := [(0, .ref (E.2.1 (71))), (1, .int r1), (2, .int (-5 : Int32)), (3, .long (0 : Int64)), (5, .long (1 : Int64)), (7, .int (nI 1))]) [5, 4, 3, 2, 1, 0] rfl ?_
  exact b_X6_fairest_16 hC hR k (-5 : Int32) (0 : Int64) (1 : Int64) (nI 1) I hf
def f_X6_ballot (k : Nat) (v1 : Int32) (v2 : Int32) (I : Mem) : Option (Int32) := (if v1 < 0 then some (-2 : Int32) else (if (f_X6_in v2 (nI 0) (nI 2)) = 0 then some (-2 : Int32) else (if (I (72) (Int32.toNatClampNeg (nI 4))) ≤ v1 then some (-5 : Int32) else (if inB (((nI 5) + ((nI 3) * v1)) + v2) 69 = true then some (I (72) (Int32.toNatClampNeg (((nI 5) + ((nI 3) * v1)) + v2))) else none))))
set_option maxHeartbeats 4000000 in
set_option maxRecDepth 100000 in
theorem c_X6_ballot {E : EN} {k : Nat} {v1 : Int32} {v2 : Int32} {I : Mem} {r : Int32} (hf : f_X6_ballot k v1 v2 I = some r) : Ct E yX6_ballot cX6_ballot 3 (some .int) 1 22 [.ref (E.2.1 (71)), .int v1, .int v2] I (some (.int r)) I := by
  refine Ct_of (by decide) (Nat.le_of_ble_eq_true rfl) (fun X hC0 hR => ?_)
  have hC : Cx X E cX6_ballot 3 RX6 1 22 := hC0
  change V X E 3 0 [(0, .ref (E.2.1 (71))), (1, .int v1), (2, .int v2)] [] I
  unfold f_X6_ballot at hf
  refine V_iload_n (pc := 0) hC 1 dX6_ballot_0 rfl rfl ?_
  refine V_if_lt (pc := 1) (tgt := 13) hC dX6_ballot_1 (by decide) (fun c1 => ?_) (fun c1 => ?_)
  · have hf := ite_t hf c1
    refine V_bipush (pc := 13) hC dX6_ballot_13 (v := (-2 : Int32)) (by decide) ?_
    have hf := Option.some.inj hf; subst hf
    exact V_ireturn (pc := 15) hR rfl dX6_ballot_15
  · have hf := ite_f hf c1
    refine V_iload_n (pc := 4) hC 2 dX6_ballot_4 rfl rfl ?_
    refine V_iconst (pc := 5) hC dX6_ballot_5 (v := (nI 0)) (by decide) ?_
    refine V_iconst (pc := 6) hC dX6_ballot_6 (v := (nI 2)) (by decide) ?_
    refine V_callS (pc := 7) (rest := []) (As := [.int v2, .int (nI 0), .int (nI 2)]) hC lk_X6_53 (c_X6_in  rfl) rfl rfl (Nat.le_of_ble_eq_true rfl) (by decide) dX6_ballot_7 ?_
    change V X E 3 10 [(0, .ref (E.2.1 (71))), (1, .int v1), (2, .int v2)] [.int (f_X6_in v2 (nI 0) (nI 2))] I
    refine V_if_ne (pc := 10) (tgt := 16) hC dX6_ballot_10 (by decide) (fun c2 => ?_) (fun c2 => ?_)
    · have hf := ite_f hf c2
      refine V_iload_n (pc := 16) hC 1 dX6_ballot_16 rfl rfl ?_
      refine V_aload_n (pc := 17) hC 0 dX6_ballot_17 rfl rfl ?_
      refine gf_X6_7 (pc := 18) hC dX6_ballot_18 ?_
      refine V_iconst (pc := 21) hC dX6_ballot_21 (v := (nI 4)) (by decide) ?_
      refine V_iald (pc := 22) hC ia_72 (inB_of (by decide)) dX6_ballot_22 ?_
      refine V_icmp_ge (pc := 23) (tgt := 41) hC dX6_ballot_23 (by decide) (fun c3 => ?_) (fun c3 => ?_)
      · have hf := ite_t hf c3
        refine V_bipush (pc := 41) hC dX6_ballot_41 (v := (-5 : Int32)) (by decide) ?_
        have hf := Option.some.inj hf; subst hf
        exact V_ireturn (pc := 43) hR rfl dX6_ballot_43
      · have hf := ite_f hf c3
        refine V_aload_n (pc := 26) hC 0 dX6_ballot_26 rfl rfl ?_
        refine gf_X6_7 (pc := 27) hC dX6_ballot_27 ?_
        refine V_iconst (pc := 30) hC dX6_ballot_30 (v := (nI 5)) (by decide) ?_
        refine V_iconst (pc := 31) hC dX6_ballot_31 (v := (nI 3)) (by decide) ?_
        refine V_iload_n (pc := 32) hC 1 dX6_ballot_32 rfl rfl ?_
        refine V_imul (pc := 33) hC dX6_ballot_33 ?_
        refine V_iadd (pc := 34) hC dX6_ballot_34 ?_
        refine V_iload_n (pc := 35) hC 2 dX6_ballot_35 rfl rfl ?_
        refine V_iadd (pc := 36) hC dX6_ballot_36 ?_
        obtain ⟨h4, hf⟩ := if_some hf
        refine V_iald (pc := 37) hC ia_72 (inB_of h4) dX6_ballot_37 ?_
        refine V_goto (pc := 38) (tgt := 43) hC dX6_ballot_38 (by decide) ?_
        have hf := Option.some.inj hf; subst hf
        exact V_ireturn (pc := 43) hR rfl dX6_ballot_43
    · have hf := ite_t hf c2
      refine V_bipush (pc := 13) hC dX6_ballot_13 (v := (-2 : Int32)) (by decide) ?_
      have hf := Option.some.inj hf; subst hf
      exact V_ireturn (pc := 15) hR rfl dX6_ballot_15
def f_X6_count (k : Nat) (v1 : Int32) (I : Mem) : Option (Int32 × Mem) := (Option.bind (f_X6_findLeast k I) (fun r1 => (if v1 = (nI 0) then some (r1 (72) (Int32.toNatClampNeg (nI 0)), r1) else (if v1 = (nI 1) then some (r1 (71) 8, r1) else (if v1 = (nI 2) then some (r1 (72) (Int32.toNatClampNeg (nI 1)), r1) else (if v1 = (nI 3) then (Option.bind (f_X6_allWeights k r1) (fun r6 => some (r6, r1))) else (if v1 = (nI 4) then (Option.bind (f_X6_winning k r1) (fun r8 => some (r8, r1))) else (if v1 = (nI 5) then some (r1 (71) 17, r1) else (if v1 = (nI 6) then some (r1 (71) 15, r1) else (if v1 = (nI 7) then (Option.bind (f_X6_dummies k r1) (fun r12 => some (r12, r1))) else (if v1 = (nI 8) then (Option.bind (f_X6_withVeto k r1) (fun r14 => some (r14, r1))) else (if v1 = (nI 9) then some (r1 (72) (Int32.toNatClampNeg (nI 2)), r1) else (if v1 = (nI 10) then some (r1 (72) (Int32.toNatClampNeg (nI 3)), r1) else (if v1 = (nI 11) then some (r1 (71) 3, r1) else (if v1 = (nI 12) then some (r1 (71) 6, r1) else some ((-2 : Int32), r1))))))))))))))))
set_option maxHeartbeats 4000000 in
set_option maxRecDepth 100000 in
theorem c_X6_count {E : EN} {k : Nat} {v1 : Int32} {I : Mem} {r : Int32 × Mem} (hf : f_X6_count k v1 I = some r) : Ct E yX6_count cX6_count 2 (some .int) 6 131 [.ref (E.2.1 (71)), .int v1] I (some (.int r.1)) r.2 := by
  refine Ct_of (by decide) (Nat.le_of_ble_eq_true rfl) (fun X hC0 hR => ?_)
  have hC : Cx X E cX6_count 2 RX6 6 131 := hC0
  change V X E 2 0 [(0, .ref (E.2.1 (71))), (1, .int v1)] [] I
  unfold f_X6_count at hf
  refine V_aload_n (pc := 0) hC 0 dX6_count_0 rfl rfl ?_
  obtain ⟨r1, g1, hf⟩ := bind_some hf
  refine V_callV (pc := 1) (rest := []) (As := []) hC lk_X6_160 (by decide) cel_X6 rfl (c_X6_findLeast  g1) rfl rfl (Nat.le_of_ble_eq_true rfl) (by decide) dX6_count_1 ?_
  change V X E 2 4 [(0, .ref (E.2.1 (71))), (1, .int v1)] [] r1
  refine V_iload_n (pc := 4) hC 1 dX6_count_4 rfl rfl ?_
  by_cases c2 : v1 = (nI 0)
  · have hf := ite_t hf c2
    refine V_tableIn (pc := 5) (tgt := 72) (off := 67) hC dX6_count_5 (by rw [c2]; decide) (by rw [c2]; decide) (by rw [c2]; decide) (by decide) ?_
    refine V_aload_n (pc := 72) hC 0 dX6_count_72 rfl rfl ?_
    refine gf_X6_7 (pc := 73) hC dX6_count_73 ?_
    refine V_iconst (pc := 76) hC dX6_count_76 (v := (nI 0)) (by decide) ?_
    refine V_iald (pc := 77) hC ia_72 (inB_of (by decide)) dX6_count_77 ?_
    have hf := Option.some.inj hf; subst hf
    exact V_ireturn (pc := 78) hR rfl dX6_count_78
  have hf := ite_f hf c2
  by_cases c3 : v1 = (nI 1)
  · have hf := ite_t hf c3
    refine V_tableIn (pc := 5) (tgt := 79) (off := 74) hC dX6_count_5 (by rw [c3]; decide) (by rw [c3]; decide) (by rw [c3]; decide) (by decide) ?_
    refine V_aload_n (pc := 79) hC 0 dX6_count_79 rfl rfl ?_
    refine gf_X6_77 (pc := 80) hC dX6_count_80 ?_
    have hf := Option.some.inj hf; subst hf
    exact V_ireturn (pc := 83) hR rfl dX6_count_83
  have hf := ite_f hf c3
  by_cases c4 : v1 = (nI 2)
  · have hf := ite_t hf c4
    refine V_tableIn (pc := 5) (tgt := 84) (off := 79) hC dX6_count_5 (by rw [c4]; decide) (by rw [c4]; decide) (by rw [c4]; decide) (by decide) ?_
    refine V_aload_n (pc := 84) hC 0 dX6_count_84 rfl rfl ?_
    refine gf_X6_7 (pc := 85) hC dX6_count_85 ?_
    refine V_iconst (pc := 88) hC dX6_count_88 (v := (nI 1)) (by decide) ?_
    refine V_iald (pc := 89) hC ia_72 (inB_of (by decide)) dX6_count_89 ?_
    have hf := Option.some.inj hf; subst hf
    exact V_ireturn (pc := 90) hR rfl dX6_count_90
  have hf := ite_f hf c4
  by_cases c5 : v1 = (nI 3)
  · have hf := ite_t hf c5
    refine V_tableIn (pc := 5) (tgt := 91) (off := 86) hC dX6_count_5 (by rw [c5]; decide) (by rw [c5]; decide) (by rw [c5]; decide) (by decide) ?_
    refine V_aload_n (pc := 91) hC 0 dX6_count_91 rfl rfl ?_
    obtain ⟨r6, g6, hf⟩ := bind_some hf
    refine V_callV (pc := 92) (rest := []) (As := []) hC lk_X6_169 (by decide) cel_X6 rfl (c_X6_allWeights  g6) rfl rfl (Nat.le_of_ble_eq_true rfl) (by decide) dX6_count_92 ?_
    change V X E 2 95 [(0, .ref (E.2.1 (71))), (1, .int v1)] [.int r6] r1
    have hf := Option.some.inj hf; subst hf
    exact V_ireturn (pc := 95) hR rfl dX6_count_95
  have hf := ite_f hf c5
  by_cases c7 : v1 = (nI 4)
  · have hf := ite_t hf c7
    refine V_tableIn (pc := 5) (tgt := 96) (off := 91) hC dX6_count_5 (by rw [c7]; decide) (by rw [c7]; decide) (by rw [c7]; decide) (by decide) ?_
    refine V_aload_n (pc := 96) hC 0 dX6_count_96 rfl rfl ?_
    obtain ⟨r8, g8, hf⟩ := bind_some hf
    refine V_callV (pc := 97) (rest := []) (As := []) hC lk_X6_154 (by decide) cel_X6 rfl (c_X6_winning  g8) rfl rfl (Nat.le_of_ble_eq_true rfl) (by decide) dX6_count_97 ?_
    change V X E 2 100 [(0, .ref (E.2.1 (71))), (1, .int v1)] [.int r8] r1
    have hf := Option.some.inj hf; subst hf
    exact V_ireturn (pc := 100) hR rfl dX6_count_100
  have hf := ite_f hf c7
  by_cases c9 : v1 = (nI 5)
  · have hf := ite_t hf c9
    refine V_tableIn (pc := 5) (tgt := 101) (off := 96) hC dX6_count_5 (by rw [c9]; decide) (by rw [c9]; decide) (by rw [c9]; decide) (by decide) ?_
    refine V_aload_n (pc := 101) hC 0 dX6_count_101 rfl rfl ?_
    refine gf_X6_117 (pc := 102) hC dX6_count_102 ?_
    have hf := Option.some.inj hf; subst hf
    exact V_ireturn (pc := 105) hR rfl dX6_count_105
  have hf := ite_f hf c9
  by_cases c10 : v1 = (nI 6)
  · have hf := ite_t hf c10
    refine V_tableIn (pc := 5) (tgt := 106) (off := 101) hC dX6_count_5 (by rw [c10]; decide) (by rw [c10]; decide) (by rw [c10]; decide) (by decide) ?_
    refine V_aload_n (pc := 106) hC 0 dX6_count_106 rfl rfl ?_
    refine gf_X6_99 (pc := 107) hC dX6_count_107 ?_
    have hf := Option.some.inj hf; subst hf
    exact V_ireturn (pc := 110) hR rfl dX6_count_110
  have hf := ite_f hf c10
  by_cases c11 : v1 = (nI 7)
  · have hf := ite_t hf c11
    refine V_tableIn (pc := 5) (tgt := 111) (off := 106) hC dX6_count_5 (by rw [c11]; decide) (by rw [c11]; decide) (by rw [c11]; decide) (by decide) ?_
    refine V_aload_n (pc := 111) hC 0 dX6_count_111 rfl rfl ?_
    obtain ⟨r12, g12, hf⟩ := bind_some hf
    refine V_callV (pc := 112) (rest := []) (As := []) hC lk_X6_163 (by decide) cel_X6 rfl (c_X6_dummies  g12) rfl rfl (Nat.le_of_ble_eq_true rfl) (by decide) dX6_count_112 ?_
    change V X E 2 115 [(0, .ref (E.2.1 (71))), (1, .int v1)] [.int r12] r1
    have hf := Option.some.inj hf; subst hf
    exact V_ireturn (pc := 115) hR rfl dX6_count_115
  have hf := ite_f hf c11
  by_cases c13 : v1 = (nI 8)
  · have hf := ite_t hf c13
    refine V_tableIn (pc := 5) (tgt := 116) (off := 111) hC dX6_count_5 (by rw [c13]; decide) (by rw [c13]; decide) (by rw [c13]; decide) (by decide) ?_
    refine V_aload_n (pc := 116) hC 0 dX6_count_116 rfl rfl ?_
    obtain ⟨r14, g14, hf⟩ := bind_some hf
    refine V_callV (pc := 117) (rest := []) (As := []) hC lk_X6_69 (by decide) cel_X6 rfl (c_X6_withVeto  g14) rfl rfl (Nat.le_of_ble_eq_true rfl) (by decide) dX6_count_117 ?_
    change V X E 2 120 [(0, .ref (E.2.1 (71))), (1, .int v1)] [.int r14] r1
    have hf := Option.some.inj hf; subst hf
    exact V_ireturn (pc := 120) hR rfl dX6_count_120
  have hf := ite_f hf c13
  by_cases c15 : v1 = (nI 9)
  · have hf := ite_t hf c15
    refine V_tableIn (pc := 5) (tgt := 121) (off := 116) hC dX6_count_5 (by rw [c15]; decide) (by rw [c15]; decide) (by rw [c15]; decide) (by decide) ?_
    refine V_aload_n (pc := 121) hC 0 dX6_count_121 rfl rfl ?_
    refine gf_X6_7 (pc := 122) hC dX6_count_122 ?_
    refine V_iconst (pc := 125) hC dX6_count_125 (v := (nI 2)) (by decide) ?_
    refine V_iald (pc := 126) hC ia_72 (inB_of (by decide)) dX6_count_126 ?_
    have hf := Option.some.inj hf; subst hf
    exact V_ireturn (pc := 127) hR rfl dX6_count_127
  have hf := ite_f hf c15
  by_cases c16 : v1 = (nI 10)
  · have hf := ite_t hf c16
    refine V_tableIn (pc := 5) (tgt := 128) (off := 123) hC dX6_count_5 (by rw [c16]; decide) (by rw [c16]; decide) (by rw [c16]; decide) (by decide) ?_
    refine V_aload_n (pc := 128) hC 0 dX6_count_128 rfl rfl ?_
    refine gf_X6_7 (pc := 129) hC dX6_count_129 ?_
    refine V_iconst (pc := 132) hC dX6_count_132 (v := (nI 3)) (by decide) ?_
    refine V_iald (pc := 133) hC ia_72 (inB_of (by decide)) dX6_count_133 ?_
    have hf := Option.some.inj hf; subst hf
    exact V_ireturn (pc := 134) hR rfl dX6_count_134
  have hf := ite_f hf c16
  by_cases c17 : v1 = (nI 11)
  · have hf := ite_t hf c17
    refine V_tableIn (pc := 5) (tgt := 135) (off := 130) hC dX6_count_5 (by rw [c17]; decide) (by rw [c17]; decide) (by rw [c17]; decide) (by decide) ?_
    refine V_aload_n (pc := 135) hC 0 dX6_count_135 rfl rfl ?_
    refine gf_X6_42 (pc := 136) hC dX6_count_136 ?_
    have hf := Option.some.inj hf; subst hf
    exact V_ireturn (pc := 139) hR rfl dX6_count_139
  have hf := ite_f hf c17
  by_cases c18 : v1 = (nI 12)
  · have hf := ite_t hf c18
    refine V_tableIn (pc := 5) (tgt := 140) (off := 135) hC dX6_count_5 (by rw [c18]; decide) (by rw [c18]; decide) (by rw [c18]; decide) (by decide) ?_
    refine V_aload_n (pc := 140) hC 0 dX6_count_140 rfl rfl ?_
    refine gf_X6_126 (pc := 141) hC dX6_count_141 ?_
    have hf := Option.some.inj hf; subst hf
    exact V_ireturn (pc := 144) hR rfl dX6_count_144
  have hf := ite_f hf c18
  refine V_tableOut (pc := 5) (tgt := 145) hC dX6_count_5 (by have zc2 := lv_neT c2 (a := 0) (by decide); have zc3 := lv_neT c3 (a := 1) (by decide); have zc4 := lv_neT c4 (a := 2) (by decide); have zc5 := lv_neT c5 (a := 3) (by decide); have zc7 := lv_neT c7 (a := 4) (by decide); have zc9 := lv_neT c9 (a := 5) (by decide); have zc10 := lv_neT c10 (a := 6) (by decide); have zc11 := lv_neT c11 (a := 7) (by decide); have zc13 := lv_neT c13 (a := 8) (by decide); have zc15 := lv_neT c15 (a := 9) (by decide); have zc16 := lv_neT c16 (a := 10) (by decide); have zc17 := lv_neT c17 (a := 11) (by decide); have zc18 := lv_neT c18 (a := 12) (by decide); omega) (by decide) ?_
  refine V_bipush (pc := 145) hC dX6_count_145 (v := (-2 : Int32)) (by decide) ?_
  have hf := Option.some.inj hf; subst hf
  exact V_ireturn (pc := 147) hR rfl dX6_count_147
