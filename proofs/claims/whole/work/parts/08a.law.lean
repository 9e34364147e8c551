/-! the law's script -/
def ScrOk (X : XT) (b L : Nat) (sc : Nat → Int32) : Prop := va_X b L sc (xs X) (xs X).heap ∧ b < (xs X).heap.size ∧ ¬ xA X b
theorem V_sld {X : XT} {E : EN} {cc : ByteArray} {nL : Nat} {own : String} {fr lo pc : Nat} {lv : List (Nat × Value)} {st : List Value} {I : Mem} (hC : Cx X E cc nL own fr lo) {b L : Nat} {sc : Nat → Int32} (hB : ScrOk X b L sc) {i : Int32} (hin : vp_in i L) (hd : decode cc pc = .ok (.iaload, 1)) (kk : V X E nL (pc + 1) lv (.int (sc i.toNatClampNeg) :: st) I) : V X E nL pc lv (.int i :: .ref b :: st) I :=
  fun H locs ls hP hS hl => va_sld hC.1 hC.2.1 hB.1 hB.2.1 hB.2.2 hS hin hd (kk H locs ls hP hS hl)
theorem V_slen {X : XT} {E : EN} {cc : ByteArray} {nL : Nat} {own : String} {fr lo pc : Nat} {lv : List (Nat × Value)} {st : List Value} {I : Mem} (hC : Cx X E cc nL own fr lo) {b L : Nat} {sc : Nat → Int32} (hB : ScrOk X b L sc) (hd : decode cc pc = .ok (.arraylength, 1)) (kk : V X E nL (pc + 1) lv (.int (nI L) :: st) I) : V X E nL pc lv (.ref b :: st) I :=
  fun H locs ls hP hS hl => va_slen hC.1 hC.2.1 hB.1 hB.2.1 hB.2.2 hS hd (kk H locs ls hP hS hl)
def f_L_law_260 (k : Nat) (b : Nat) (L : Nat) (sc : Nat → Int32) (I : Mem) (v3 : Int32) (sh18 : Int32 → Mem → Option (Int32 × Mem)) (w0 : Int32) (w1 : Int32) (w3 : Int32) : Option (Int32 × Mem) := (Option.bind (f_X6_setVeto k w1 w0 I) (fun r147 => (if w3 = r147.1 then sh18 (v3 + (nI 3)) r147.2 else some ((nI 0), r147.2))))
set_option maxHeartbeats 4000000 in
set_option maxRecDepth 100000 in
theorem b_L_law_260 {X : XT} {E : EN} {k : Nat} {b : Nat} {L : Nat} {sc : Nat → Int32} {I : Mem} {v3 : Int32} {sh18 : Int32 → Mem → Option (Int32 × Mem)} {w0 : Int32} {w1 : Int32} {w3 : Int32} {r : Int32 × Mem} (hC : Cx X E cL_law 4 RL 7 166) (hB : ScrOk X b L sc) (hs18 : ∀ (v3 : Int32) (J : Mem), sh18 v3 J = some r → V X E 4 18 [(0, .ref b), (1, .ref (E.2.1 (48))), (2, .ref (E.2.1 (71))), (3, .int v3)] [] J) (hR : Rt X E cL_law (some .boolean) (some (.int r.1)) r.2) (hf : f_L_law_260 k b L sc I v3 sh18 w0 w1 w3 = some r) : V X E 4 260 [(0, .ref b), (1, .ref (E.2.1 (48))), (2, .ref (E.2.1 (71))), (3, .int v3)] [.int w0, .int w1, .ref (E.2.1 (71)), .int w3] I := by
  unfold f_L_law_260 at hf
  obtain ⟨r147, g147, hf⟩ := bind_some hf
  refine V_callV (pc := 260) (rest := [.int w3]) (As := [.int w1, .int w0]) hC lk_L_31 (by decide) cel_X6 rfl (c_X6_setVeto  g147) rfl rfl (Nat.le_of_ble_eq_true rfl) (by decide) dL_law_260 ?_
  change V X E 4 263 [(0, .ref b), (1, .ref (E.2.1 (48))), (2, .ref (E.2.1 (71))), (3, .int v3)] [.int r147.1, .int w3] r147.2
  refine V_icmp_eq (pc := 263) (tgt := 717) hC dL_law_263 (by decide) (fun c148 => ?_) (fun c148 => ?_)
  · have hf := ite_t hf c148
    refine V_iinc (pc := 717) (lv' := [(3, .int (v3 + (nI 3))), (0, .ref b), (1, .ref (E.2.1 (48))), (2, .ref (E.2.1 (71)))]) hC (nI 3) 3 dL_law_717 rfl (by decide) (by decide) rfl ?_
    refine V_goto (pc := 720) (tgt := 18) hC dL_law_720 (by decide) ?_
    refine V_sub (pc := 18) (lv' := [(0, .ref b), (1, .ref (E.2.1 (48))), (2, .ref (E.2.1 (71))), (3, .int (v3 + (nI 3)))]) [1, 2, 3, 0] rfl ?_
    exact hs18 (v3 + (nI 3)) r147.2 hf
  · have hf := ite_f hf c148
    refine V_iconst (pc := 266) hC dL_law_266 (v := (nI 0)) (by decide) ?_
    have hf := Option.some.inj hf; subst hf
    exact V_ireturn (pc := 267) hR (nar_z (by decide)) dL_law_267
def f_L_law_238 (k : Nat) (b : Nat) (L : Nat) (sc : Nat → Int32) (I : Mem) (v3 : Int32) (sh18 : Int32 → Mem → Option (Int32 × Mem)) (w0 : Int32) (w1 : Int32) : Option (Int32 × Mem) := (Option.bind (f_X5_setVeto k w1 w0 I) (fun r143 => (if inB (v3 + (nI 1)) L = true then (if inB (v3 + (nI 2)) L = true then (if (sc (Int32.toNatClampNeg (v3 + (nI 2)))) = 0 then f_L_law_260 k b L sc r143.2 v3 sh18 (nI 0) (sc (Int32.toNatClampNeg (v3 + (nI 1)))) r143.1 else f_L_law_260 k b L sc r143.2 v3 sh18 (nI 1) (sc (Int32.toNatClampNeg (v3 + (nI 1)))) r143.1) else none) else none)))
set_option maxHeartbeats 4000000 in
set_option maxRecDepth 100000 in
theorem b_L_law_238 {X : XT} {E : EN} {k : Nat} {b : Nat} {L : Nat} {sc : Nat → Int32} {I : Mem} {v3 : Int32} {sh18 : Int32 → Mem → Option (Int32 × Mem)} {w0 : Int32} {w1 : Int32} {r : Int32 × Mem} (hC : Cx X E cL_law 4 RL 7 166) (hB : ScrOk X b L sc) (hs18 : ∀ (v3 : Int32) (J : Mem), sh18 v3 J = some r → V X E 4 18 [(0, .ref b), (1, .ref (E.2.1 (48))), (2, .ref (E.2.1 (71))), (3, .int v3)] [] J) (hR : Rt X E cL_law (some .boolean) (some (.int r.1)) r.2) (hf : f_L_law_238 k b L sc I v3 sh18 w0 w1 = some r) : V X E 4 238 [(0, .ref b), (1, .ref (E.2.1 (48))), (2, .ref (E.2.1 (71))), (3, .int v3)] [.int w0, .int w1, .ref (E.2.1 (48))] I := by
  unfold f_L_law_238 at hf
  obtain ⟨r143, g143, hf⟩ := bind_some hf
  refine V_callV (pc := 238) (rest := []) (As := [.int w1, .int w0]) hC lk_L_27 (by decide) cel_X5 rfl (c_X5_setVeto  g143) rfl rfl (Nat.le_of_ble_eq_true rfl) (by decide) dL_law_238 ?_
  change V X E 4 241 [(0, .ref b), (1, .ref (E.2.1 (48))), (2, .ref (E.2.1 (71))), (3, .int v3)] [.int r143.1] r143.2
  refine V_aload_n (pc := 241) hC 2 dL_law_241 rfl rfl ?_
  refine V_aload_n (pc := 242) hC 0 dL_law_242 rfl rfl ?_
  refine V_iload_n (pc := 243) hC 3 dL_law_243 rfl rfl ?_
  refine V_iconst (pc := 244) hC dL_law_244 (v := (nI 1)) (by decide) ?_
  refine V_iadd (pc := 245) hC dL_law_245 ?_
  obtain ⟨h144, hf⟩ := if_some hf
  refine V_sld (pc := 246) hC hB (inB_of h144) dL_law_246 ?_
  refine V_aload_n (pc := 247) hC 0 dL_law_247 rfl rfl ?_
  refine V_iload_n (pc := 248) hC 3 dL_law_248 rfl rfl ?_
  refine V_iconst (pc := 249) hC dL_law_249 (v := (nI 2)) (by decide) ?_
  refine V_iadd (pc := 250) hC dL_law_250 ?_
  obtain ⟨h145, hf⟩ := if_some hf
  refine V_sld (pc := 251) hC hB (inB_of h145) dL_law_251 ?_
  refine V_if_eq (pc := 252) (tgt := 259) hC dL_law_252 (by decide) (fun c146 => ?_) (fun c146 => ?_)
  · have hf := ite_t hf c146
    refine V_iconst (pc := 259) hC dL_law_259 (v := (nI 0)) (by decide) ?_
    exact b_L_law_260 hC hB hs18 hR hf
  · have hf := ite_f hf c146
    refine V_iconst (pc := 255) hC dL_law_255 (v := (nI 1)) (by decide) ?_
    refine V_goto (pc := 256) (tgt := 260) hC dL_law_256 (by decide) ?_
    exact b_L_law_260 hC hB hs18 hR hf
def f_L_law_18 (k : Nat) (b : Nat) (L : Nat) (sc : Nat → Int32) : Nat → Int32 → Mem → Option (Int32 × Mem)
  | 0, _, _ => none
  | n + 1, v3, I => (if ((nI L) - (nI 3)) < v3 then some ((nI 1), I) else (if inB v3 L = true then (if ((sc (Int32.toNatClampNeg v3)) &&& (nI 31)) = (nI 0) then (if inB (v3 + (nI 1)) L = true then (Option.bind (f_X5_addMember k (sc (Int32.toNatClampNeg (v3 + (nI 1)))) I) (fun r5 => (if inB (v3 + (nI 1)) L = true then (Option.bind (f_X6_addMember k (sc (Int32.toNatClampNeg (v3 + (nI 1)))) r5.2) (fun r7 => (if r5.1 = r7.1 then (f_L_law_18 k b L sc n) (v3 + (nI 3)) r7.2 else some ((nI 0), r7.2)))) else none))) else none) else (if ((sc (Int32.toNatClampNeg v3)) &&& (nI 31)) = (nI 1) then (if inB (v3 + (nI 1)) L = true then (Option.bind (f_X5_removeMember k (sc (Int32.toNatClampNeg (v3 + (nI 1)))) I) (fun r11 => (if inB (v3 + (nI 1)) L = true then (Option.bind (f_X6_removeMember k (sc (Int32.toNatClampNeg (v3 + (nI 1)))) r11.2) (fun r13 => (if r11.1 = r13.1 then (f_L_law_18 k b L sc n) (v3 + (nI 3)) r13.2 else some ((nI 0), r13.2)))) else none))) else none) else (if ((sc (Int32.toNatClampNeg v3)) &&& (nI 31)) = (nI 2) then (if inB (v3 + (nI 1)) L = true then (if inB (v3 + (nI 2)) L = true then (Option.bind (f_X5_setWeight k (sc (Int32.toNatClampNeg (v3 + (nI 1)))) (sc (Int32.toNatClampNeg (v3 + (nI 2)))) I) (fun r18 => (if inB (v3 + (nI 1)) L = true then (if inB (v3 + (nI 2)) L = true then (Option.bind (f_X6_setWeight k (sc (Int32.toNatClampNeg (v3 + (nI 1)))) (sc (Int32.toNatClampNeg (v3 + (nI 2)))) r18.2) (fun r21 => (if r18.1 = r21.1 then (f_L_law_18 k b L sc n) (v3 + (nI 3)) r21.2 else some ((nI 0), r21.2)))) else none) else none))) else none) else none) else (if ((sc (Int32.toNatClampNeg v3)) &&& (nI 31)) = (nI 3) then (if inB (v3 + (nI 1)) L = true then (if inB (v3 + (nI 2)) L = true then (if (sc (Int32.toNatClampNeg (v3 + (nI 2)))) = 0 then f_L_law_238 k b L sc I v3 (f_L_law_18 k b L sc n) (nI 0) (sc (Int32.toNatClampNeg (v3 + (nI 1)))) else f_L_law_238 k b L sc I v3 (f_L_law_18 k b L sc n) (nI 1) (sc (Int32.toNatClampNeg (v3 + (nI 1))))) else none) else none) else (if ((sc (Int32.toNatClampNeg v3)) &&& (nI 31)) = (nI 4) then (if inB (v3 + (nI 1)) L = true then (Option.bind (f_X5_setQuota k (sc (Int32.toNatClampNeg (v3 + (nI 1)))) I) (fun r29 => (if inB (v3 + (nI 1)) L = true then (Option.bind (f_X6_setQuota k (sc (Int32.toNatClampNeg (v3 + (nI 1)))) r29.2) (fun r31 => (if r29.1 = r31.1 then (f_L_law_18 k b L sc n) (v3 + (nI 3)) r31.2 else some ((nI 0), r31.2)))) else none))) else none) else (if ((sc (Int32.toNatClampNeg v3)) &&& (nI 31)) = (nI 5) then (if inB (v3 + (nI 1)) L = true then (if inB (v3 + (nI 2)) L = true then (Option.bind (f_X5_join k (sc (Int32.toNatClampNeg (v3 + (nI 1)))) (sc (Int32.toNatClampNeg (v3 + (nI 2)))) I) (fun r36 => (if inB (v3 + (nI 1)) L = true then (if inB (v3 + (nI 2)) L = true then (Option.bind (f_X6_join k (sc (Int32.toNatClampNeg (v3 + (nI 1)))) (sc (Int32.toNatClampNeg (v3 + (nI 2)))) r36.2) (fun r39 => (if r36.1 = r39.1 then (f_L_law_18 k b L sc n) (v3 + (nI 3)) r39.2 else some ((nI 0), r39.2)))) else none) else none))) else none) else none) else (if ((sc (Int32.toNatClampNeg v3)) &&& (nI 31)) = (nI 6) then (if inB (v3 + (nI 1)) L = true then (Option.bind (f_X5_leave k (sc (Int32.toNatClampNeg (v3 + (nI 1)))) I) (fun r43 => (if inB (v3 + (nI 1)) L = true then (Option.bind (f_X6_leave k (sc (Int32.toNatClampNeg (v3 + (nI 1)))) r43.2) (fun r45 => (if r43.1 = r45.1 then (f_L_law_18 k b L sc n) (v3 + (nI 3)) r45.2 else some ((nI 0), r45.2)))) else none))) else none) else (if ((sc (Int32.toNatClampNeg v3)) &&& (nI 31)) = (nI 7) then (if inB (v3 + (nI 1)) L = true then (Option.bind (f_X5_type k (i2c (sc (Int32.toNatClampNeg (v3 + (nI 1))))) I) (fun r49 => (if inB (v3 + (nI 1)) L = true then (Option.bind (f_X6_type k (i2c (sc (Int32.toNatClampNeg (v3 + (nI 1))))) r49.2) (fun r51 => (if r49.1 = r51.1 then (f_L_law_18 k b L sc n) (v3 + (nI 3)) r51.2 else some ((nI 0), r51.2)))) else none))) else none) else (if ((sc (Int32.toNatClampNeg v3)) &&& (nI 31)) = (nI 8) then (Option.bind (f_X5_clearText k I) (fun r54 => (Option.bind (f_X6_clearText k r54.2) (fun r55 => (if r54.1 = r55.1 then (f_L_law_18 k b L sc n) (v3 + (nI 3)) r55.2 else some ((nI 0), r55.2)))))) else (if ((sc (Int32.toNatClampNeg v3)) &&& (nI 31)) = (nI 9) then (Option.bind (f_X5_vote k I) (fun r58 => (Option.bind (f_X6_vote k r58.2) (fun r59 => (if r58.1 = r59.1 then (f_L_law_18 k b L sc n) (v3 + (nI 3)) r59.2 else some ((nI 0), r59.2)))))) else (if ((sc (Int32.toNatClampNeg v3)) &&& (nI 31)) = (nI 10) then (Option.bind (f_X5_undo k I) (fun r62 => (Option.bind (f_X6_undo k r62.2) (fun r63 => (if r62.1 = r63.1 then (f_L_law_18 k b L sc n) (v3 + (nI 3)) r63.2 else some ((nI 0), r63.2)))))) else (if ((sc (Int32.toNatClampNeg v3)) &&& (nI 31)) = (nI 11) then (Option.bind (f_X5_keep k I) (fun r66 => (Option.bind (f_X6_keep k r66.2) (fun r67 => (if r66.1 = r67.1 then (f_L_law_18 k b L sc n) (v3 + (nI 3)) r67.2 else some ((nI 0), r67.2)))))) else (if ((sc (Int32.toNatClampNeg v3)) &&& (nI 31)) = (nI 12) then (Option.bind (f_X5_restore k I) (fun r70 => (Option.bind (f_X6_restore k r70.2) (fun r71 => (if r70.1 = r71.1 then (f_L_law_18 k b L sc n) (v3 + (nI 3)) r71.2 else some ((nI 0), r71.2)))))) else (if ((sc (Int32.toNatClampNeg v3)) &&& (nI 31)) = (nI 13) then (if inB (v3 + (nI 1)) L = true then (if inB (v3 + (nI 2)) L = true then (Option.bind (f_X5_member k (sc (Int32.toNatClampNeg (v3 + (nI 1)))) (sc (Int32.toNatClampNeg (v3 + (nI 2)))) I) (fun r76 => (if inB (v3 + (nI 1)) L = true then (if inB (v3 + (nI 2)) L = true then (Option.bind (f_X6_member k (sc (Int32.toNatClampNeg (v3 + (nI 1)))) (sc (Int32.toNatClampNeg (v3 + (nI 2)))) r76.2) (fun r79 => (if r76.1 = r79.1 then (f_L_law_18 k b L sc n) (v3 + (nI 3)) r79.2 else some ((nI 0), r79.2)))) else none) else none))) else none) else none) else (if ((sc (Int32.toNatClampNeg v3)) &&& (nI 31)) = (nI 14) then (if inB (v3 + (nI 1)) L = true then (if inB (v3 + (nI 2)) L = true then (Option.bind (f_X5_share k (sc (Int32.toNatClampNeg (v3 + (nI 1)))) (sc (Int32.toNatClampNeg (v3 + (nI 2)))) I) (fun r84 => (if inB (v3 + (nI 1)) L = true then (if inB (v3 + (nI 2)) L = true then (Option.bind (f_X6_share k (sc (Int32.toNatClampNeg (v3 + (nI 1)))) (sc (Int32.toNatClampNeg (v3 + (nI 2)))) r84.2) (fun r87 => (if r84.1 = r87.1 then (f_L_law_18 k b L sc n) (v3 + (nI 3)) r87.2 else some ((nI 0), r87.2)))) else none) else none))) else none) else none) else (if ((sc (Int32.toNatClampNeg v3)) &&& (nI 31)) = (nI 15) then (if inB (v3 + (nI 1)) L = true then (Option.bind (f_X5_wins k (sc (Int32.toNatClampNeg (v3 + (nI 1)))) I) (fun r91 => (if inB (v3 + (nI 1)) L = true then (Option.bind (f_X6_wins k (sc (Int32.toNatClampNeg (v3 + (nI 1)))) I) (fun r93 => (if r91 = r93.1 then (f_L_law_18 k b L sc n) (v3 + (nI 3)) r93.2 else some ((nI 0), r93.2)))) else none))) else none) else (if ((sc (Int32.toNatClampNeg v3)) &&& (nI 31)) = (nI 16) then (if inB (v3 + (nI 1)) L = true then (if inB (v3 + (nI 2)) L = true then (Option.bind (f_X5_leastCoalition k (sc (Int32.toNatClampNeg (v3 + (nI 1)))) (sc (Int32.toNatClampNeg (v3 + (nI 2)))) I) (fun r98 => (if inB (v3 + (nI 1)) L = true then (if inB (v3 + (nI 2)) L = true then (Option.bind (f_X6_leastCoalition k (sc (Int32.toNatClampNeg (v3 + (nI 1)))) (sc (Int32.toNatClampNeg (v3 + (nI 2)))) r98.2) (fun r101 => (if r98.1 = r101.1 then (f_L_law_18 k b L sc n) (v3 + (nI 3)) r101.2 else some ((nI 0), r101.2)))) else none) else none))) else none) else none) else (if ((sc (Int32.toNatClampNeg v3)) &&& (nI 31)) = (nI 17) then (if inB (v3 + (nI 1)) L = true then (Option.bind (f_X5_ranked k (sc (Int32.toNatClampNeg (v3 + (nI 1)))) I) (fun r105 => (if inB (v3 + (nI 1)) L = true then (Option.bind (f_X6_ranked k (sc (Int32.toNatClampNeg (v3 + (nI 1)))) r105.2) (fun r107 => (if r105.1 = r107.1 then (f_L_law_18 k b L sc n) (v3 + (nI 3)) r107.2 else some ((nI 0), r107.2)))) else none))) else none) else (if ((sc (Int32.toNatClampNeg v3)) &&& (nI 31)) = (nI 18) then (if inB (v3 + (nI 1)) L = true then (if inB (v3 + (nI 2)) L = true then (Option.bind (f_X5_withQuota k (sc (Int32.toNatClampNeg (v3 + (nI 1)))) (sc (Int32.toNatClampNeg (v3 + (nI 2)))) I) (fun r112 => (if inB (v3 + (nI 1)) L = true then (if inB (v3 + (nI 2)) L = true then (Option.bind (f_X6_withQuota k (sc (Int32.toNatClampNeg (v3 + (nI 1)))) (sc (Int32.toNatClampNeg (v3 + (nI 2)))) r112.2) (fun r115 => (if r112.1 = r115.1 then (f_L_law_18 k b L sc n) (v3 + (nI 3)) r115.2 else some ((nI 0), r115.2)))) else none) else none))) else none) else none) else (if ((sc (Int32.toNatClampNeg v3)) &&& (nI 31)) = (nI 19) then (if inB (v3 + (nI 1)) L = true then (if inB (v3 + (nI 2)) L = true then (Option.bind (f_X5_leavesOut k (sc (Int32.toNatClampNeg (v3 + (nI 1)))) (sc (Int32.toNatClampNeg (v3 + (nI 2)))) I) (fun r120 => (if inB (v3 + (nI 1)) L = true then (if inB (v3 + (nI 2)) L = true then (Option.bind (f_X6_leavesOut k (sc (Int32.toNatClampNeg (v3 + (nI 1)))) (sc (Int32.toNatClampNeg (v3 + (nI 2)))) r120.2) (fun r123 => (if r120.1 = r123.1 then (f_L_law_18 k b L sc n) (v3 + (nI 3)) r123.2 else some ((nI 0), r123.2)))) else none) else none))) else none) else none) else (if ((sc (Int32.toNatClampNeg v3)) &&& (nI 31)) = (nI 20) then (Option.bind (f_X5_fairest k I) (fun r126 => (Option.bind (f_X6_fairest k r126.2) (fun r127 => (if r126.1 = r127.1 then (f_L_law_18 k b L sc n) (v3 + (nI 3)) r127.2 else some ((nI 0), r127.2)))))) else (if ((sc (Int32.toNatClampNeg v3)) &&& (nI 31)) = (nI 21) then (if inB (v3 + (nI 1)) L = true then (if inB (v3 + (nI 2)) L = true then (Option.bind (f_X5_ballot k (sc (Int32.toNatClampNeg (v3 + (nI 1)))) (sc (Int32.toNatClampNeg (v3 + (nI 2)))) I) (fun r132 => (if inB (v3 + (nI 1)) L = true then (if inB (v3 + (nI 2)) L = true then (Option.bind (f_X6_ballot k (sc (Int32.toNatClampNeg (v3 + (nI 1)))) (sc (Int32.toNatClampNeg (v3 + (nI 2)))) I) (fun r135 => (if r132 = r135 then (f_L_law_18 k b L sc n) (v3 + (nI 3)) I else some ((nI 0), I)))) else none) else none))) else none) else none) else (if ((sc (Int32.toNatClampNeg v3)) &&& (nI 31)) = (nI 22) then (if inB (v3 + (nI 1)) L = true then (Option.bind (f_X5_count k (sc (Int32.toNatClampNeg (v3 + (nI 1)))) I) (fun r139 => (if inB (v3 + (nI 1)) L = true then (Option.bind (f_X6_count k (sc (Int32.toNatClampNeg (v3 + (nI 1)))) r139.2) (fun r141 => (if r139.1 = r141.1 then (f_L_law_18 k b L sc n) (v3 + (nI 3)) r141.2 else some ((nI 0), r141.2)))) else none))) else none) else (f_L_law_18 k b L sc n) (v3 + (nI 3)) I))))))))))))))))))))))) else none))
set_option maxHeartbeats 4000000 in
set_option maxRecDepth 100000 in
theorem b_L_law_18 {X : XT} {E : EN} {k : Nat} {b : Nat} {L : Nat} {sc : Nat → Int32} {r : Int32 × Mem} (hC : Cx X E cL_law 4 RL 7 166) (hB : ScrOk X b L sc) (hR : Rt X E cL_law (some .boolean) (some (.int r.1)) r.2) : ∀ (n : Nat) (v3 : Int32) (I : Mem), f_L_law_18 k b L sc n v3 I = some r → V X E 4 18 [(0, .ref b), (1, .ref (E.2.1 (48))), (2, .ref (E.2.1 (71))), (3, .int v3)] [] I := by
  intro n
  induction n with
  | zero =>
    intro v3 I hf
    rw [f_L_law_18] at hf
    cases hf
  | succ n ih =>
    intro v3 I hf
    rw [f_L_law_18] at hf
    refine V_iload_n (pc := 18) hC 3 dL_law_18 rfl rfl ?_
    refine V_aload_n (pc := 19) hC 0 dL_law_19 rfl rfl ?_
    refine V_slen (pc := 20) hC hB dL_law_20 ?_
    refine V_iconst (pc := 21) hC dL_law_21 (v := (nI 3)) (by decide) ?_
    refine V_isub (pc := 22) hC dL_law_22 ?_
    refine V_icmp_gt (pc := 23) (tgt := 723) hC dL_law_23 (by decide) (fun c1 => ?_) (fun c1 => ?_)
    · have hf := ite_t hf c1
      refine V_iconst (pc := 723) hC dL_law_723 (v := (nI 1)) (by decide) ?_
      have hf := Option.some.inj hf; subst hf
      exact V_ireturn (pc := 724) hR (nar_z (by decide)) dL_law_724
    · have hf := ite_f hf c1
      refine V_aload_n (pc := 26) hC 0 dL_law_26 rfl rfl ?_
      refine V_iload_n (pc := 27) hC 3 dL_law_27 rfl rfl ?_
      obtain ⟨h2, hf⟩ := if_some hf
      refine V_sld (pc := 28) hC hB (inB_of h2) dL_law_28 ?_
      refine V_bipush (pc := 29) hC dL_law_29 (v := (nI 31)) (by decide) ?_
      refine V_iand (pc := 31) hC dL_law_31 ?_
      by_cases c3 : ((sc (Int32.toNatClampNeg v3)) &&& (nI 31)) = (nI 0)
      · have hf := ite_t hf c3
        refine V_tableIn (pc := 32) (tgt := 140) (off := 108) hC dL_law_32 (by rw [c3]; decide) (by rw [c3]; decide) (by rw [c3]; decide) (by decide) ?_
        refine V_aload_n (pc := 140) hC 1 dL_law_140 rfl rfl ?_
        refine V_aload_n (pc := 141) hC 0 dL_law_141 rfl rfl ?_
        refine V_iload_n (pc := 142) hC 3 dL_law_142 rfl rfl ?_
        refine V_iconst (pc := 143) hC dL_law_143 (v := (nI 1)) (by decide) ?_
        refine V_iadd (pc := 144) hC dL_law_144 ?_
        obtain ⟨h4, hf⟩ := if_some hf
        refine V_sld (pc := 145) hC hB (inB_of h4) dL_law_145 ?_
        obtain ⟨r5, g5, hf⟩ := bind_some hf
        refine V_callV (pc := 146) (rest := []) (As := [.int (sc (Int32.toNatClampNeg (v3 + (nI 1))))]) hC lk_L_13 (by decide) cel_X5 rfl (c_X5_addMember  g5) rfl rfl (Nat.le_of_ble_eq_true rfl) (by decide) dL_law_146 ?_
        change V X E 4 149 [(0, .ref b), (1, .ref (E.2.1 (48))), (2, .ref (E.2.1 (71))), (3, .int v3)] [.int r5.1] r5.2
        refine V_aload_n (pc := 149) hC 2 dL_law_149 rfl rfl ?_
        refine V_aload_n (pc := 150) hC 0 dL_law_150 rfl rfl ?_
        refine V_iload_n (pc := 151) hC 3 dL_law_151 rfl rfl ?_
        refine V_iconst (pc := 152) hC dL_law_152 (v := (nI 1)) (by decide) ?_
        refine V_iadd (pc := 153) hC dL_law_153 ?_
        obtain ⟨h6, hf⟩ := if_some hf
        refine V_sld (pc := 154) hC hB (inB_of h6) dL_law_154 ?_
        obtain ⟨r7, g7, hf⟩ := bind_some hf
        refine V_callV (pc := 155) (rest := [.int r5.1]) (As := [.int (sc (Int32.toNatClampNeg (v3 + (nI 1))))]) hC lk_L_17 (by decide) cel_X6 rfl (c_X6_addMember  g7) rfl rfl (Nat.le_of_ble_eq_true rfl) (by decide) dL_law_155 ?_
        change V X E 4 158 [(0, .ref b), (1, .ref (E.2.1 (48))), (2, .ref (E.2.1 (71))), (3, .int v3)] [.int r7.1, .int r5.1] r7.2
        refine V_icmp_eq (pc := 158) (tgt := 717) hC dL_law_158 (by decide) (fun c8 => ?_) (fun c8 => ?_)
        · have hf := ite_t hf c8
          refine V_iinc (pc := 717) (lv' := [(3, .int (v3 + (nI 3))), (0, .ref b), (1, .ref (E.2.1 (48))), (2, .ref (E.2.1 (71)))]) hC (nI 3) 3 dL_law_717 rfl (by decide) (by decide) rfl ?_
          refine V_goto (pc := 720) (tgt := 18) hC dL_law_720 (by decide) ?_
          refine V_sub (pc := 18) (lv' := [(0, .ref b), (1, .ref (E.2.1 (48))), (2, .ref (E.2.1 (71))), (3, .int (v3 + (nI 3)))]) [1, 2, 3, 0] rfl ?_
          exact ih (v3 + (nI 3)) r7.2 hf
        · have hf := ite_f hf c8
          refine V_iconst (pc := 161) hC dL_law_161 (v := (nI 0)) (by decide) ?_
          have hf := Option.some.inj hf; subst hf
          exact V_ireturn (pc := 162) hR (nar_z (by decide)) dL_law_162
      have hf := ite_f hf c3
      by_cases c9 : ((sc (Int32.toNatClampNeg v3)) &&& (nI 31)) = (nI 1)
      · have hf := ite_t hf c9
        refine V_tableIn (pc := 32) (tgt := 163) (off := 131) hC dL_law_32 (by rw [c9]; decide) (by rw [c9]; decide) (by rw [c9]; decide) (by decide) ?_
        refine V_aload_n (pc := 163) hC 1 dL_law_163 rfl rfl ?_
        refine V_aload_n (pc := 164) hC 0 dL_law_164 rfl rfl ?_
        refine V_iload_n (pc := 165) hC 3 dL_law_165 rfl rfl ?_
        refine V_iconst (pc := 166) hC dL_law_166 (v := (nI 1)) (by decide) ?_
        refine V_iadd (pc := 167) hC dL_law_167 ?_
        obtain ⟨h10, hf⟩ := if_some hf
        refine V_sld (pc := 168) hC hB (inB_of h10) dL_law_168 ?_
        obtain ⟨r11, g11, hf⟩ := bind_some hf
        refine V_callV (pc := 169) (rest := []) (As := [.int (sc (Int32.toNatClampNeg (v3 + (nI 1))))]) hC lk_L_18 (by decide) cel_X5 rfl (c_X5_removeMember  g11) rfl rfl (Nat.le_of_ble_eq_true rfl) (by decide) dL_law_169 ?_
        change V X E 4 172 [(0, .ref b), (1, .ref (E.2.1 (48))), (2, .ref (E.2.1 (71))), (3, .int v3)] [.int r11.1] r11.2
        refine V_aload_n (pc := 172) hC 2 dL_law_172 rfl rfl ?_
        refine V_aload_n (pc := 173) hC 0 dL_law_173 rfl rfl ?_
        refine V_iload_n (pc := 174) hC 3 dL_law_174 rfl rfl ?_
        refine V_iconst (pc := 175) hC dL_law_175 (v := (nI 1)) (by decide) ?_
        refine V_iadd (pc := 176) hC dL_law_176 ?_
        obtain ⟨h12, hf⟩ := if_some hf
        refine V_sld (pc := 177) hC hB (inB_of h12) dL_law_177 ?_
        obtain ⟨r13, g13, hf⟩ := bind_some hf
        refine V_callV (pc := 178) (rest := [.int r11.1]) (As := [.int (sc (Int32.toNatClampNeg (v3 + (nI 1))))]) hC lk_L_21 (by decide) cel_X6 rfl (c_X6_removeMember  g13) rfl rfl (Nat.le_of_ble_eq_true rfl) (by decide) dL_law_178 ?_
        change V X E 4 181 [(0, .ref b), (1, .ref (E.2.1 (48))), (2, .ref (E.2.1 (71))), (3, .int v3)] [.int r13.1, .int r11.1] r13.2
        refine V_icmp_eq (pc := 181) (tgt := 717) hC dL_law_181 (by decide) (fun c14 => ?_) (fun c14 => ?_)
        · have hf := ite_t hf c14
          refine V_iinc (pc := 717) (lv' := [(3, .int (v3 + (nI 3))), (0, .ref b), (1, .ref (E.2.1 (48))), (2, .ref (E.2.1 (71)))]) hC (nI 3) 3 dL_law_717 rfl (by decide) (by decide) rfl ?_
          refine V_goto (pc := 720) (tgt := 18) hC dL_law_720 (by decide) ?_
          refine V_sub (pc := 18) (lv' := [(0, .ref b), (1, .ref (E.2.1 (48))), (2, .ref (E.2.1 (71))), (3, .int (v3 + (nI 3)))]) [1, 2, 3, 0] rfl ?_
          exact ih (v3 + (nI 3)) r13.2 hf
        · have hf := ite_f hf c14
          refine V_iconst (pc := 184) hC dL_law_184 (v := (nI 0)) (by decide) ?_
          have hf := Option.some.inj hf; subst hf
          exact V_ireturn (pc := 185) hR (nar_z (by decide)) dL_law_185
      have hf := ite_f hf c9
      by_cases c15 : ((sc (Int32.toNatClampNeg v3)) &&& (nI 31)) = (nI 2)
      · have hf := ite_t hf c15
        refine V_tableIn (pc := 32) (tgt := 186) (off := 154) hC dL_law_32 (by rw [c15]; decide) (by rw [c15]; decide) (by rw [c15]; decide) (by decide) ?_
        refine V_aload_n (pc := 186) hC 1 dL_law_186 rfl rfl ?_
        refine V_aload_n (pc := 187) hC 0 dL_law_187 rfl rfl ?_
        refine V_iload_n (pc := 188) hC 3 dL_law_188 rfl rfl ?_
        refine V_iconst (pc := 189) hC dL_law_189 (v := (nI 1)) (by decide) ?_
        refine V_iadd (pc := 190) hC dL_law_190 ?_
        obtain ⟨h16, hf⟩ := if_some hf
        refine V_sld (pc := 191) hC hB (inB_of h16) dL_law_191 ?_
        refine V_aload_n (pc := 192) hC 0 dL_law_192 rfl rfl ?_
        refine V_iload_n (pc := 193) hC 3 dL_law_193 rfl rfl ?_
        refine V_iconst (pc := 194) hC dL_law_194 (v := (nI 2)) (by decide) ?_
        refine V_iadd (pc := 195) hC dL_law_195 ?_
        obtain ⟨h17, hf⟩ := if_some hf
        refine V_sld (pc := 196) hC hB (inB_of h17) dL_law_196 ?_
        obtain ⟨r18, g18, hf⟩ := bind_some hf
        refine V_callV (pc := 197) (rest := []) (As := [.int (sc (Int32.toNatClampNeg (v3 + (nI 1)))), .int (sc (Int32.toNatClampNeg (v3 + (nI 2))))]) hC lk_L_22 (by decide) cel_X5 rfl (c_X5_setWeight  g18) rfl rfl (Nat.le_of_ble_eq_true rfl) (by decide) dL_law_197 ?_
        change V X E 4 200 [(0, .ref b), (1, .ref (E.2.1 (48))), (2, .ref (E.2.1 (71))), (3, .int v3)] [.int r18.1] r18.2
        refine V_aload_n (pc := 200) hC 2 dL_law_200 rfl rfl ?_
        refine V_aload_n (pc := 201) hC 0 dL_law_201 rfl rfl ?_
        refine V_iload_n (pc := 202) hC 3 dL_law_202 rfl rfl ?_
        refine V_iconst (pc := 203) hC dL_law_203 (v := (nI 1)) (by decide) ?_
        refine V_iadd (pc := 204) hC dL_law_204 ?_
        obtain ⟨h19, hf⟩ := if_some hf
        refine V_sld (pc := 205) hC hB (inB_of h19) dL_law_205 ?_
        refine V_aload_n (pc := 206) hC 0 dL_law_206 rfl rfl ?_
        refine V_iload_n (pc := 207) hC 3 dL_law_207 rfl rfl ?_
        refine V_iconst (pc := 208) hC dL_law_208 (v := (nI 2)) (by decide) ?_
        refine V_iadd (pc := 209) hC dL_law_209 ?_
        obtain ⟨h20, hf⟩ := if_some hf
        refine V_sld (pc := 210) hC hB (inB_of h20) dL_law_210 ?_
        obtain ⟨r21, g21, hf⟩ := bind_some hf
        refine V_callV (pc := 211) (rest := [.int r18.1]) (As := [.int (sc (Int32.toNatClampNeg (v3 + (nI 1)))), .int (sc (Int32.toNatClampNeg (v3 + (nI 2))))]) hC lk_L_26 (by decide) cel_X6 rfl (c_X6_setWeight  g21) rfl rfl (Nat.le_of_ble_eq_true rfl) (by decide) dL_law_211 ?_
        change V X E 4 214 [(0, .ref b), (1, .ref (E.2.1 (48))), (2, .ref (E.2.1 (71))), (3, .int v3)] [.int r21.1, .int r18.1] r21.2
        refine V_icmp_eq (pc := 214) (tgt := 717) hC dL_law_214 (by decide) (fun c22 => ?_) (fun c22 => ?_)
        · have hf := ite_t hf c22
          refine V_iinc (pc := 717) (lv' := [(3, .int (v3 + (nI 3))), (0, .ref b), (1, .ref (E.2.1 (48))), (2, .ref (E.2.1 (71)))]) hC (nI 3) 3 dL_law_717 rfl (by decide) (by decide) rfl ?_
          refine V_goto (pc := 720) (tgt := 18) hC dL_law_720 (by decide) ?_
          refine V_sub (pc := 18) (lv' := [(0, .ref b), (1, .ref (E.2.1 (48))), (2, .ref (E.2.1 (71))), (3, .int (v3 + (nI 3)))]) [1, 2, 3, 0] rfl ?_
          exact ih (v3 + (nI 3)) r21.2 hf
        · have hf := ite_f hf c22
          refine V_iconst (pc := 217) hC dL_law_217 (v := (nI 0)) (by decide) ?_
          have hf := Option.some.inj hf; subst hf
          exact V_ireturn (pc := 218) hR (nar_z (by decide)) dL_law_218
      have hf := ite_f hf c15
      by_cases c23 : ((sc (Int32.toNatClampNeg v3)) &&& (nI 31)) = (nI 3)
      · have hf := ite_t hf c23
        refine V_tableIn (pc := 32) (tgt := 219) (off := 187) hC dL_law_32 (by rw [c23]; decide) (by rw [c23]; decide) (by rw [c23]; decide) (by decide) ?_
        refine V_aload_n (pc := 219) hC 1 dL_law_219 rfl rfl ?_
        refine V_aload_n (pc := 220) hC 0 dL_law_220 rfl rfl ?_
        refine V_iload_n (pc := 221) hC 3 dL_law_221 rfl rfl ?_
        refine V_iconst (pc := 222) hC dL_law_222 (v := (nI 1)) (by decide) ?_
        refine V_iadd (pc := 223) hC dL_law_223 ?_
        obtain ⟨h24, hf⟩ := if_some hf
        refine V_sld (pc := 224) hC hB (inB_of h24) dL_law_224 ?_
        refine V_aload_n (pc := 225) hC 0 dL_law_225 rfl rfl ?_
        refine V_iload_n (pc := 226) hC 3 dL_law_226 rfl rfl ?_
        refine V_iconst (pc := 227) hC dL_law_227 (v := (nI 2)) (by decide) ?_
        refine V_iadd (pc := 228) hC dL_law_228 ?_
        obtain ⟨h25, hf⟩ := if_some hf
        refine V_sld (pc := 229) hC hB (inB_of h25) dL_law_229 ?_
        refine V_if_eq (pc := 230) (tgt := 237) hC dL_law_230 (by decide) (fun c26 => ?_) (fun c26 => ?_)
        · have hf := ite_t hf c26
          refine V_iconst (pc := 237) hC dL_law_237 (v := (nI 0)) (by decide) ?_
          exact b_L_law_238 hC hB ih hR hf
        · have hf := ite_f hf c26
          refine V_iconst (pc := 233) hC dL_law_233 (v := (nI 1)) (by decide) ?_
          refine V_goto (pc := 234) (tgt := 238) hC dL_law_234 (by decide) ?_
          exact b_L_law_238 hC hB ih hR hf
      have hf := ite_f hf c23
      by_cases c27 : ((sc (Int32.toNatClampNeg v3)) &&& (nI 31)) = (nI 4)
      · have hf := ite_t hf c27
        refine V_tableIn (pc := 32) (tgt := 268) (off := 236) hC dL_law_32 (by rw [c27]; decide) (by rw [c27]; decide) (by rw [c27]; decide) (by decide) ?_
        refine V_aload_n (pc := 268) hC 1 dL_law_268 rfl rfl ?_
        refine V_aload_n (pc := 269) hC 0 dL_law_269 rfl rfl ?_
        refine V_iload_n (pc := 270) hC 3 dL_law_270 rfl rfl ?_
        refine V_iconst (pc := 271) hC dL_law_271 (v := (nI 1)) (by decide) ?_
        refine V_iadd (pc := 272) hC dL_law_272 ?_
        obtain ⟨h28, hf⟩ := if_some hf
        refine V_sld (pc := 273) hC hB (inB_of h28) dL_law_273 ?_
        obtain ⟨r29, g29, hf⟩ := bind_some hf
        refine V_callV (pc := 274) (rest := []) (As := [.int (sc (Int32.toNatClampNeg (v3 + (nI 1))))]) hC lk_L_32 (by decide) cel_X5 rfl (c_X5_setQuota  g29) rfl rfl (Nat.le_of_ble_eq_true rfl) (by decide) dL_law_274 ?_
        change V X E 4 277 [(0, .ref b), (1, .ref (E.2.1 (48))), (2, .ref (E.2.1 (71))), (3, .int v3)] [.int r29.1] r29.2
        refine V_aload_n (pc := 277) hC 2 dL_law_277 rfl rfl ?_
        refine V_aload_n (pc := 278) hC 0 dL_law_278 rfl rfl ?_
        refine V_iload_n (pc := 279) hC 3 dL_law_279 rfl rfl ?_
        refine V_iconst (pc := 280) hC dL_law_280 (v := (nI 1)) (by decide) ?_
        refine V_iadd (pc := 281) hC dL_law_281 ?_
        obtain ⟨h30, hf⟩ := if_some hf
        refine V_sld (pc := 282) hC hB (inB_of h30) dL_law_282 ?_
        obtain ⟨r31, g31, hf⟩ := bind_some hf
        refine V_callV (pc := 283) (rest := [.int r29.1]) (As := [.int (sc (Int32.toNatClampNeg (v3 + (nI 1))))]) hC lk_L_35 (by decide) cel_X6 rfl (c_X6_setQuota  g31) rfl rfl (Nat.le_of_ble_eq_true rfl) (by decide) dL_law_283 ?_
        change V X E 4 286 [(0, .ref b), (1, .ref (E.2.1 (48))), (2, .ref (E.2.1 (71))), (3, .int v3)] [.int r31.1, .int r29.1] r31.2
        refine V_icmp_eq (pc := 286) (tgt := 717) hC dL_law_286 (by decide) (fun c32 => ?_) (fun c32 => ?_)
        · have hf := ite_t hf c32
          refine V_iinc (pc := 717) (lv' := [(3, .int (v3 + (nI 3))), (0, .ref b), (1, .ref (E.2.1 (48))), (2, .ref (E.2.1 (71)))]) hC (nI 3) 3 dL_law_717 rfl (by decide) (by decide) rfl ?_
          refine V_goto (pc := 720) (tgt := 18) hC dL_law_720 (by decide) ?_
          refine V_sub (pc := 18) (lv' := [(0, .ref b), (1, .ref (E.2.1 (48))), (2, .ref (E.2.1 (71))), (3, .int (v3 + (nI 3)))]) [1, 2, 3, 0] rfl ?_
          exact ih (v3 + (nI 3)) r31.2 hf
        · have hf := ite_f hf c32
          refine V_iconst (pc := 289) hC dL_law_289 (v := (nI 0)) (by decide) ?_
          have hf := Option.some.inj hf; subst hf
          exact V_ireturn (pc := 290) hR (nar_z (by decide)) dL_law_290
      have hf := ite_f hf c27
      by_cases c33 : ((sc (Int32.toNatClampNeg v3)) &&& (nI 31)) = (nI 5)
      · have hf := ite_t hf c33
        refine V_tableIn (pc := 32) (tgt := 291) (off := 259) hC dL_law_32 (by rw [c33]; decide) (by rw [c33]; decide) (by rw [c33]; decide) (by decide) ?_
        refine V_aload_n (pc := 291) hC 1 dL_law_291 rfl rfl ?_
        refine V_aload_n (pc := 292) hC 0 dL_law_292 rfl rfl ?_
        refine V_iload_n (pc := 293) hC 3 dL_law_293 rfl rfl ?_
        refine V_iconst (pc := 294) hC dL_law_294 (v := (nI 1)) (by decide) ?_
        refine V_iadd (pc := 295) hC dL_law_295 ?_
        obtain ⟨h34, hf⟩ := if_some hf
        refine V_sld (pc := 296) hC hB (inB_of h34) dL_law_296 ?_
        refine V_aload_n (pc := 297) hC 0 dL_law_297 rfl rfl ?_
        refine V_iload_n (pc := 298) hC 3 dL_law_298 rfl rfl ?_
        refine V_iconst (pc := 299) hC dL_law_299 (v := (nI 2)) (by decide) ?_
        refine V_iadd (pc := 300) hC dL_law_300 ?_
        obtain ⟨h35, hf⟩ := if_some hf
        refine V_sld (pc := 301) hC hB (inB_of h35) dL_law_301 ?_
        obtain ⟨r36, g36, hf⟩ := bind_some hf
        refine V_callV (pc := 302) (rest := []) (As := [.int (sc (Int32.toNatClampNeg (v3 + (nI 1)))), .int (sc (Int32.toNatClampNeg (v3 + (nI 2))))]) hC lk_L_36 (by decide) cel_X5 rfl (c_X5_join  g36) rfl rfl (Nat.le_of_ble_eq_true rfl) (by decide) dL_law_302 ?_
        change V X E 4 305 [(0, .ref b), (1, .ref (E.2.1 (48))), (2, .ref (E.2.1 (71))), (3, .int v3)] [.int r36.1] r36.2
        refine V_aload_n (pc := 305) hC 2 dL_law_305 rfl rfl ?_
        refine V_aload_n (pc := 306) hC 0 dL_law_306 rfl rfl ?_
        refine V_iload_n (pc := 307) hC 3 dL_law_307 rfl rfl ?_
        refine V_iconst (pc := 308) hC dL_law_308 (v := (nI 1)) (by decide) ?_
        refine V_iadd (pc := 309) hC dL_law_309 ?_
        obtain ⟨h37, hf⟩ := if_some hf
        refine V_sld (pc := 310) hC hB (inB_of h37) dL_law_310 ?_
        refine V_aload_n (pc := 311) hC 0 dL_law_311 rfl rfl ?_
        refine V_iload_n (pc := 312) hC 3 dL_law_312 rfl rfl ?_
        refine V_iconst (pc := 313) hC dL_law_313 (v := (nI 2)) (by decide) ?_
        refine V_iadd (pc := 314) hC dL_law_314 ?_
        obtain ⟨h38, hf⟩ := if_some hf
        refine V_sld (pc := 315) hC hB (inB_of h38) dL_law_315 ?_
        obtain ⟨r39, g39, hf⟩ := bind_some hf
        refine V_callV (pc := 316) (rest := [.int r36.1]) (As := [.int (sc (Int32.toNatClampNeg (v3 + (nI 1)))), .int (sc (Int32.toNatClampNeg (v3 + (nI 2))))]) hC lk_L_39 (by decide) cel_X6 rfl (c_X6_join  g39) rfl rfl (Nat.le_of_ble_eq_true rfl) (by decide) dL_law_316 ?_
        change V X E 4 319 [(0, .ref b), (1, .ref (E.2.1 (48))), (2, .ref (E.2.1 (71))), (3, .int v3)] [.int r39.1, .int r36.1] r39.2
        refine V_icmp_eq (pc := 319) (tgt := 717) hC dL_law_319 (by decide) (fun c40 => ?_) (fun c40 => ?_)
        · have hf := ite_t hf c40
          refine V_iinc (pc := 717) (lv' := [(3, .int (v3 + (nI 3))), (0, .ref b), (1, .ref (E.2.1 (48))), (2, .ref (E.2.1 (71)))]) hC (nI 3) 3 dL_law_717 rfl (by decide) (by decide) rfl ?_
          refine V_goto (pc := 720) (tgt := 18) hC dL_law_720 (by decide) ?_
          refine V_sub (pc := 18) (lv' := [(0, .ref b), (1, .ref (E.2.1 (48))), (2, .ref (E.2.1 (71))), (3, .int (v3 + (nI 3)))]) [1, 2, 3, 0] rfl ?_
          exact ih (v3 + (nI 3)) r39.2 hf
        · have hf := ite_f hf c40
          refine V_iconst (pc := 322) hC dL_law_322 (v := (nI 0)) (by decide) ?_
          have hf := Option.some.inj hf; subst hf
          exact V_ireturn (pc := 323) hR (nar_z (by decide)) dL_law_323
      have hf := ite_f hf c33
      by_cases c41 : ((sc (Int32.toNatClampNeg v3)) &&& (nI 31)) = (nI 6)
      · have hf := ite_t hf c41
        refine V_tableIn (pc := 32) (tgt := 324) (off := 292) hC dL_law_32 (by rw [c41]; decide) (by rw [c41]; decide) (by rw [c41]; decide) (by decide) ?_
        refine V_aload_n (pc := 324) hC 1 dL_law_324 rfl rfl ?_
        refine V_aload_n (pc := 325) hC 0 dL_law_325 rfl rfl ?_
        refine V_iload_n (pc := 326) hC 3 dL_law_326 rfl rfl ?_
        refine V_iconst (pc := 327) hC dL_law_327 (v := (nI 1)) (by decide) ?_
        refine V_iadd (pc := 328) hC dL_law_328 ?_
        obtain ⟨h42, hf⟩ := if_some hf
        refine V_sld (pc := 329) hC hB (inB_of h42) dL_law_329 ?_
        obtain ⟨r43, g43, hf⟩ := bind_some hf
        refine V_callV (pc := 330) (rest := []) (As := [.int (sc (Int32.toNatClampNeg (v3 + (nI 1))))]) hC lk_L_40 (by decide) cel_X5 rfl (c_X5_leave  g43) rfl rfl (Nat.le_of_ble_eq_true rfl) (by decide) dL_law_330 ?_
        change V X E 4 333 [(0, .ref b), (1, .ref (E.2.1 (48))), (2, .ref (E.2.1 (71))), (3, .int v3)] [.int r43.1] r43.2
        refine V_aload_n (pc := 333) hC 2 dL_law_333 rfl rfl ?_
        refine V_aload_n (pc := 334) hC 0 dL_law_334 rfl rfl ?_
        refine V_iload_n (pc := 335) hC 3 dL_law_335 rfl rfl ?_
        refine V_iconst (pc := 336) hC dL_law_336 (v := (nI 1)) (by decide) ?_
        refine V_iadd (pc := 337) hC dL_law_337 ?_
        obtain ⟨h44, hf⟩ := if_some hf
        refine V_sld (pc := 338) hC hB (inB_of h44) dL_law_338 ?_
        obtain ⟨r45, g45, hf⟩ := bind_some hf
        refine V_callV (pc := 339) (rest := [.int r43.1]) (As := [.int (sc (Int32.toNatClampNeg (v3 + (nI 1))))]) hC lk_L_43 (by decide) cel_X6 rfl (c_X6_leave  g45) rfl rfl (Nat.le_of_ble_eq_true rfl) (by decide) dL_law_339 ?_
        change V X E 4 342 [(0, .ref b), (1, .ref (E.2.1 (48))), (2, .ref (E.2.1 (71))), (3, .int v3)] [.int r45.1, .int r43.1] r45.2
        refine V_icmp_eq (pc := 342) (tgt := 717) hC dL_law_342 (by decide) (fun c46 => ?_) (fun c46 => ?_)
        · have hf := ite_t hf c46
          refine V_iinc (pc := 717) (lv' := [(3, .int (v3 + (nI 3))), (0, .ref b), (1, .ref (E.2.1 (48))), (2, .ref (E.2.1 (71)))]) hC (nI 3) 3 dL_law_717 rfl (by decide) (by decide) rfl ?_
          refine V_goto (pc := 720) (tgt := 18) hC dL_law_720 (by decide) ?_
          refine V_sub (pc := 18) (lv' := [(0, .ref b), (1, .ref (E.2.1 (48))), (2, .ref (E.2.1 (71))), (3, .int (v3 + (nI 3)))]) [1, 2, 3, 0] rfl ?_
          exact ih (v3 + (nI 3)) r45.2 hf
        · have hf := ite_f hf c46
          refine V_iconst (pc := 345) hC dL_law_345 (v := (nI 0)) (by decide) ?_
          have hf := Option.some.inj hf; subst hf
          exact V_ireturn (pc := 346) hR (nar_z (by decide)) dL_law_346
      have hf := ite_f hf c41
      by_cases c47 : ((sc (Int32.toNatClampNeg v3)) &&& (nI 31)) = (nI 7)
      · have hf := ite_t hf c47
        refine V_tableIn (pc := 32) (tgt := 347) (off := 315) hC dL_law_32 (by rw [c47]; decide) (by rw [c47]; decide) (by rw [c47]; decide) (by decide) ?_
        refine V_aload_n (pc := 347) hC 1 dL_law_347 rfl rfl ?_
        refine V_aload_n (pc := 348) hC 0 dL_law_348 rfl rfl ?_
        refine V_iload_n (pc := 349) hC 3 dL_law_349 rfl rfl ?_
        refine V_iconst (pc := 350) hC dL_law_350 (v := (nI 1)) (by decide) ?_
        refine V_iadd (pc := 351) hC dL_law_351 ?_
        obtain ⟨h48, hf⟩ := if_some hf
        refine V_sld (pc := 352) hC hB (inB_of h48) dL_law_352 ?_
        refine V_i2c (pc := 353) hC dL_law_353 ?_
        obtain ⟨r49, g49, hf⟩ := bind_some hf
        refine V_callV (pc := 354) (rest := []) (As := [.int (i2c (sc (Int32.toNatClampNeg (v3 + (nI 1)))))]) hC lk_L_44 (by decide) cel_X5 rfl (c_X5_type  g49) rfl rfl (Nat.le_of_ble_eq_true rfl) (by decide) dL_law_354 ?_
        change V X E 4 357 [(0, .ref b), (1, .ref (E.2.1 (48))), (2, .ref (E.2.1 (71))), (3, .int v3)] [.int r49.1] r49.2
        refine V_aload_n (pc := 357) hC 2 dL_law_357 rfl rfl ?_
        refine V_aload_n (pc := 358) hC 0 dL_law_358 rfl rfl ?_
        refine V_iload_n (pc := 359) hC 3 dL_law_359 rfl rfl ?_
        refine V_iconst (pc := 360) hC dL_law_360 (v := (nI 1)) (by decide) ?_
        refine V_iadd (pc := 361) hC dL_law_361 ?_
        obtain ⟨h50, hf⟩ := if_some hf
        refine V_sld (pc := 362) hC hB (inB_of h50) dL_law_362 ?_
        refine V_i2c (pc := 363) hC dL_law_363 ?_
        obtain ⟨r51, g51, hf⟩ := bind_some hf
        refine V_callV (pc := 364) (rest := [.int r49.1]) (As := [.int (i2c (sc (Int32.toNatClampNeg (v3 + (nI 1)))))]) hC lk_L_48 (by decide) cel_X6 rfl (c_X6_type  g51) rfl rfl (Nat.le_of_ble_eq_true rfl) (by decide) dL_law_364 ?_
        change V X E 4 367 [(0, .ref b), (1, .ref (E.2.1 (48))), (2, .ref (E.2.1 (71))), (3, .int v3)] [.int r51.1, .int r49.1] r51.2
        refine V_icmp_eq (pc := 367) (tgt := 717) hC dL_law_367 (by decide) (fun c52 => ?_) (fun c52 => ?_)
        · have hf := ite_t hf c52
          refine V_iinc (pc := 717) (lv' := [(3, .int (v3 + (nI 3))), (0, .ref b), (1, .ref (E.2.1 (48))), (2, .ref (E.2.1 (71)))]) hC (nI 3) 3 dL_law_717 rfl (by decide) (by decide) rfl ?_
          refine V_goto (pc := 720) (tgt := 18) hC dL_law_720 (by decide) ?_
          refine V_sub (pc := 18) (lv' := [(0, .ref b), (1, .ref (E.2.1 (48))), (2, .ref (E.2.1 (71))), (3, .int (v3 + (nI 3)))]) [1, 2, 3, 0] rfl ?_
          exact ih (v3 + (nI 3)) r51.2 hf
        · have hf := ite_f hf c52
          refine V_iconst (pc := 370) hC dL_law_370 (v := (nI 0)) (by decide) ?_
          have hf := Option.some.inj hf; subst hf
          exact V_ireturn (pc := 371) hR (nar_z (by decide)) dL_law_371
      have hf := ite_f hf c47
      by_cases c53 : ((sc (Int32.toNatClampNeg v3)) &&& (nI 31)) = (nI 8)
      · have hf := ite_t hf c53
        refine V_tableIn (pc := 32) (tgt := 372) (off := 340) hC dL_law_32 (by rw [c53]; decide) (by rw [c53]; decide) (by rw [c53]; decide) (by decide) ?_
        refine V_aload_n (pc := 372) hC 1 dL_law_372 rfl rfl ?_
        obtain ⟨r54, g54, hf⟩ := bind_some hf
        refine V_callV (pc := 373) (rest := []) (As := []) hC lk_L_49 (by decide) cel_X5 rfl (c_X5_clearText  g54) rfl rfl (Nat.le_of_ble_eq_true rfl) (by decide) dL_law_373 ?_
        change V X E 4 376 [(0, .ref b), (1, .ref (E.2.1 (48))), (2, .ref (E.2.1 (71))), (3, .int v3)] [.int r54.1] r54.2
        refine V_aload_n (pc := 376) hC 2 dL_law_376 rfl rfl ?_
        obtain ⟨r55, g55, hf⟩ := bind_some hf
        refine V_callV (pc := 377) (rest := [.int r54.1]) (As := []) hC lk_L_53 (by decide) cel_X6 rfl (c_X6_clearText  g55) rfl rfl (Nat.le_of_ble_eq_true rfl) (by decide) dL_law_377 ?_
        change V X E 4 380 [(0, .ref b), (1, .ref (E.2.1 (48))), (2, .ref (E.2.1 (71))), (3, .int v3)] [.int r55.1, .int r54.1] r55.2
        refine V_icmp_eq (pc := 380) (tgt := 717) hC dL_law_380 (by decide) (fun c56 => ?_) (fun c56 => ?_)
        · have hf := ite_t hf c56
          refine V_iinc (pc := 717) (lv' := [(3, .int (v3 + (nI 3))), (0, .ref b), (1, .ref (E.2.1 (48))), (2, .ref (E.2.1 (71)))]) hC (nI 3) 3 dL_law_717 rfl (by decide) (by decide) rfl ?_
          refine V_goto (pc := 720) (tgt := 18) hC dL_law_720 (by decide) ?_
          refine V_sub (pc := 18) (lv' := [(0, .ref b), (1, .ref (E.2.1 (48))), (2, .ref (E.2.1 (71))), (3, .int (v3 + (nI 3)))]) [1, 2, 3, 0] rfl ?_
          exact ih (v3 + (nI 3)) r55.2 hf
        · have hf := ite_f hf c56
          refine V_iconst (pc := 383) hC dL_law_383 (v := (nI 0)) (by decide) ?_
          have hf := Option.some.inj hf; subst hf
          exact V_ireturn (pc := 384) hR (nar_z (by decide)) dL_law_384
      have hf := ite_f hf c53
      by_cases c57 : ((sc (Int32.toNatClampNeg v3)) &&& (nI 31)) = (nI 9)
      · have hf := ite_t hf c57
        refine V_tableIn (pc := 32) (tgt := 385) (off := 353) hC dL_law_32 (by rw [c57]; decide) (by rw [c57]; decide) (by rw [c57]; decide) (by decide) ?_
        refine V_aload_n (pc := 385) hC 1 dL_law_385 rfl rfl ?_
        obtain ⟨r58, g58, hf⟩ := bind_some hf
        refine V_callV (pc := 386) (rest := []) (As := []) hC lk_L_54 (by decide) cel_X5 rfl (c_X5_vote  g58) rfl rfl (Nat.le_of_ble_eq_true rfl) (by decide) dL_law_386 ?_
        change V X E 4 389 [(0, .ref b), (1, .ref (E.2.1 (48))), (2, .ref (E.2.1 (71))), (3, .int v3)] [.int r58.1] r58.2
        refine V_aload_n (pc := 389) hC 2 dL_law_389 rfl rfl ?_
        obtain ⟨r59, g59, hf⟩ := bind_some hf
        refine V_callV (pc := 390) (rest := [.int r58.1]) (As := []) hC lk_L_57 (by decide) cel_X6 rfl (c_X6_vote  g59) rfl rfl (Nat.le_of_ble_eq_true rfl) (by decide) dL_law_390 ?_
        change V X E 4 393 [(0, .ref b), (1, .ref (E.2.1 (48))), (2, .ref (E.2.1 (71))), (3, .int v3)] [.int r59.1, .int r58.1] r59.2
        refine V_icmp_eq (pc := 393) (tgt := 717) hC dL_law_393 (by decide) (fun c60 => ?_) (fun c60 => ?_)
        · have hf := ite_t hf c60
          refine V_iinc (pc := 717) (lv' := [(3, .int (v3 + (nI 3))), (0, .ref b), (1, .ref (E.2.1 (48))), (2, .ref (E.2.1 (71)))]) hC (nI 3) 3 dL_law_717 rfl (by decide) (by decide) rfl ?_
          refine V_goto (pc := 720) (tgt := 18) hC dL_law_720 (by decide) ?_
          refine V_sub (pc := 18) (lv' := [(0, .ref b), (1, .ref (E.2.1 (48))), (2, .ref (E.2.1 (71))), (3, .int (v3 + (nI 3)))]) [1, 2, 3, 0] rfl ?_
          exact ih (v3 + (nI 3)) r59.2 hf
        · have hf := ite_f hf c60
          refine V_iconst (pc := 396) hC dL_law_396 (v := (nI 0)) (by decide) ?_
          have hf := Option.some.inj hf; subst hf
          exact V_ireturn (pc := 397) hR (nar_z (by decide)) dL_law_397
      have hf := ite_f hf c57
      by_cases c61 : ((sc (Int32.toNatClampNeg v3)) &&& (nI 31)) = (nI 10)
      · have hf := ite_t hf c61
        refine V_tableIn (pc := 32) (tgt := 398) (off := 366) hC dL_law_32 (by rw [c61]; decide) (by rw [c61]; decide) (by rw [c61]; decide) (by decide) ?_
        refine V_aload_n (pc := 398) hC 1 dL_law_398 rfl rfl ?_
        obtain ⟨r62, g62, hf⟩ := bind_some hf
        refine V_callV (pc := 399) (rest := []) (As := []) hC lk_L_58 (by decide) cel_X5 rfl (c_X5_undo  g62) rfl rfl (Nat.le_of_ble_eq_true rfl) (by decide) dL_law_399 ?_
        change V X E 4 402 [(0, .ref b), (1, .ref (E.2.1 (48))), (2, .ref (E.2.1 (71))), (3, .int v3)] [.int r62.1] r62.2
        refine V_aload_n (pc := 402) hC 2 dL_law_402 rfl rfl ?_
        obtain ⟨r63, g63, hf⟩ := bind_some hf
        refine V_callV (pc := 403) (rest := [.int r62.1]) (As := []) hC lk_L_61 (by decide) cel_X6 rfl (c_X6_undo  g63) rfl rfl (Nat.le_of_ble_eq_true rfl) (by decide) dL_law_403 ?_
        change V X E 4 406 [(0, .ref b), (1, .ref (E.2.1 (48))), (2, .ref (E.2.1 (71))), (3, .int v3)] [.int r63.1, .int r62.1] r63.2
        refine V_icmp_eq (pc := 406) (tgt := 717) hC dL_law_406 (by decide) (fun c64 => ?_) (fun c64 => ?_)
        · have hf := ite_t hf c64
          refine V_iinc (pc := 717) (lv' := [(3, .int (v3 + (nI 3))), (0, .ref b), (1, .ref (E.2.1 (48))), (2, .ref (E.2.1 (71)))]) hC (nI 3) 3 dL_law_717 rfl (by decide) (by decide) rfl ?_
          refine V_goto (pc := 720) (tgt := 18) hC dL_law_720 (by decide) ?_
          refine V_sub (pc := 18) (lv' := [(0, .ref b), (1, .ref (E.2.1 (48))), (2, .ref (E.2.1 (71))), (3, .int (v3 + (nI 3)))]) [1, 2, 3, 0] rfl ?_
          exact ih (v3 + (nI 3)) r63.2 hf
        · have hf := ite_f hf c64
          refine V_iconst (pc := 409) hC dL_law_409 (v := (nI 0)) (by decide) ?_
          have hf := Option.some.inj hf; subst hf
          exact V_ireturn (pc := 410) hR (nar_z (by decide)) dL_law_410
      have hf := ite_f hf c61
      by_cases c65 : ((sc (Int32.toNatClampNeg v3)) &&& (nI 31)) = (nI 11)
      · have hf := ite_t hf c65
        refine V_tableIn (pc := 32) (tgt := 411) (off := 379) hC dL_law_32 (by rw [c65]; decide) (by rw [c65]; decide) (by rw [c65]; decide) (by decide) ?_
        refine V_aload_n (pc := 411) hC 1 dL_law_411 rfl rfl ?_
        obtain ⟨r66, g66, hf⟩ := bind_some hf
        refine V_callV (pc := 412) (rest := []) (As := []) hC lk_L_62 (by decide) cel_X5 rfl (c_X5_keep  g66) rfl rfl (Nat.le_of_ble_eq_true rfl) (by decide) dL_law_412 ?_
        change V X E 4 415 [(0, .ref b), (1, .ref (E.2.1 (48))), (2, .ref (E.2.1 (71))), (3, .int v3)] [.int r66.1] r66.2
        refine V_aload_n (pc := 415) hC 2 dL_law_415 rfl rfl ?_
        obtain ⟨r67, g67, hf⟩ := bind_some hf
        refine V_callV (pc := 416) (rest := [.int r66.1]) (As := []) hC lk_L_65 (by decide) cel_X6 rfl (c_X6_keep  g67) rfl rfl (Nat.le_of_ble_eq_true rfl) (by decide) dL_law_416 ?_
        change V X E 4 419 [(0, .ref b), (1, .ref (E.2.1 (48))), (2, .ref (E.2.1 (71))), (3, .int v3)] [.int r67.1, .int r66.1] r67.2
        refine V_icmp_eq (pc := 419) (tgt := 717) hC dL_law_419 (by decide) (fun c68 => ?_) (fun c68 => ?_)
        · have hf := ite_t hf c68
          refine V_iinc (pc := 717) (lv' := [(3, .int (v3 + (nI 3))), (0, .ref b), (1, .ref (E.2.1 (48))), (2, .ref (E.2.1 (71)))]) hC (nI 3) 3 dL_law_717 rfl (by decide) (by decide) rfl ?_
          refine V_goto (pc := 720) (tgt := 18) hC dL_law_720 (by decide) ?_
          refine V_sub (pc := 18) (lv' := [(0, .ref b), (1, .ref (E.2.1 (48))), (2, .ref (E.2.1 (71))), (3, .int (v3 + (nI 3)))]) [1, 2, 3, 0] rfl ?_
          exact ih (v3 + (nI 3)) r67.2 hf
        · have hf := ite_f hf c68
          refine V_iconst (pc := 422) hC dL_law_422 (v := (nI 0)) (by decide) ?_
          have hf := Option.some.inj hf; subst hf
          exact V_ireturn (pc := 423) hR (nar_z (by decide)) dL_law_423
      have hf := ite_f hf c65
      by_cases c69 : ((sc (Int32.toNatClampNeg v3)) &&& (nI 31)) = (nI 12)
      · have hf := ite_t hf c69
        refine V_tableIn (pc := 32) (tgt := 424) (off := 392) hC dL_law_32 (by rw [c69]; decide) (by rw [c69]; decide) (by rw [c69]; decide) (by decide) ?_
        refine V_aload_n (pc := 424) hC 1 dL_law_424 rfl rfl ?_
        obtain ⟨r70, g70, hf⟩ := bind_some hf
        refine V_callV (pc := 425) (rest := []) (As := []) hC lk_L_66 (by decide) cel_X5 rfl (c_X5_restore  g70) rfl rfl (Nat.le_of_ble_eq_true rfl) (by decide) dL_law_425 ?_
        change V X E 4 428 [(0, .ref b), (1, .ref (E.2.1 (48))), (2, .ref (E.2.1 (71))), (3, .int v3)] [.int r70.1] r70.2
        refine V_aload_n (pc := 428) hC 2 dL_law_428 rfl rfl ?_
        obtain ⟨r71, g71, hf⟩ := bind_some hf
        refine V_callV (pc := 429) (rest := [.int r70.1]) (As := []) hC lk_L_69 (by decide) cel_X6 rfl (c_X6_restore  g71) rfl rfl (Nat.le_of_ble_eq_true rfl) (by decide) dL_law_429 ?_
        change V X E 4 432 [(0, .ref b), (1, .ref (E.2.1 (48))), (2, .ref (E.2.1 (71))), (3, .int v3)] [.int r71.1, .int r70.1] r71.2
        refine V_icmp_eq (pc := 432) (tgt := 717) hC dL_law_432 (by decide) (fun c72 => ?_) (fun c72 => ?_)
        · have hf := ite_t hf c72
          refine V_iinc (pc := 717) (lv' := [(3, .int (v3 + (nI 3))), (0, .ref b), (1, .ref (E.2.1 (48))), (2, .ref (E.2.1 (71)))]) hC (nI 3) 3 dL_law_717 rfl (by decide) (by decide) rfl ?_
          refine V_goto (pc := 720) (tgt := 18) hC dL_law_720 (by decide) ?_
          refine V_sub (pc := 18) (lv' := [(0, .ref b), (1, .ref (E.2.1 (48))), (2, .ref (E.2.1 (71))), (3, .int (v3 + (nI 3)))]) [1, 2, 3, 0] rfl ?_
          exact ih (v3 + (nI 3)) r71.2 hf
        · have hf := ite_f hf c72
          refine V_iconst (pc := 435) hC dL_law_435 (v := (nI 0)) (by decide) ?_
          have hf := Option.some.inj hf; subst hf
          exact V_ireturn (pc := 436) hR (nar_z (by decide)) dL_law_436
      have hf := ite_f hf c69
      by_cases c73 : ((sc (Int32.toNatClampNeg v3)) &&& (nI 31)) = (nI 13)
      · have hf := ite_t hf c73
        refine V_tableIn (pc := 32) (tgt := 437) (off := 405) hC dL_law_32 (by rw [c73]; decide) (by rw [c73]; decide) (by rw [c73]; decide) (by decide) ?_
        refine V_aload_n (pc := 437) hC 1 dL_law_437 rfl rfl ?_
        refine V_aload_n (pc := 438) hC 0 dL_law_438 rfl rfl ?_
        refine V_iload_n (pc := 439) hC 3 dL_law_439 rfl rfl ?_
        refine V_iconst (pc := 440) hC dL_law_440 (v := (nI 1)) (by decide) ?_
        refine V_iadd (pc := 441) hC dL_law_441 ?_
        obtain ⟨h74, hf⟩ := if_some hf
        refine V_sld (pc := 442) hC hB (inB_of h74) dL_law_442 ?_
        refine V_aload_n (pc := 443) hC 0 dL_law_443 rfl rfl ?_
        refine V_iload_n (pc := 444) hC 3 dL_law_444 rfl rfl ?_
        refine V_iconst (pc := 445) hC dL_law_445 (v := (nI 2)) (by decide) ?_
        refine V_iadd (pc := 446) hC dL_law_446 ?_
        obtain ⟨h75, hf⟩ := if_some hf
        refine V_sld (pc := 447) hC hB (inB_of h75) dL_law_447 ?_
        obtain ⟨r76, g76, hf⟩ := bind_some hf
        refine V_callV (pc := 448) (rest := []) (As := [.int (sc (Int32.toNatClampNeg (v3 + (nI 1)))), .int (sc (Int32.toNatClampNeg (v3 + (nI 2))))]) hC lk_L_70 (by decide) cel_X5 rfl (c_X5_member  g76) rfl rfl (Nat.le_of_ble_eq_true rfl) (by decide) dL_law_448 ?_
        change V X E 4 451 [(0, .ref b), (1, .ref (E.2.1 (48))), (2, .ref (E.2.1 (71))), (3, .int v3)] [.int r76.1] r76.2
        refine V_aload_n (pc := 451) hC 2 dL_law_451 rfl rfl ?_
        refine V_aload_n (pc := 452) hC 0 dL_law_452 rfl rfl ?_
        refine V_iload_n (pc := 453) hC 3 dL_law_453 rfl rfl ?_
        refine V_iconst (pc := 454) hC dL_law_454 (v := (nI 1)) (by decide) ?_
        refine V_iadd (pc := 455) hC dL_law_455 ?_
        obtain ⟨h77, hf⟩ := if_some hf
        refine V_sld (pc := 456) hC hB (inB_of h77) dL_law_456 ?_
        refine V_aload_n (pc := 457) hC 0 dL_law_457 rfl rfl ?_
        refine V_iload_n (pc := 458) hC 3 dL_law_458 rfl rfl ?_
        refine V_iconst (pc := 459) hC dL_law_459 (v := (nI 2)) (by decide) ?_
        refine V_iadd (pc := 460) hC dL_law_460 ?_
        obtain ⟨h78, hf⟩ := if_some hf
        refine V_sld (pc := 461) hC hB (inB_of h78) dL_law_461 ?_
        obtain ⟨r79, g79, hf⟩ := bind_some hf
        refine V_callV (pc := 462) (rest := [.int r76.1]) (As := [.int (sc (Int32.toNatClampNeg (v3 + (nI 1)))), .int (sc (Int32.toNatClampNeg (v3 + (nI 2))))]) hC lk_L_73 (by decide) cel_X6 rfl (c_X6_member  g79) rfl rfl (Nat.le_of_ble_eq_true rfl) (by decide) dL_law_462 ?_
        change V X E 4 465 [(0, .ref b), (1, .ref (E.2.1 (48))), (2, .ref (E.2.1 (71))), (3, .int v3)] [.int r79.1, .int r76.1] r79.2
        refine V_icmp_eq (pc := 465) (tgt := 717) hC dL_law_465 (by decide) (fun c80 => ?_) (fun c80 => ?_)
        · have hf := ite_t hf c80
          refine V_iinc (pc := 717) (lv' := [(3, .int (v3 + (nI 3))), (0, .ref b), (1, .ref (E.2.1 (48))), (2, .ref (E.2.1 (71)))]) hC (nI 3) 3 dL_law_717 rfl (by decide) (by decide) rfl ?_
          refine V_goto (pc := 720) (tgt := 18) hC dL_law_720 (by decide) ?_
          refine V_sub (pc := 18) (lv' := [(0, .ref b), (1, .ref (E.2.1 (48))), (2, .ref (E.2.1 (71))), (3, .int (v3 + (nI 3)))]) [1, 2, 3, 0] rfl ?_
          exact ih (v3 + (nI 3)) r79.2 hf
        · have hf := ite_f hf c80
          refine V_iconst (pc := 468) hC dL_law_468 (v := (nI 0)) (by decide) ?_
          have hf := Option.some.inj hf; subst hf
          exact V_ireturn (pc := 469) hR (nar_z (by decide)) dL_law_469
      have hf := ite_f hf c73
      by_cases c81 : ((sc (Int32.toNatClampNeg v3)) &&& (nI 31)) = (nI 14)
      · have hf := ite_t hf c81
        refine V_tableIn (pc := 32) (tgt := 470) (off := 438) hC dL_law_32 (by rw [c81]; decide) (by rw [c81]; decide) (by rw [c81]; decide) (by decide) ?_
        refine V_aload_n (pc := 470) hC 1 dL_law_470 rfl rfl ?_
        refine V_aload_n (pc := 471) hC 0 dL_law_471 rfl rfl ?_
        refine V_iload_n (pc := 472) hC 3 dL_law_472 rfl rfl ?_
        refine V_iconst (pc := 473) hC dL_law_473 (v := (nI 1)) (by decide) ?_
        refine V_iadd (pc := 474) hC dL_law_474 ?_
        obtain ⟨h82, hf⟩ := if_some hf
        refine V_sld (pc := 475) hC hB (inB_of h82) dL_law_475 ?_
        refine V_aload_n (pc := 476) hC 0 dL_law_476 rfl rfl ?_
        refine V_iload_n (pc := 477) hC 3 dL_law_477 rfl rfl ?_
        refine V_iconst (pc := 478) hC dL_law_478 (v := (nI 2)) (by decide) ?_
        refine V_iadd (pc := 479) hC dL_law_479 ?_
        obtain ⟨h83, hf⟩ := if_some hf
        refine V_sld (pc := 480) hC hB (inB_of h83) dL_law_480 ?_
        obtain ⟨r84, g84, hf⟩ := bind_some hf
        refine V_callV (pc := 481) (rest := []) (As := [.int (sc (Int32.toNatClampNeg (v3 + (nI 1)))), .int (sc (Int32.toNatClampNeg (v3 + (nI 2))))]) hC lk_L_74 (by decide) cel_X5 rfl (c_X5_share  g84) rfl rfl (Nat.le_of_ble_eq_true rfl) (by decide) dL_law_481 ?_
        change V X E 4 484 [(0, .ref b), (1, .ref (E.2.1 (48))), (2, .ref (E.2.1 (71))), (3, .int v3)] [.int r84.1] r84.2
        refine V_aload_n (pc := 484) hC 2 dL_law_484 rfl rfl ?_
        refine V_aload_n (pc := 485) hC 0 dL_law_485 rfl rfl ?_
        refine V_iload_n (pc := 486) hC 3 dL_law_486 rfl rfl ?_
        refine V_iconst (pc := 487) hC dL_law_487 (v := (nI 1)) (by decide) ?_
        refine V_iadd (pc := 488) hC dL_law_488 ?_
        obtain ⟨h85, hf⟩ := if_some hf
        refine V_sld (pc := 489) hC hB (inB_of h85) dL_law_489 ?_
        refine V_aload_n (pc := 490) hC 0 dL_law_490 rfl rfl ?_
        refine V_iload_n (pc := 491) hC 3 dL_law_491 rfl rfl ?_
        refine V_iconst (pc := 492) hC dL_law_492 (v := (nI 2)) (by decide) ?_
        refine V_iadd (pc := 493) hC dL_law_493 ?_
        obtain ⟨h86, hf⟩ := if_some hf
        refine V_sld (pc := 494) hC hB (inB_of h86) dL_law_494 ?_
        obtain ⟨r87, g87, hf⟩ := bind_some hf
        refine V_callV (pc := 495) (rest := [.int r84.1]) (As := [.int (sc (Int32.toNatClampNeg (v3 + (nI 1)))), .int (sc (Int32.toNatClampNeg (v3 + (nI 2))))]) hC lk_L_77 (by decide) cel_X6 rfl (c_X6_share  g87) rfl rfl (Nat.le_of_ble_eq_true rfl) (by decide) dL_law_495 ?_
        change V X E 4 498 [(0, .ref b), (1, .ref (E.2.1 (48))), (2, .ref (E.2.1 (71))), (3, .int v3)] [.int r87.1, .int r84.1] r87.2
        refine V_icmp_eq (pc := 498) (tgt := 717) hC dL_law_498 (by decide) (fun c88 => ?_) (fun c88 => ?_)
        · have hf := ite_t hf c88
          refine V_iinc (pc := 717) (lv' := [(3, .int (v3 + (nI 3))), (0, .ref b), (1, .ref (E.2.1 (48))), (2, .ref (E.2.1 (71)))]) hC (nI 3) 3 dL_law_717 rfl (by decide) (by decide) rfl ?_
          refine V_goto (pc := 720) (tgt := 18) hC dL_law_720 (by decide) ?_
          refine V_sub (pc := 18) (lv' := [(0, .ref b), (1, .ref (E.2.1 (48))), (2, .ref (E.2.1 (71))), (3, .int (v3 + (nI 3)))]) [1, 2, 3, 0] rfl ?_
          exact ih (v3 + (nI 3)) r87.2 hf
        · have hf := ite_f hf c88
          refine V_iconst (pc := 501) hC dL_law_501 (v := (nI 0)) (by decide) ?_
          have hf := Option.some.inj hf; subst hf
          exact V_ireturn (pc := 502) hR (nar_z (by decide)) dL_law_502
      have hf := ite_f hf c81
      by_cases c89 : ((sc (Int32.toNatClampNeg v3)) &&& (nI 31)) = (nI 15)
      · have hf := ite_t hf c89
        refine V_tableIn (pc := 32) (tgt := 503) (off := 471) hC dL_law_32 (by rw [c89]; decide) (by rw [c89]; decide) (by rw [c89]; decide) (by decide) ?_
        refine V_aload_n (pc := 503) hC 1 dL_law_503 rfl rfl ?_
        refine V_aload_n (pc := 504) hC 0 dL_law_504 rfl rfl ?_
        refine V_iload_n (pc := 505) hC 3 dL_law_505 rfl rfl ?_
        refine V_iconst (pc := 506) hC dL_law_506 (v := (nI 1)) (by decide) ?_
        refine V_iadd (pc := 507) hC dL_law_507 ?_
        obtain ⟨h90, hf⟩ := if_some hf
        refine V_sld (pc := 508) hC hB (inB_of h90) dL_law_508 ?_
        obtain ⟨r91, g91, hf⟩ := bind_some hf
        refine V_callV (pc := 509) (rest := []) (As := [.int (sc (Int32.toNatClampNeg (v3 + (nI 1))))]) hC lk_L_78 (by decide) cel_X5 rfl (c_X5_wins  g91) rfl rfl (Nat.le_of_ble_eq_true rfl) (by decide) dL_law_509 ?_
        change V X E 4 512 [(0, .ref b), (1, .ref (E.2.1 (48))), (2, .ref (E.2.1 (71))), (3, .int v3)] [.int r91] I
        refine V_aload_n (pc := 512) hC 2 dL_law_512 rfl rfl ?_
        refine V_aload_n (pc := 513) hC 0 dL_law_513 rfl rfl ?_
        refine V_iload_n (pc := 514) hC 3 dL_law_514 rfl rfl ?_
        refine V_iconst (pc := 515) hC dL_law_515 (v := (nI 1)) (by decide) ?_
        refine V_iadd (pc := 516) hC dL_law_516 ?_
        obtain ⟨h92, hf⟩ := if_some hf
        refine V_sld (pc := 517) hC hB (inB_of h92) dL_law_517 ?_
        obtain ⟨r93, g93, hf⟩ := bind_some hf
        refine V_callV (pc := 518) (rest := [.int r91]) (As := [.int (sc (Int32.toNatClampNeg (v3 + (nI 1))))]) hC lk_L_81 (by decide) cel_X6 rfl (c_X6_wins  g93) rfl rfl (Nat.le_of_ble_eq_true rfl) (by decide) dL_law_518 ?_
        change V X E 4 521 [(0, .ref b), (1, .ref (E.2.1 (48))), (2, .ref (E.2.1 (71))), (3, .int v3)] [.int r93.1, .int r91] r93.2
        refine V_icmp_eq (pc := 521) (tgt := 717) hC dL_law_521 (by decide) (fun c94 => ?_) (fun c94 => ?_)
        · have hf := ite_t hf c94
          refine V_iinc (pc := 717) (lv' := [(3, .int (v3 + (nI 3))), (0, .ref b), (1, .ref (E.2.1 (48))), (2, .ref (E.2.1 (71)))]) hC (nI 3) 3 dL_law_717 rfl (by decide) (by decide) rfl ?_
          refine V_goto (pc := 720) (tgt := 18) hC dL_law_720 (by decide) ?_
          refine V_sub (pc := 18) (lv' := [(0, .ref b), (1, .ref (E.2.1 (48))), (2, .ref (E.2.1 (71))), (3, .int (v3 + (nI 3)))]) [1, 2, 3, 0] rfl ?_
          exact ih (v3 + (nI 3)) r93.2 hf
        · have hf := ite_f hf c94
          refine V_iconst (pc := 524) hC dL_law_524 (v := (nI 0)) (by decide) ?_
          have hf := Option.some.inj hf; subst hf
          exact V_ireturn (pc := 525) hR (nar_z (by decide)) dL_law_525
      have hf := ite_f hf c89
      by_cases c95 : ((sc (Int32.toNatClampNeg v3)) &&& (nI 31)) = (nI 16)
      · have hf := ite_t hf c95
        refine V_tableIn (pc := 32) (tgt := 526) (off := 494) hC dL_law_32 (by rw [c95]; decide) (by rw [c95]; decide) (by rw [c95]; decide) (by decide) ?_
        refine V_aload_n (pc := 526) hC 1 dL_law_526 rfl rfl ?_
        refine V_aload_n (pc := 527) hC 0 dL_law_527 rfl rfl ?_
        refine V_iload_n (pc := 528) hC 3 dL_law_528 rfl rfl ?_
        refine V_iconst (pc := 529) hC dL_law_529 (v := (nI 1)) (by decide) ?_
        refine V_iadd (pc := 530) hC dL_law_530 ?_
        obtain ⟨h96, hf⟩ := if_some hf
        refine V_sld (pc := 531) hC hB (inB_of h96) dL_law_531 ?_
        refine V_aload_n (pc := 532) hC 0 dL_law_532 rfl rfl ?_
        refine V_iload_n (pc := 533) hC 3 dL_law_533 rfl rfl ?_
        refine V_iconst (pc := 534) hC dL_law_534 (v := (nI 2)) (by decide) ?_
        refine V_iadd (pc := 535) hC dL_law_535 ?_
        obtain ⟨h97, hf⟩ := if_some hf
        refine V_sld (pc := 536) hC hB (inB_of h97) dL_law_536 ?_
        obtain ⟨r98, g98, hf⟩ := bind_some hf
        refine V_callV (pc := 537) (rest := []) (As := [.int (sc (Int32.toNatClampNeg (v3 + (nI 1)))), .int (sc (Int32.toNatClampNeg (v3 + (nI 2))))]) hC lk_L_82 (by decide) cel_X5 rfl (c_X5_leastCoalition  g98) rfl rfl (Nat.le_of_ble_eq_true rfl) (by decide) dL_law_537 ?_
        change V X E 4 540 [(0, .ref b), (1, .ref (E.2.1 (48))), (2, .ref (E.2.1 (71))), (3, .int v3)] [.int r98.1] r98.2
        refine V_aload_n (pc := 540) hC 2 dL_law_540 rfl rfl ?_
        refine V_aload_n (pc := 541) hC 0 dL_law_541 rfl rfl ?_
        refine V_iload_n (pc := 542) hC 3 dL_law_542 rfl rfl ?_
        refine V_iconst (pc := 543) hC dL_law_543 (v := (nI 1)) (by decide) ?_
        refine V_iadd (pc := 544) hC dL_law_544 ?_
        obtain ⟨h99, hf⟩ := if_some hf
        refine V_sld (pc := 545) hC hB (inB_of h99) dL_law_545 ?_
        refine V_aload_n (pc := 546) hC 0 dL_law_546 rfl rfl ?_
        refine V_iload_n (pc := 547) hC 3 dL_law_547 rfl rfl ?_
        refine V_iconst (pc := 548) hC dL_law_548 (v := (nI 2)) (by decide) ?_
        refine V_iadd (pc := 549) hC dL_law_549 ?_
        obtain ⟨h100, hf⟩ := if_some hf
        refine V_sld (pc := 550) hC hB (inB_of h100) dL_law_550 ?_
        obtain ⟨r101, g101, hf⟩ := bind_some hf
        refine V_callV (pc := 551) (rest := [.int r98.1]) (As := [.int (sc (Int32.toNatClampNeg (v3 + (nI 1)))), .int (sc (Int32.toNatClampNeg (v3 + (nI 2))))]) hC lk_L_85 (by decide) cel_X6 rfl (c_X6_leastCoalition  g101) rfl rfl (Nat.le_of_ble_eq_true rfl) (by decide) dL_law_551 ?_
        change V X E 4 554 [(0, .ref b), (1, .ref (E.2.1 (48))), (2, .ref (E.2.1 (71))), (3, .int v3)] [.int r101.1, .int r98.1] r101.2
        refine V_icmp_eq (pc := 554) (tgt := 717) hC dL_law_554 (by decide) (fun c102 => ?_) (fun c102 => ?_)
        · have hf := ite_t hf c102
          refine V_iinc (pc := 717) (lv' := [(3, .int (v3 + (nI 3))), (0, .ref b), (1, .ref (E.2.1 (48))), (2, .ref (E.2.1 (71)))]) hC (nI 3) 3 dL_law_717 rfl (by decide) (by decide) rfl ?_
          refine V_goto (pc := 720) (tgt := 18) hC dL_law_720 (by decide) ?_
          refine V_sub (pc := 18) (lv' := [(0, .ref b), (1, .ref (E.2.1 (48))), (2, .ref (E.2.1 (71))), (3, .int (v3 + (nI 3)))]) [1, 2, 3, 0] rfl ?_
          exact ih (v3 + (nI 3)) r101.2 hf
        · have hf := ite_f hf c102
          refine V_iconst (pc := 557) hC dL_law_557 (v := (nI 0)) (by decide) ?_
          have hf := Option.some.inj hf; subst hf
          exact V_ireturn (pc := 558) hR (nar_z (by decide)) dL_law_558
      have hf := ite_f hf c95
      by_cases c103 : ((sc (Int32.toNatClampNeg v3)) &&& (nI 31)) = (nI 17)
      · have hf := ite_t hf c103
        refine V_tableIn (pc := 32) (tgt := 559) (off := 527) hC dL_law_32 (by rw [c103]; decide) (by rw [c103]; decide) (by rw [c103]; decide) (by decide) ?_
        refine V_aload_n (pc := 559) hC 1 dL_law_559 rfl rfl ?_
        refine V_aload_n (pc := 560) hC 0 dL_law_560 rfl rfl ?_
        refine V_iload_n (pc := 561) hC 3 dL_law_561 rfl rfl ?_
        refine V_iconst (pc := 562) hC dL_law_562 (v := (nI 1)) (by decide) ?_
        refine V_iadd (pc := 563) hC dL_law_563 ?_
        obtain ⟨h104, hf⟩ := if_some hf
        refine V_sld (pc := 564) hC hB (inB_of h104) dL_law_564 ?_
        obtain ⟨r105, g105, hf⟩ := bind_some hf
        refine V_callV (pc := 565) (rest := []) (As := [.int (sc (Int32.toNatClampNeg (v3 + (nI 1))))]) hC lk_L_86 (by decide) cel_X5 rfl (c_X5_ranked  g105) rfl rfl (Nat.le_of_ble_eq_true rfl) (by decide) dL_law_565 ?_
        change V X E 4 568 [(0, .ref b), (1, .ref (E.2.1 (48))), (2, .ref (E.2.1 (71))), (3, .int v3)] [.int r105.1] r105.2
        refine V_aload_n (pc := 568) hC 2 dL_law_568 rfl rfl ?_
        refine V_aload_n (pc := 569) hC 0 dL_law_569 rfl rfl ?_
        refine V_iload_n (pc := 570) hC 3 dL_law_570 rfl rfl ?_
        refine V_iconst (pc := 571) hC dL_law_571 (v := (nI 1)) (by decide) ?_
        refine V_iadd (pc := 572) hC dL_law_572 ?_
        obtain ⟨h106, hf⟩ := if_some hf
        refine V_sld (pc := 573) hC hB (inB_of h106) dL_law_573 ?_
        obtain ⟨r107, g107, hf⟩ := bind_some hf
        refine V_callV (pc := 574) (rest := [.int r105.1]) (As := [.int (sc (Int32.toNatClampNeg (v3 + (nI 1))))]) hC lk_L_89 (by decide) cel_X6 rfl (c_X6_ranked  g107) rfl rfl (Nat.le_of_ble_eq_true rfl) (by decide) dL_law_574 ?_
        change V X E 4 577 [(0, .ref b), (1, .ref (E.2.1 (48))), (2, .ref (E.2.1 (71))), (3, .int v3)] [.int r107.1, .int r105.1] r107.2
        refine V_icmp_eq (pc := 577) (tgt := 717) hC dL_law_577 (by decide) (fun c108 => ?_) (fun c108 => ?_)
        · have hf := ite_t hf c108
          refine V_iinc (pc := 717) (lv' := [(3, .int (v3 + (nI 3))), (0, .ref b), (1, .ref (E.2.1 (48))), (2, .ref (E.2.1 (71)))]) hC (nI 3) 3 dL_law_717 rfl (by decide) (by decide) rfl ?_
          refine V_goto (pc := 720) (tgt := 18) hC dL_law_720 (by decide) ?_
          refine V_sub (pc := 18) (lv' := [(0, .ref b), (1, .ref (E.2.1 (48))), (2, .ref (E.2.1 (71))), (3, .int (v3 + (nI 3)))]) [1, 2, 3, 0] rfl ?_
          exact ih (v3 + (nI 3)) r107.2 hf
        · have hf := ite_f hf c108
          refine V_iconst (pc := 580) hC dL_law_580 (v := (nI 0)) (by decide) ?_
          have hf := Option.some.inj hf; subst hf
          exact V_ireturn (pc := 581) hR (nar_z (by decide)) dL_law_581
      have hf := ite_f hf c103
      by_cases c109 : ((sc (Int32.toNatClampNeg v3)) &&& (nI 31)) = (nI 18)
      · have hf := ite_t hf c109
        refine V_tableIn (pc := 32) (tgt := 582) (off := 550) hC dL_law_32 (by rw [c109]; decide) (by rw [c109]; decide) (by rw [c109]; decide) (by decide) ?_
        refine V_aload_n (pc := 582) hC 1 dL_law_582 rfl rfl ?_
        refine V_aload_n (pc := 583) hC 0 dL_law_583 rfl rfl ?_
        refine V_iload_n (pc := 584) hC 3 dL_law_584 rfl rfl ?_
        refine V_iconst (pc := 585) hC dL_law_585 (v := (nI 1)) (by decide) ?_
        refine V_iadd (pc := 586) hC dL_law_586 ?_
        obtain ⟨h110, hf⟩ := if_some hf
        refine V_sld (pc := 587) hC hB (inB_of h110) dL_law_587 ?_
        refine V_aload_n (pc := 588) hC 0 dL_law_588 rfl rfl ?_
        refine V_iload_n (pc := 589) hC 3 dL_law_589 rfl rfl ?_
        refine V_iconst (pc := 590) hC dL_law_590 (v := (nI 2)) (by decide) ?_
        refine V_iadd (pc := 591) hC dL_law_591 ?_
        obtain ⟨h111, hf⟩ := if_some hf
        refine V_sld (pc := 592) hC hB (inB_of h111) dL_law_592 ?_
        obtain ⟨r112, g112, hf⟩ := bind_some hf
        refine V_callV (pc := 593) (rest := []) (As := [.int (sc (Int32.toNatClampNeg (v3 + (nI 1)))), .int (sc (Int32.toNatClampNeg (v3 + (nI 2))))]) hC lk_L_90 (by decide) cel_X5 rfl (c_X5_withQuota  g112) rfl rfl (Nat.le_of_ble_eq_true rfl) (by decide) dL_law_593 ?_
        change V X E 4 596 [(0, .ref b), (1, .ref (E.2.1 (48))), (2, .ref (E.2.1 (71))), (3, .int v3)] [.int r112.1] r112.2
        refine V_aload_n (pc := 596) hC 2 dL_law_596 rfl rfl ?_
        refine V_aload_n (pc := 597) hC 0 dL_law_597 rfl rfl ?_
        refine V_iload_n (pc := 598) hC 3 dL_law_598 rfl rfl ?_
        refine V_iconst (pc := 599) hC dL_law_599 (v := (nI 1)) (by decide) ?_
        refine V_iadd (pc := 600) hC dL_law_600 ?_
        obtain ⟨h113, hf⟩ := if_some hf
        refine V_sld (pc := 601) hC hB (inB_of h113) dL_law_601 ?_
        refine V_aload_n (pc := 602) hC 0 dL_law_602 rfl rfl ?_
        refine V_iload_n (pc := 603) hC 3 dL_law_603 rfl rfl ?_
        refine V_iconst (pc := 604) hC dL_law_604 (v := (nI 2)) (by decide) ?_
        refine V_iadd (pc := 605) hC dL_law_605 ?_
        obtain ⟨h114, hf⟩ := if_some hf
        refine V_sld (pc := 606) hC hB (inB_of h114) dL_law_606 ?_
        obtain ⟨r115, g115, hf⟩ := bind_some hf
        refine V_callV (pc := 607) (rest := [.int r112.1]) (As := [.int (sc (Int32.toNatClampNeg (v3 + (nI 1)))), .int (sc (Int32.toNatClampNeg (v3 + (nI 2))))]) hC lk_L_93 (by decide) cel_X6 rfl (c_X6_withQuota  g115) rfl rfl (Nat.le_of_ble_eq_true rfl) (by decide) dL_law_607 ?_
        change V X E 4 610 [(0, .ref b), (1, .ref (E.2.1 (48))), (2, .ref (E.2.1 (71))), (3, .int v3)] [.int r115.1, .int r112.1] r115.2
        refine V_icmp_eq (pc := 610) (tgt := 717) hC dL_law_610 (by decide) (fun c116 => ?_) (fun c116 => ?_)
        · have hf := ite_t hf c116
          refine V_iinc (pc := 717) (lv' := [(3, .int (v3 + (nI 3))), (0, .ref b), (1, .ref (E.2.1 (48))), (2, .ref (E.2.1 (71)))]) hC (nI 3) 3 dL_law_717 rfl (by decide) (by decide) rfl ?_
          refine V_goto (pc := 720) (tgt := 18) hC dL_law_720 (by decide) ?_
          refine V_sub (pc := 18) (lv' := [(0, .ref b), (1, .ref (E.2.1 (48))), (2, .ref (E.2.1 (71))), (3, .int (v3 + (nI 3)))]) [1, 2, 3, 0] rfl ?_
          exact ih (v3 + (nI 3)) r115.2 hf
        · have hf := ite_f hf c116
          refine V_iconst (pc := 613) hC dL_law_613 (v := (nI 0)) (by decide) ?_
          have hf := Option.some.inj hf; subst hf
          exact V_ireturn (pc := 614) hR (nar_z (by decide)) dL_law_614
      have hf := ite_f hf c109
      by_cases c117 : ((sc (Int32.toNatClampNeg v3)) &&& (nI 31)) = (nI 19)
      · have hf := ite_t hf c117
        refine V_tableIn (pc := 32) (tgt := 615) (off := 583) hC dL_law_32 (by rw [c117]; decide) (by rw [c117]; decide) (by rw [c117]; decide) (by decide) ?_
        refine V_aload_n (pc := 615) hC 1 dL_law_615 rfl rfl ?_
        refine V_aload_n (pc := 616) hC 0 dL_law_616 rfl rfl ?_
        refine V_iload_n (pc := 617) hC 3 dL_law_617 rfl rfl ?_
        refine V_iconst (pc := 618) hC dL_law_618 (v := (nI 1)) (by decide) ?_
        refine V_iadd (pc := 619) hC dL_law_619 ?_
        obtain ⟨h118, hf⟩ := if_some hf
        refine V_sld (pc := 620) hC hB (inB_of h118) dL_law_620 ?_
        refine V_aload_n (pc := 621) hC 0 dL_law_621 rfl rfl ?_
        refine V_iload_n (pc := 622) hC 3 dL_law_622 rfl rfl ?_
        refine V_iconst (pc := 623) hC dL_law_623 (v := (nI 2)) (by decide) ?_
        refine V_iadd (pc := 624) hC dL_law_624 ?_
        obtain ⟨h119, hf⟩ := if_some hf
        refine V_sld (pc := 625) hC hB (inB_of h119) dL_law_625 ?_
        obtain ⟨r120, g120, hf⟩ := bind_some hf
        refine V_callV (pc := 626) (rest := []) (As := [.int (sc (Int32.toNatClampNeg (v3 + (nI 1)))), .int (sc (Int32.toNatClampNeg (v3 + (nI 2))))]) hC lk_L_94 (by decide) cel_X5 rfl (c_X5_leavesOut  g120) rfl rfl (Nat.le_of_ble_eq_true rfl) (by decide) dL_law_626 ?_
        change V X E 4 629 [(0, .ref b), (1, .ref (E.2.1 (48))), (2, .ref (E.2.1 (71))), (3, .int v3)] [.int r120.1] r120.2
        refine V_aload_n (pc := 629) hC 2 dL_law_629 rfl rfl ?_
        refine V_aload_n (pc := 630) hC 0 dL_law_630 rfl rfl ?_
        refine V_iload_n (pc := 631) hC 3 dL_law_631 rfl rfl ?_
        refine V_iconst (pc := 632) hC dL_law_632 (v := (nI 1)) (by decide) ?_
        refine V_iadd (pc := 633) hC dL_law_633 ?_
        obtain ⟨h121, hf⟩ := if_some hf
        refine V_sld (pc := 634) hC hB (inB_of h121) dL_law_634 ?_
        refine V_aload_n (pc := 635) hC 0 dL_law_635 rfl rfl ?_
        refine V_iload_n (pc := 636) hC 3 dL_law_636 rfl rfl ?_
        refine V_iconst (pc := 637) hC dL_law_637 (v := (nI 2)) (by decide) ?_
        refine V_iadd (pc := 638) hC dL_law_638 ?_
        obtain ⟨h122, hf⟩ := if_some hf
        refine V_sld (pc := 639) hC hB (inB_of h122) dL_law_639 ?_
        obtain ⟨r123, g123, hf⟩ := bind_some hf
        refine V_callV (pc := 640) (rest := [.int r120.1]) (As := [.int (sc (Int32.toNatClampNeg (v3 + (nI 1)))), .int (sc (Int32.toNatClampNeg (v3 + (nI 2))))]) hC lk_L_97 (by decide) cel_X6 rfl (c_X6_leavesOut  g123) rfl rfl (Nat.le_of_ble_eq_true rfl) (by decide) dL_law_640 ?_
        change V X E 4 643 [(0, .ref b), (1, .ref (E.2.1 (48))), (2, .ref (E.2.1 (71))), (3, .int v3)] [.int r123.1, .int r120.1] r123.2
        refine V_icmp_eq (pc := 643) (tgt := 717) hC dL_law_643 (by decide) (fun c124 => ?_) (fun c124 => ?_)
        · have hf := ite_t hf c124
          refine V_iinc (pc := 717) (lv' := [(3, .int (v3 + (nI 3))), (0, .ref b), (1, .ref (E.2.1 (48))), (2, .ref (E.2.1 (71)))]) hC (nI 3) 3 dL_law_717 rfl (by decide) (by decide) rfl ?_
          refine V_goto (pc := 720) (tgt := 18) hC dL_law_720 (by decide) ?_
          refine V_sub (pc := 18) (lv' := [(0, .ref b), (1, .ref (E.2.1 (48))), (2, .ref (E.2.1 (71))), (3, .int (v3 + (nI 3)))]) [1, 2, 3, 0] rfl ?_
          exact ih (v3 + (nI 3)) r123.2 hf
        · have hf := ite_f hf c124
          refine V_iconst (pc := 646) hC dL_law_646 (v := (nI 0)) (by decide) ?_
          have hf := Option.some.inj hf; subst hf
          exact V_ireturn (pc := 647) hR (nar_z (by decide)) dL_law_647
      have hf := ite_f hf c117
      by_cases c125 : ((sc (Int32.toNatClampNeg v3)) &&& (nI 31)) = (nI 20)
      · have hf := ite_t hf c125
        refine V_tableIn (pc := 32) (tgt := 648) (off := 616) hC dL_law_32 (by rw [c125]; decide) (by rw [c125]; decide) (by rw [c125]; decide) (by decide) ?_
        refine V_aload_n (pc := 648) hC 1 dL_law_648 rfl rfl ?_
        obtain ⟨r126, g126, hf⟩ := bind_some hf
        refine V_callV (pc := 649) (rest := []) (As := []) hC lk_L_98 (by decide) cel_X5 rfl (c_X5_fairest  g126) rfl rfl (Nat.le_of_ble_eq_true rfl) (by decide) dL_law_649 ?_
        change V X E 4 652 [(0, .ref b), (1, .ref (E.2.1 (48))), (2, .ref (E.2.1 (71))), (3, .int v3)] [.int r126.1] r126.2
        refine V_aload_n (pc := 652) hC 2 dL_law_652 rfl rfl ?_
        obtain ⟨r127, g127, hf⟩ := bind_some hf
        refine V_callV (pc := 653) (rest := [.int r126.1]) (As := []) hC lk_L_101 (by decide) cel_X6 rfl (c_X6_fairest  g127) rfl rfl (Nat.le_of_ble_eq_true rfl) (by decide) dL_law_653 ?_
        change V X E 4 656 [(0, .ref b), (1, .ref (E.2.1 (48))), (2, .ref (E.2.1 (71))), (3, .int v3)] [.int r127.1, .int r126.1] r127.2
        refine V_icmp_eq (pc := 656) (tgt := 717) hC dL_law_656 (by decide) (fun c128 => ?_) (fun c128 => ?_)
        · have hf := ite_t hf c128
          refine V_iinc (pc := 717) (lv' := [(3, .int (v3 + (nI 3))), (0, .ref b), (1, .ref (E.2.1 (48))), (2, .ref (E.2.1 (71)))]) hC (nI 3) 3 dL_law_717 rfl (by decide) (by decide) rfl ?_
          refine V_goto (pc := 720) (tgt := 18) hC dL_law_720 (by decide) ?_
          refine V_sub (pc := 18) (lv' := [(0, .ref b), (1, .ref (E.2.1 (48))), (2, .ref (E.2.1 (71))), (3, .int (v3 + (nI 3)))]) [1, 2, 3, 0] rfl ?_
          exact ih (v3 + (nI 3)) r127.2 hf
        · have hf := ite_f hf c128
          refine V_iconst (pc := 659) hC dL_law_659 (v := (nI 0)) (by decide) ?_
          have hf := Option.some.inj hf; subst hf
          exact V_ireturn (pc := 660) hR (nar_z (by decide)) dL_law_660
      have hf := ite_f hf c125
      by_cases c129 : ((sc (Int32.toNatClampNeg v3)) &&& (nI 31)) = (nI 21)
      · have hf := ite_t hf c129
        refine V_tableIn (pc := 32) (tgt := 661) (off := 629) hC dL_law_32 (by rw [c129]; decide) (by rw [c129]; decide) (by rw [c129]; decide) (by decide) ?_
        refine V_aload_n (pc := 661) hC 1 dL_law_661 rfl rfl ?_
        refine V_aload_n (pc := 662) hC 0 dL_law_662 rfl rfl ?_
        refine V_iload_n (pc := 663) hC 3 dL_law_663 rfl rfl ?_
        refine V_iconst (pc := 664) hC dL_law_664 (v := (nI 1)) (by decide) ?_
        refine V_iadd (pc := 665) hC dL_law_665 ?_
        obtain ⟨h130, hf⟩ := if_some hf
        refine V_sld (pc := 666) hC hB (inB_of h130) dL_law_666 ?_
        refine V_aload_n (pc := 667) hC 0 dL_law_667 rfl rfl ?_
        refine V_iload_n (pc := 668) hC 3 dL_law_668 rfl rfl ?_
        refine V_iconst (pc := 669) hC dL_law_669 (v := (nI 2)) (by decide) ?_
        refine V_iadd (pc := 670) hC dL_law_670 ?_
        obtain ⟨h131, hf⟩ := if_some hf
        refine V_sld (pc := 671) hC hB (inB_of h131) dL_law_671 ?_
        obtain ⟨r132, g132, hf⟩ := bind_some hf
        refine V_callV (pc := 672) (rest := []) (As := [.int (sc (Int32.toNatClampNeg (v3 + (nI 1)))), .int (sc (Int32.toNatClampNeg (v3 + (nI 2))))]) hC lk_L_102 (by decide) cel_X5 rfl (c_X5_ballot  g132) rfl rfl (Nat.le_of_ble_eq_true rfl) (by decide) dL_law_672 ?_
        change V X E 4 675 [(0, .ref b), (1, .ref (E.2.1 (48))), (2, .ref (E.2.1 (71))), (3, .int v3)] [.int r132] I
        refine V_aload_n (pc := 675) hC 2 dL_law_675 rfl rfl ?_
        refine V_aload_n (pc := 676) hC 0 dL_law_676 rfl rfl ?_
        refine V_iload_n (pc := 677) hC 3 dL_law_677 rfl rfl ?_
        refine V_iconst (pc := 678) hC dL_law_678 (v := (nI 1)) (by decide) ?_
        refine V_iadd (pc := 679) hC dL_law_679 ?_
        obtain ⟨h133, hf⟩ := if_some hf
        refine V_sld (pc := 680) hC hB (inB_of h133) dL_law_680 ?_
        refine V_aload_n (pc := 681) hC 0 dL_law_681 rfl rfl ?_
        refine V_iload_n (pc := 682) hC 3 dL_law_682 rfl rfl ?_
        refine V_iconst (pc := 683) hC dL_law_683 (v := (nI 2)) (by decide) ?_
        refine V_iadd (pc := 684) hC dL_law_684 ?_
        obtain ⟨h134, hf⟩ := if_some hf
        refine V_sld (pc := 685) hC hB (inB_of h134) dL_law_685 ?_
        obtain ⟨r135, g135, hf⟩ := bind_some hf
        refine V_callV (pc := 686) (rest := [.int r132]) (As := [.int (sc (Int32.toNatClampNeg (v3 + (nI 1)))), .int (sc (Int32.toNatClampNeg (v3 + (nI 2))))]) hC lk_L_105 (by decide) cel_X6 rfl (c_X6_ballot  g135) rfl rfl (Nat.le_of_ble_eq_true rfl) (by decide) dL_law_686 ?_
        change V X E 4 689 [(0, .ref b), (1, .ref (E.2.1 (48))), (2, .ref (E.2.1 (71))), (3, .int v3)] [.int r135, .int r132] I
        refine V_icmp_eq (pc := 689) (tgt := 717) hC dL_law_689 (by decide) (fun c136 => ?_) (fun c136 => ?_)
        · have hf := ite_t hf c136
          refine V_iinc (pc := 717) (lv' := [(3, .int (v3 + (nI 3))), (0, .ref b), (1, .ref (E.2.1 (48))), (2, .ref (E.2.1 (71)))]) hC (nI 3) 3 dL_law_717 rfl (by decide) (by decide) rfl ?_
          refine V_goto (pc := 720) (tgt := 18) hC dL_law_720 (by decide) ?_
          refine V_sub (pc := 18) (lv' := [(0, .ref b), (1, .ref (E.2.1 (48))), (2, .ref (E.2.1 (71))), (3, .int (v3 + (nI 3)))]) [1, 2, 3, 0] rfl ?_
          exact ih (v3 + (nI 3)) I hf
        · have hf := ite_f hf c136
          refine V_iconst (pc := 692) hC dL_law_692 (v := (nI 0)) (by decide) ?_
          have hf := Option.some.inj hf; subst hf
          exact V_ireturn (pc := 693) hR (nar_z (by decide)) dL_law_693
      have hf := ite_f hf c129
      by_cases c137 : ((sc (Int32.toNatClampNeg v3)) &&& (nI 31)) = (nI 22)
      · have hf := ite_t hf c137
        refine V_tableIn (pc := 32) (tgt := 694) (off := 662) hC dL_law_32 (by rw [c137]; decide) (by rw [c137]; decide) (by rw [c137]; decide) (by decide) ?_
        refine V_aload_n (pc := 694) hC 1 dL_law_694 rfl rfl ?_
        refine V_aload_n (pc := 695) hC 0 dL_law_695 rfl rfl ?_
        refine V_iload_n (pc := 696) hC 3 dL_law_696 rfl rfl ?_
        refine V_iconst (pc := 697) hC dL_law_697 (v := (nI 1)) (by decide) ?_
        refine V_iadd (pc := 698) hC dL_law_698 ?_
        obtain ⟨h138, hf⟩ := if_some hf
        refine V_sld (pc := 699) hC hB (inB_of h138) dL_law_699 ?_
        obtain ⟨r139, g139, hf⟩ := bind_some hf
        refine V_callV (pc := 700) (rest := []) (As := [.int (sc (Int32.toNatClampNeg (v3 + (nI 1))))]) hC lk_L_106 (by decide) cel_X5 rfl (c_X5_count  g139) rfl rfl (Nat.le_of_ble_eq_true rfl) (by decide) dL_law_700 ?_
        change V X E 4 703 [(0, .ref b), (1, .ref (E.2.1 (48))), (2, .ref (E.2.1 (71))), (3, .int v3)] [.int r139.1] r139.2
        refine V_aload_n (pc := 703) hC 2 dL_law_703 rfl rfl ?_
        refine V_aload_n (pc := 704) hC 0 dL_law_704 rfl rfl ?_
        refine V_iload_n (pc := 705) hC 3 dL_law_705 rfl rfl ?_
        refine V_iconst (pc := 706) hC dL_law_706 (v := (nI 1)) (by decide) ?_
        refine V_iadd (pc := 707) hC dL_law_707 ?_
        obtain ⟨h140, hf⟩ := if_some hf
        refine V_sld (pc := 708) hC hB (inB_of h140) dL_law_708 ?_
        obtain ⟨r141, g141, hf⟩ := bind_some hf
        refine V_callV (pc := 709) (rest := [.int r139.1]) (As := [.int (sc (Int32.toNatClampNeg (v3 + (nI 1))))]) hC lk_L_109 (by decide) cel_X6 rfl (c_X6_count  g141) rfl rfl (Nat.le_of_ble_eq_true rfl) (by decide) dL_law_709 ?_
        change V X E 4 712 [(0, .ref b), (1, .ref (E.2.1 (48))), (2, .ref (E.2.1 (71))), (3, .int v3)] [.int r141.1, .int r139.1] r141.2
        refine V_icmp_eq (pc := 712) (tgt := 717) hC dL_law_712 (by decide) (fun c142 => ?_) (fun c142 => ?_)
        · have hf := ite_t hf c142
          refine V_iinc (pc := 717) (lv' := [(3, .int (v3 + (nI 3))), (0, .ref b), (1, .ref (E.2.1 (48))), (2, .ref (E.2.1 (71)))]) hC (nI 3) 3 dL_law_717 rfl (by decide) (by decide) rfl ?_
          refine V_goto (pc := 720) (tgt := 18) hC dL_law_720 (by decide) ?_
          refine V_sub (pc := 18) (lv' := [(0, .ref b), (1, .ref (E.2.1 (48))), (2, .ref (E.2.1 (71))), (3, .int (v3 + (nI 3)))]) [1, 2, 3, 0] rfl ?_
          exact ih (v3 + (nI 3)) r141.2 hf
        · have hf := ite_f hf c142
          refine V_iconst (pc := 715) hC dL_law_715 (v := (nI 0)) (by decide) ?_
          have hf := Option.some.inj hf; subst hf
          exact V_ireturn (pc := 716) hR (nar_z (by decide)) dL_law_716
      have hf := ite_f hf c137
      refine V_tableOut (pc := 32) (tgt := 717) hC dL_law_32 (by have zc3 := lv_neT c3 (a := 0) (by decide); have zc9 := lv_neT c9 (a := 1) (by decide); have zc15 := lv_neT c15 (a := 2) (by decide); have zc23 := lv_neT c23 (a := 3) (by decide); have zc27 := lv_neT c27 (a := 4) (by decide); have zc33 := lv_neT c33 (a := 5) (by decide); have zc41 := lv_neT c41 (a := 6) (by decide); have zc47 := lv_neT c47 (a := 7) (by decide); have zc53 := lv_neT c53 (a := 8) (by decide); have zc57 := lv_neT c57 (a := 9) (by decide); have zc61 := lv_neT c61 (a := 10) (by decide); have zc65 := lv_neT c65 (a := 11) (by decide); have zc69 := lv_neT c69 (a := 12) (by decide); have zc73 := lv_neT c73 (a := 13) (by decide); have zc81 := lv_neT c81 (a := 14) (by decide); have zc89 := lv_neT c89 (a := 15) (by decide); have zc95 := lv_neT c95 (a := 16) (by decide); have zc103 := lv_neT c103 (a := 17) (by decide); have zc109 := lv_neT c109 (a := 18) (by decide); have zc117 := lv_neT c117 (a := 19) (by decide); have zc125 := lv_neT c125 (a := 20) (by decide); have zc129 := lv_neT c129 (a := 21) (by decide); have zc137 := lv_neT c137 (a := 22) (by decide); omega) (by decide) ?_
      refine V_iinc (pc := 717) (lv' := [(3, .int (v3 + (nI 3))), (0, .ref b), (1, .ref (E.2.1 (48))), (2, .ref (E.2.1 (71)))]) hC (nI 3) 3 dL_law_717 rfl (by decide) (by decide) rfl ?_
      refine V_goto (pc := 720) (tgt := 18) hC dL_law_720 (by decide) ?_
      refine V_sub (pc := 18) (lv' := [(0, .ref b), (1, .ref (E.2.1 (48))), (2, .ref (E.2.1 (71))), (3, .int (v3 + (nI 3)))]) [1, 2, 3, 0] rfl ?_
      exact ih (v3 + (nI 3)) I hf
def f_L_law (k : Nat) (b : Nat) (L : Nat) (sc : Nat → Int32) (I : Mem) : Option (Int32 × Mem) := f_L_law_18 k b L sc k (nI 0) I
set_option maxHeartbeats 4000000 in
set_option maxRecDepth 100000 in
theorem c_L_law {X : XT} {E : EN} {k : Nat} {b : Nat} {L : Nat} {sc : Nat → Int32} {I : Mem} {r : Int32 × Mem} (hC : Cx X E cL_law 4 RL 7 166) (hB : ScrOk X b L sc) (hR : Rt X E cL_law (some .boolean) (some (.int r.1)) r.2) (hf : f_L_law k b L sc I = some r) : V X E 4 16 [(2, .ref (E.2.1 (71))), (1, .ref (E.2.1 (48))), (0, .ref b)] [] I := by
  unfold f_L_law at hf
  refine V_iconst (pc := 16) hC dL_law_16 (v := (nI 0)) (by decide) ?_
  refine V_istore_n (pc := 17) (lv' := [(3, .int (nI 0)), (2, .ref (E.2.1 (71))), (1, .ref (E.2.1 (48))), (0, .ref b)]) hC dL_law_17 rfl (by decide) rfl ?_
  refine V_sub (pc := 18) (lv' := [(0, .ref b), (1, .ref (E.2.1 (48))), (2, .ref (E.2.1 (71))), (3, .int (nI 0))]) [3, 2, 1, 0] rfl ?_
  exact b_L_law_18 hC hB hR k (nI 0) I hf
