/-! what the constructors make -/
def baW (cc q : Nat → Nat) : va_W := [(q 0, .inr (0, [.int 0, .int 0, .ref (q 1), .ref (q 2), .ref (q 3)])), (q 1, .inl (cc 0, 8, .inl (fun _ => 0))), (q 2, .inl (cc 0, 8, .inl (fun _ => 0))), (q 3, .inl (cc 0, 8, .inl (fun _ => 0)))]
def stW (cc q : Nat → Nat) : va_W := [(q 0, .inr (3, [.int 0, .int 1, .int 0, .ref (q 1), .ref (q 2), .ref (q 3), .ref (q 4)])), (q 1, .inl (cc 0, 10, .inl (fun _ => 0))), (q 2, .inl (cc 0, 10, .inl (fun _ => 0))), (q 3, .inl (cc 0, 10, .inl (fun _ => 0))), (q 4, .inr (0, [.int 0, .int 0, .ref (q 5), .ref (q 6), .ref (q 7)])), (q 5, .inl (cc 0, 8, .inl (fun _ => 0))), (q 6, .inl (cc 0, 8, .inl (fun _ => 0))), (q 7, .inl (cc 0, 8, .inl (fun _ => 0)))]
def hiW (cc q : Nat → Nat) : va_W := [(q 0, .inr (1, [.ref (q 1), .int 0])), (q 1, .inl (cc 3, 4, .inr (.inr (.inr (.inr (va_up (va_up (va_up (va_up (fun _ => none) 0 (some (q 2))) 1 (some (q 10))) 2 (some (q 18))) 3 (some (q 26))))))))] ++ stW cc (fun i => q (2 + i)) ++ stW cc (fun i => q (10 + i)) ++ stW cc (fun i => q (18 + i)) ++ stW cc (fun i => q (26 + i))
def txW (cc q : Nat → Nat) : va_W := [(q 0, .inr (4, [.ref (q 1), .int 0])), (q 1, .inl (cc 1, 60, .inl (fun _ => 0)))]
def poW (cc q : Nat → Nat) : va_W := [(q 0, .inr (2, [.int 0, .int 0, .int 0, .int 0, .int 0, .ref (q 1), .ref (q 2), .ref (q 3), .ref (q 4), .int 0, .ref (q 5), .ref (q 17), .int 0])), (q 1, .inl (cc 0, 10, .inl (fun _ => 0))), (q 2, .inl (cc 0, 10, .inl (fun _ => 0))), (q 3, .inl (cc 0, 1024, .inl (fun _ => 0))), (q 4, .inl (cc 0, 1024, .inl (fun _ => 0)))] ++ (q 5, .inl (cc 4, 11, .inr (.inr (.inr (.inr (fun i => if i < 11 then some (q (6 + i)) else none)))))) :: (List.range 11).map (fun i => (q (6 + i), .inl (cc 0, 501, .inl (fun _ => 0)))) ++ [(q 17, .inl (cc 0, 252, .inl (fun _ => 0)))]
theorem stW_congr {cc q q' : Nat → Nat} (h : ∀ k, k < 8 → q k = q' k) : stW cc q = stW cc q' := by
  unfold stW
  rw [h 0 (by decide), h 1 (by decide), h 2 (by decide), h 3 (by decide), h 4 (by decide), h 5 (by decide), h 6 (by decide), h 7 (by decide)]
theorem hiW_congr {cc q q' : Nat → Nat} (h : ∀ k, k < 34 → q k = q' k) : hiW cc q = hiW cc q' := by
  unfold hiW
  rw [h 0 (by decide), h 1 (by decide), h 2 (by decide), h 10 (by decide), h 18 (by decide), h 26 (by decide), stW_congr (q := fun i => q (2 + i)) (q' := fun i => q' (2 + i)) (fun k hk => h _ (by omega)), stW_congr (q := fun i => q (10 + i)) (q' := fun i => q' (10 + i)) (fun k hk => h _ (by omega)), stW_congr (q := fun i => q (18 + i)) (q' := fun i => q' (18 + i)) (fun k hk => h _ (by omega)), stW_congr (q := fun i => q (26 + i)) (q' := fun i => q' (26 + i)) (fun k hk => h _ (by omega))]
theorem txW_congr {cc q q' : Nat → Nat} (h : ∀ k, k < 2 → q k = q' k) : txW cc q = txW cc q' := by
  unfold txW
  rw [h 0 (by decide), h 1 (by decide)]
theorem poW_congr {cc q q' : Nat → Nat} (h : ∀ k, k < 18 → q k = q' k) : poW cc q = poW cc q' := by
  unfold poW
  have e : (fun i => if i < 11 then some (q (6 + i)) else none) = (fun i => if i < 11 then some (q' (6 + i)) else none) := by
    funext i
    by_cases z : i < 11
    · rw [if_pos z, if_pos z, h _ (by omega)]
    · rw [if_neg z, if_neg z]
  have e2 : (List.range 11).map (fun i => ((q (6 + i), .inl (cc 0, 501, .inl (fun _ => 0))) : Nat × va_E)) = (List.range 11).map (fun i => (q' (6 + i), .inl (cc 0, 501, .inl (fun _ => 0)))) := by
    apply List.map_congr_left
    intro i hi
    rw [h _ (by have := List.mem_range.mp hi; omega)]
  rw [e, e2, h 0 (by decide), h 1 (by decide), h 2 (by decide), h 3 (by decide), h 4 (by decide), h 5 (by decide), h 17 (by decide)]
def swW (cc q : Nat → Nat) : va_W := [(q 0, .inr (5, [.ref (q 1), .ref (q 9), .int 0, .ref (q 17), .ref (q 51), .ref (q 53), .int 0]))] ++ stW cc (fun i => q (1 + i)) ++ stW cc (fun i => q (9 + i)) ++ hiW cc (fun i => q (17 + i)) ++ txW cc (fun i => q (51 + i)) ++ poW cc (fun i => q (53 + i))
def moW (cc q : Nat → Nat) : va_W := [(q 0, .inr (6, [.ref (q 1), .ref (q 2), .ref (q 3), .int 0, .int 0, .ref (q 4), .int 0, .int 0, .int 0, .ref (q 5), .ref (q 6), .ref (q 7), .int 0, .ref (q 8), .ref (q 9), .int 0, .ref (q 10), .int 0])), (q 1, .inl (cc 0, 69, .inl (upd (fun _ => 0) 1 1))), (q 2, .inl (cc 0, 276, .inl (fun _ => 0))), (q 3, .inl (cc 0, 69, .inl (fun _ => 0))), (q 4, .inl (cc 1, 60, .inl (fun _ => 0))), (q 5, .inl (cc 0, 10, .inl (fun _ => 0))), (q 6, .inl (cc 0, 10, .inl (fun _ => 0))), (q 7, .inl (cc 0, 10, .inl (fun _ => 0))), (q 8, .inl (cc 2, 1024, .inl (fun _ => 0))), (q 9, .inl (cc 0, 10, .inl (fun _ => 0))), (q 10, .inl (cc 0, 1024, .inl (fun _ => 0)))]
theorem oi_i : Cond.instanceMethod objectInit ∈ TB := tb_at 18 (by decide +kernel) (by decide +kernel)
theorem oi_c : Cond.code objectInit ⟨#[0xb1]⟩ 1 none ∈ TB := tb_at 19 (by decide +kernel) (by decide +kernel)
theorem ac_int : Cond.arrayClass .int ∈ TB := tb_at 53 (by decide +kernel) (by decide +kernel)
theorem ac_char : Cond.arrayClass .char ∈ TB := tb_at 118 (by decide +kernel) (by decide +kernel)
theorem ac_boolean : Cond.arrayClass .boolean ∈ TB := tb_at 617 (by decide +kernel) (by decide +kernel)
theorem iz_L : Cond.initialized RL ∈ TB := tb_at 0 (by decide +kernel) (by decide +kernel)
theorem iz_X5 : Cond.initialized RX5 ∈ TB := tb_at 1 (by decide +kernel) (by decide +kernel)
theorem iz_X3 : Cond.initialized RX3 ∈ TB := tb_at 2 (by decide +kernel) (by decide +kernel)
theorem iz_X0 : Cond.initialized RX0 ∈ TB := tb_at 3 (by decide +kernel) (by decide +kernel)
theorem iz_X1 : Cond.initialized RX1 ∈ TB := tb_at 4 (by decide +kernel) (by decide +kernel)
theorem iz_X4 : Cond.initialized RX4 ∈ TB := tb_at 5 (by decide +kernel) (by decide +kernel)
theorem iz_X2 : Cond.initialized RX2 ∈ TB := tb_at 6 (by decide +kernel) (by decide +kernel)
theorem iz_X6 : Cond.initialized RX6 ∈ TB := tb_at 7 (by decide +kernel) (by decide +kernel)
theorem iz_J10 : Cond.initialized RJ10 ∈ TB := tb_at 8 (by decide +kernel) (by decide +kernel)
theorem iz_J6 : Cond.initialized RJ6 ∈ TB := tb_at 9 (by decide +kernel) (by decide +kernel)
theorem iz_J7 : Cond.initialized RJ7 ∈ TB := tb_at 10 (by decide +kernel) (by decide +kernel)
theorem iz_J9 : Cond.initialized RJ9 ∈ TB := tb_at 11 (by decide +kernel) (by decide +kernel)
theorem cl_L_7 : Cond.classLink RL 7 RX5 ∈ TB := tb_at 12 (by decide +kernel) (by decide +kernel)
theorem in_X5 : Cond.instantiable RX5 7 ∈ TB := tb_at 13 (by decide +kernel) (by decide +kernel)
theorem ol_X5 : Cond.methodLink RX5 1 objectInit ∈ TB := tb_at 17 (by decide +kernel) (by decide +kernel)
theorem cl_X5_7 : Cond.classLink RX5 7 RX3 ∈ TB := tb_at 20 (by decide +kernel) (by decide +kernel)
theorem in_X3 : Cond.instantiable RX3 7 ∈ TB := tb_at 21 (by decide +kernel) (by decide +kernel)
theorem ol_X3 : Cond.methodLink RX3 3 objectInit ∈ TB := tb_at 25 (by decide +kernel) (by decide +kernel)
theorem cl_X3_25 : Cond.classLink RX3 25 RX0 ∈ TB := tb_at 26 (by decide +kernel) (by decide +kernel)
theorem in_X0 : Cond.instantiable RX0 5 ∈ TB := tb_at 27 (by decide +kernel) (by decide +kernel)
theorem ol_X0 : Cond.methodLink RX0 3 objectInit ∈ TB := tb_at 31 (by decide +kernel) (by decide +kernel)
theorem cl_X5_19 : Cond.classLink RX5 19 RX1 ∈ TB := tb_at 87 (by decide +kernel) (by decide +kernel)
theorem in_X1 : Cond.instantiable RX1 2 ∈ TB := tb_at 88 (by decide +kernel) (by decide +kernel)
theorem ol_X1 : Cond.methodLink RX1 3 objectInit ∈ TB := tb_at 92 (by decide +kernel) (by decide +kernel)
theorem cl_X1_9 : Cond.classLink RX1 9 RX3 ∈ TB := tb_at 93 (by decide +kernel) (by decide +kernel)
theorem cl_X5_26 : Cond.classLink RX5 26 RX4 ∈ TB := tb_at 104 (by decide +kernel) (by decide +kernel)
theorem in_X4 : Cond.instantiable RX4 2 ∈ TB := tb_at 105 (by decide +kernel) (by decide +kernel)
theorem ol_X4 : Cond.methodLink RX4 3 objectInit ∈ TB := tb_at 109 (by decide +kernel) (by decide +kernel)
theorem cl_X5_33 : Cond.classLink RX5 33 RX2 ∈ TB := tb_at 119 (by decide +kernel) (by decide +kernel)
theorem in_X2 : Cond.instantiable RX2 13 ∈ TB := tb_at 120 (by decide +kernel) (by decide +kernel)
theorem ol_X2 : Cond.methodLink RX2 3 objectInit ∈ TB := tb_at 124 (by decide +kernel) (by decide +kernel)
theorem cl_X2_24 : Cond.classLink RX2 24 ("[" ++ (FieldType.array .int).toString) ∈ TB := tb_at 125 (by decide +kernel) (by decide +kernel)
theorem cl_L_10 : Cond.classLink RL 10 RX6 ∈ TB := tb_at 556 (by decide +kernel) (by decide +kernel)
theorem in_X6 : Cond.instantiable RX6 18 ∈ TB := tb_at 557 (by decide +kernel) (by decide +kernel)
theorem ol_X6 : Cond.methodLink RX6 1 objectInit ∈ TB := tb_at 561 (by decide +kernel) (by decide +kernel)
theorem li_L_9 : Cond.methodLink RL 9 yX5_init ∈ TB ∧ Cond.instanceMethod yX5_init ∈ TB ∧ Cond.initialized (yX5_init).cls ∈ TB ∧ Cond.code yX5_init cX5_init 1 none ∈ TB := ⟨tb_at 14 (by decide +kernel) (by decide +kernel), tb_at 15 (by decide +kernel) (by decide +kernel), tb_at 1 (by decide +kernel) (by decide +kernel), tb_at 16 (by decide +kernel) (by decide +kernel)⟩
theorem li_X5_9 : Cond.methodLinkNest RX5 9 yX3_init "SwingWeights" ∈ nestWs ∧ Cond.instanceMethod yX3_init ∈ TB ∧ Cond.initialized (yX3_init).cls ∈ TB ∧ Cond.code yX3_init cX3_init 1 none ∈ TB := ⟨List.mem_of_getElem? (i := 18) (by decide +kernel), tb_at 23 (by decide +kernel) (by decide +kernel), tb_at 2 (by decide +kernel) (by decide +kernel), tb_at 24 (by decide +kernel) (by decide +kernel)⟩
theorem li_X3_27 : Cond.methodLinkNest RX3 27 yX0_init "SwingWeights" ∈ nestWs ∧ Cond.instanceMethod yX0_init ∈ TB ∧ Cond.initialized (yX0_init).cls ∈ TB ∧ Cond.code yX0_init cX0_init 1 none ∈ TB := ⟨List.mem_of_getElem? (i := 19) (by decide +kernel), tb_at 29 (by decide +kernel) (by decide +kernel), tb_at 3 (by decide +kernel) (by decide +kernel), tb_at 30 (by decide +kernel) (by decide +kernel)⟩
theorem li_X5_21 : Cond.methodLink RX5 21 yX1_init ∈ TB ∧ Cond.instanceMethod yX1_init ∈ TB ∧ Cond.initialized (yX1_init).cls ∈ TB ∧ Cond.code yX1_init cX1_init 2 none ∈ TB := ⟨tb_at 89 (by decide +kernel) (by decide +kernel), tb_at 90 (by decide +kernel) (by decide +kernel), tb_at 4 (by decide +kernel) (by decide +kernel), tb_at 91 (by decide +kernel) (by decide +kernel)⟩
theorem li_X1_17 : Cond.methodLinkNest RX1 17 yX3_init "SwingWeights" ∈ nestWs ∧ Cond.instanceMethod yX3_init ∈ TB ∧ Cond.initialized (yX3_init).cls ∈ TB ∧ Cond.code yX3_init cX3_init 1 none ∈ TB := ⟨List.mem_of_getElem? (i := 20) (by decide +kernel), tb_at 23 (by decide +kernel) (by decide +kernel), tb_at 2 (by decide +kernel) (by decide +kernel), tb_at 24 (by decide +kernel) (by decide +kernel)⟩
theorem li_X5_28 : Cond.methodLinkNest RX5 28 yX4_init "SwingWeights" ∈ nestWs ∧ Cond.instanceMethod yX4_init ∈ TB ∧ Cond.initialized (yX4_init).cls ∈ TB ∧ Cond.code yX4_init cX4_init 1 none ∈ TB := ⟨List.mem_of_getElem? (i := 21) (by decide +kernel), tb_at 107 (by decide +kernel) (by decide +kernel), tb_at 5 (by decide +kernel) (by decide +kernel), tb_at 108 (by decide +kernel) (by decide +kernel)⟩
theorem li_X5_35 : Cond.methodLinkNest RX5 35 yX2_init "SwingWeights" ∈ nestWs ∧ Cond.instanceMethod yX2_init ∈ TB ∧ Cond.initialized (yX2_init).cls ∈ TB ∧ Cond.code yX2_init cX2_init 1 none ∈ TB := ⟨List.mem_of_getElem? (i := 22) (by decide +kernel), tb_at 122 (by decide +kernel) (by decide +kernel), tb_at 6 (by decide +kernel) (by decide +kernel), tb_at 123 (by decide +kernel) (by decide +kernel)⟩
theorem li_L_12 : Cond.methodLink RL 12 yX6_init ∈ TB ∧ Cond.instanceMethod yX6_init ∈ TB ∧ Cond.initialized (yX6_init).cls ∈ TB ∧ Cond.code yX6_init cX6_init 1 none ∈ TB := ⟨tb_at 558 (by decide +kernel) (by decide +kernel), tb_at 559 (by decide +kernel) (by decide +kernel), tb_at 7 (by decide +kernel) (by decide +kernel), tb_at 560 (by decide +kernel) (by decide +kernel)⟩
theorem yi_X0 : (yX0_init).name = "<init>" ∧ (yX0_init).cls ≠ "java/lang/invoke/MethodHandle" ∧ (yX0_init).cls ≠ "java/lang/invoke/VarHandle" ∧ (parseMethodDescriptor (yX0_init).desc).map (fun d => d.parameters.length) = some 0 := ⟨rfl, by decide +kernel, by decide +kernel, by decide +kernel⟩
theorem yi_X1 : (yX1_init).name = "<init>" ∧ (yX1_init).cls ≠ "java/lang/invoke/MethodHandle" ∧ (yX1_init).cls ≠ "java/lang/invoke/VarHandle" ∧ (parseMethodDescriptor (yX1_init).desc).map (fun d => d.parameters.length) = some 0 := ⟨rfl, by decide +kernel, by decide +kernel, by decide +kernel⟩
theorem yi_X2 : (yX2_init).name = "<init>" ∧ (yX2_init).cls ≠ "java/lang/invoke/MethodHandle" ∧ (yX2_init).cls ≠ "java/lang/invoke/VarHandle" ∧ (parseMethodDescriptor (yX2_init).desc).map (fun d => d.parameters.length) = some 0 := ⟨rfl, by decide +kernel, by decide +kernel, by decide +kernel⟩
theorem yi_X3 : (yX3_init).name = "<init>" ∧ (yX3_init).cls ≠ "java/lang/invoke/MethodHandle" ∧ (yX3_init).cls ≠ "java/lang/invoke/VarHandle" ∧ (parseMethodDescriptor (yX3_init).desc).map (fun d => d.parameters.length) = some 0 := ⟨rfl, by decide +kernel, by decide +kernel, by decide +kernel⟩
theorem yi_X4 : (yX4_init).name = "<init>" ∧ (yX4_init).cls ≠ "java/lang/invoke/MethodHandle" ∧ (yX4_init).cls ≠ "java/lang/invoke/VarHandle" ∧ (parseMethodDescriptor (yX4_init).desc).map (fun d => d.parameters.length) = some 0 := ⟨rfl, by decide +kernel, by decide +kernel, by decide +kernel⟩
theorem yi_X5 : (yX5_init).name = "<init>" ∧ (yX5_init).cls ≠ "java/lang/invoke/MethodHandle" ∧ (yX5_init).cls ≠ "java/lang/invoke/VarHandle" ∧ (parseMethodDescriptor (yX5_init).desc).map (fun d => d.parameters.length) = some 0 := ⟨rfl, by decide +kernel, by decide +kernel, by decide +kernel⟩
theorem yi_X6 : (yX6_init).name = "<init>" ∧ (yX6_init).cls ≠ "java/lang/invoke/MethodHandle" ∧ (yX6_init).cls ≠ "java/lang/invoke/VarHandle" ∧ (parseMethodDescriptor (yX6_init).desc).map (fun d => d.parameters.length) = some 0 := ⟨rfl, by decide +kernel, by decide +kernel, by decide +kernel⟩
set_option maxHeartbeats 4000000 in
set_option maxRecDepth 100000 in
theorem k_X0_init {D : va_G} {cc : Nat → Nat} : Cn D cc yX0_init cX0_init 1 1 12 3 24 0 [.int 0, .int 0, .null, .null, .null] (baW cc) [(cc 0, .int)] := by
  refine Cn_of (by decide) rfl (by decide) (fun X h0 hC0 hnm hR => ?_)
  have hC : CN X D cc cX0_init 1 RX0 1 12 3 24 := hC0
  refine N_aload_n (pc := 0) hC 0 dX0_init_0 rfl rfl ?_
  refine N_objinit (pc := 1) hC ol_X0 oi_i oi_c (by decide) (Nat.le_of_ble_eq_true rfl) dX0_init_1 ?_
  refine N_aload_n (pc := 4) hC 0 dX0_init_4 rfl rfl ?_
  refine N_bipush (pc := 5) hC dX0_init_5 (v := (8 : Int32)) (by decide) ?_
  refine N_newi (pc := 7) (N' := 8) hC ac_int (by decide) (by decide) (by decide) (by decide) (by decide) dX0_init_7 (fun p1 hA0 => ?_)
  refine N_putF (pc := 9) (f := 2) (ws' := ([(h0, .inr (0, [.int 0, .int 0, .ref p1, .null, .null]))] ++ [(p1, .inl (cc 0, 8, .inl (fun _ => 0)))])) (ty := .array .int) hC 0 tyX0 hnm rfl rfl inTB_X0 tyX0_ok nmX0 (by decide) (tb_at 36 (by decide +kernel) (by decide +kernel)) rfl rfl rfl (by decide +kernel) rfl rfl (by simp) rfl dX0_init_9 ?_
  refine N_aload_n (pc := 12) hC 0 dX0_init_12 rfl rfl ?_
  refine N_bipush (pc := 13) hC dX0_init_13 (v := (8 : Int32)) (by decide) ?_
  refine N_newi (pc := 15) (N' := 8) hC ac_int (by decide) (by decide) (by decide) (by decide) (by decide) dX0_init_15 (fun p2 hA0 => ?_)
  refine N_putF (pc := 17) (f := 3) (ws' := (([(h0, .inr (0, [.int 0, .int 0, .ref p1, .ref p2, .null]))] ++ [(p1, .inl (cc 0, 8, .inl (fun _ => 0)))]) ++ [(p2, .inl (cc 0, 8, .inl (fun _ => 0)))])) (ty := .array .int) hC 0 tyX0 hnm rfl rfl inTB_X0 tyX0_ok nmX0 (by decide) (tb_at 38 (by decide +kernel) (by decide +kernel)) rfl rfl rfl (by decide +kernel) rfl rfl (by simp) rfl dX0_init_17 ?_
  refine N_aload_n (pc := 20) hC 0 dX0_init_20 rfl rfl ?_
  refine N_bipush (pc := 21) hC dX0_init_21 (v := (8 : Int32)) (by decide) ?_
  refine N_newi (pc := 23) (N' := 8) hC ac_int (by decide) (by decide) (by decide) (by decide) (by decide) dX0_init_23 (fun p3 hA0 => ?_)
  refine N_putF (pc := 25) (f := 4) (ws' := ((([(h0, .inr (0, [.int 0, .int 0, .ref p1, .ref p2, .ref p3]))] ++ [(p1, .inl (cc 0, 8, .inl (fun _ => 0)))]) ++ [(p2, .inl (cc 0, 8, .inl (fun _ => 0)))]) ++ [(p3, .inl (cc 0, 8, .inl (fun _ => 0)))])) (ty := .array .int) hC 0 tyX0 hnm rfl rfl inTB_X0 tyX0_ok nmX0 (by decide) (tb_at 40 (by decide +kernel) (by decide +kernel)) rfl rfl rfl (by decide +kernel) rfl rfl (by simp) rfl dX0_init_25 ?_
  exact hR _ _ _ (fun k => ([h0, p1, p2, p3] : List Nat).getD k 0) _ rfl (by rfl) hA0 dX0_init_28
set_option maxHeartbeats 4000000 in
set_option maxRecDepth 100000 in
theorem k_X3_init {D : va_G} {cc : Nat → Nat} : Cn D cc yX3_init cX3_init 1 2 32 7 59 3 [.int 0, .int 0, .int 0, .null, .null, .null, .null] (stW cc) [(cc 0, .int)] := by
  refine Cn_of (by decide) rfl (by decide) (fun X h0 hC0 hnm hR => ?_)
  have hC : CN X D cc cX3_init 1 RX3 2 32 7 59 := hC0
  refine N_aload_n (pc := 0) hC 0 dX3_init_0 rfl rfl ?_
  refine N_objinit (pc := 1) hC ol_X3 oi_i oi_c (by decide) (Nat.le_of_ble_eq_true rfl) dX3_init_1 ?_
  refine N_aload_n (pc := 4) hC 0 dX3_init_4 rfl rfl ?_
  refine N_iconst (pc := 5) hC dX3_init_5 (v := (1 : Int32)) (by decide) ?_
  refine N_put (pc := 6) (f := 1) (ws' := [(h0, .inr (3, [.int 0, .int 1, .int 0, .null, .null, .null, .null]))]) (ty := .int) hC 0 tyX3 rfl rfl inTB_X3 tyX3_ok nmX3 (by decide) (tb_at 57 (by decide +kernel) (by decide +kernel)) rfl rfl (by decide +kernel) rfl rfl (by simp) rfl dX3_init_6 ?_
  refine N_aload_n (pc := 9) hC 0 dX3_init_9 rfl rfl ?_
  refine N_bipush (pc := 10) hC dX3_init_10 (v := (10 : Int32)) (by decide) ?_
  refine N_newi (pc := 12) (N' := 10) hC ac_int (by decide) (by decide) (by decide) (by decide) (by decide) dX3_init_12 (fun p1 hA0 => ?_)
  refine N_putF (pc := 14) (f := 3) (ws' := ([(h0, .inr (3, [.int 0, .int 1, .int 0, .ref p1, .null, .null, .null]))] ++ [(p1, .inl (cc 0, 10, .inl (fun _ => 0)))])) (ty := .array .int) hC 0 tyX3 hnm rfl rfl inTB_X3 tyX3_ok nmX3 (by decide) (tb_at 63 (by decide +kernel) (by decide +kernel)) rfl rfl rfl (by decide +kernel) rfl rfl (by simp) rfl dX3_init_14 ?_
  refine N_aload_n (pc := 17) hC 0 dX3_init_17 rfl rfl ?_
  refine N_bipush (pc := 18) hC dX3_init_18 (v := (10 : Int32)) (by decide) ?_
  refine N_newi (pc := 20) (N' := 10) hC ac_int (by decide) (by decide) (by decide) (by decide) (by decide) dX3_init_20 (fun p2 hA0 => ?_)
  refine N_putF (pc := 22) (f := 4) (ws' := (([(h0, .inr (3, [.int 0, .int 1, .int 0, .ref p1, .ref p2, .null, .null]))] ++ [(p1, .inl (cc 0, 10, .inl (fun _ => 0)))]) ++ [(p2, .inl (cc 0, 10, .inl (fun _ => 0)))])) (ty := .array .int) hC 0 tyX3 hnm rfl rfl inTB_X3 tyX3_ok nmX3 (by decide) (tb_at 65 (by decide +kernel) (by decide +kernel)) rfl rfl rfl (by decide +kernel) rfl rfl (by simp) rfl dX3_init_22 ?_
  refine N_aload_n (pc := 25) hC 0 dX3_init_25 rfl rfl ?_
  refine N_bipush (pc := 26) hC dX3_init_26 (v := (10 : Int32)) (by decide) ?_
  refine N_newi (pc := 28) (N' := 10) hC ac_int (by decide) (by decide) (by decide) (by decide) (by decide) dX3_init_28 (fun p3 hA0 => ?_)
  refine N_putF (pc := 30) (f := 5) (ws' := ((([(h0, .inr (3, [.int 0, .int 1, .int 0, .ref p1, .ref p2, .ref p3, .null]))] ++ [(p1, .inl (cc 0, 10, .inl (fun _ => 0)))]) ++ [(p2, .inl (cc 0, 10, .inl (fun _ => 0)))]) ++ [(p3, .inl (cc 0, 10, .inl (fun _ => 0)))])) (ty := .array .int) hC 0 tyX3 hnm rfl rfl inTB_X3 tyX3_ok nmX3 (by decide) (tb_at 68 (by decide +kernel) (by decide +kernel)) rfl rfl rfl (by decide +kernel) rfl rfl (by simp) rfl dX3_init_30 ?_
  refine N_aload_n (pc := 33) hC 0 dX3_init_33 rfl rfl ?_
  refine N_new (pc := 34) (ci := 0) (fs := [.int 0, .int 0, .null, .null, .null]) (C := RX0) (T := TX0) (N := 5) hC tyX0 inTB_X0 tyX0_ok cl_X3_25 in_X0 iz_X0 rfl (by decide +kernel) (by decide) (by decide) dX3_init_34 (fun p4 => ?_)
  refine N_dup (pc := 37) hC dX3_init_37 rfl ?_
  refine N_callIN (pc := 38) hC (k_X0_init (D := D) (cc := cc)) li_X3_27 yi_X0 (Nat.le_of_ble_eq_true rfl) (by decide) (by decide) dX3_init_38 (fun qq5 hq hK5 => ?_)
  subst hq
  refine N_putF (pc := 41) (f := 6) (ws' := (((([(h0, .inr (3, [.int 0, .int 1, .int 0, .ref p1, .ref p2, .ref p3, .ref (qq5 0)]))] ++ [(p1, .inl (cc 0, 10, .inl (fun _ => 0)))]) ++ [(p2, .inl (cc 0, 10, .inl (fun _ => 0)))]) ++ [(p3, .inl (cc 0, 10, .inl (fun _ => 0)))]) ++ baW cc qq5)) (ty := .object "SwingWeights$Ballots") hC 0 tyX3 hnm rfl rfl inTB_X3 tyX3_ok nmX3 (by decide) (tb_at 70 (by decide +kernel) (by decide +kernel)) rfl rfl rfl (by decide +kernel) rfl rfl (by simp) rfl dX3_init_41 ?_
  exact hR _ _ _ (fun k => ([h0, p1, p2, p3, qq5 0, qq5 1, qq5 2, qq5 3] : List Nat).getD k 0) _ rfl (by rfl) hA0 dX3_init_44
set_option maxHeartbeats 4000000 in
set_option maxRecDepth 100000 in
theorem k_X1_init {D : va_G} {cc : Nat → Nat} : Cn D cc yX1_init cX1_init 2 3 52 33 268 1 [.null, .int 0] (hiW cc) [(cc 0, .int), (cc 3, .object "SwingWeights$State")] := by
  refine Cn_of (by decide) rfl (by decide) (fun X h0 hC0 hnm hR => ?_)
  have hC : CN X D cc cX1_init 2 RX1 3 52 33 268 := hC0
  refine N_aload_n (pc := 0) hC 0 dX1_init_0 rfl rfl ?_
  refine N_objinit (pc := 1) hC ol_X1 oi_i oi_c (by decide) (Nat.le_of_ble_eq_true rfl) dX1_init_1 ?_
  refine N_aload_n (pc := 4) hC 0 dX1_init_4 rfl rfl ?_
  refine N_iconst (pc := 5) hC dX1_init_5 (v := (4 : Int32)) (by decide) ?_
  refine N_newq (pc := 6) (N' := 4) hC cl_X1_9 (by decide) (by decide) (by decide) (by decide) (by decide) dX1_init_6 (fun p1 hA3 => ?_)
  refine N_putF (pc := 9) (f := 0) (ws' := ([(h0, .inr (1, [.ref p1, .int 0]))] ++ [(p1, .inl (cc 3, 4, .inr (.inr (.inr (.inr (fun _ => none))))))])) (ty := .array (.object "SwingWeights$State")) hC 0 tyX1 hnm rfl rfl inTB_X1 tyX1_ok nmX1 (by decide) (tb_at 96 (by decide +kernel) (by decide +kernel)) rfl rfl rfl (by decide +kernel) rfl rfl (by simp) rfl dX1_init_9 ?_
  refine N_iconst (pc := 12) hC dX1_init_12 (v := (0 : Int32)) (by decide) ?_
  refine N_istore_n (pc := 13) (lv' := [(1, .int 0), (0, .ref h0)]) hC dX1_init_13 rfl (by decide) rfl ?_
  refine N_iload_n (pc := 14) hC 0 dX1_init_14 rfl rfl ?_
  refine N_iconst (pc := 15) hC dX1_init_15 (v := (4 : Int32)) (by decide) ?_
  refine N_ge_f (pc := 16) hC 38 dX1_init_16 (by decide) (by decide) ?_
  refine N_aload_n (pc := 19) hC 1 dX1_init_19 rfl rfl ?_
  refine N_get (pc := 20) (f := 0) hC 0 rfl rfl inTB_X1 (by decide) (tb_at 96 (by decide +kernel) (by decide +kernel)) rfl rfl dX1_init_20 ?_
  refine N_iload_n (pc := 23) hC 0 dX1_init_23 rfl rfl ?_
  refine N_new (pc := 24) (ci := 3) (fs := [.int 0, .int 0, .int 0, .null, .null, .null, .null]) (C := RX3) (T := TX3) (N := 7) hC tyX3 inTB_X3 tyX3_ok cl_X1_9 in_X3 iz_X3 rfl (by decide +kernel) (by decide) (by decide) dX1_init_24 (fun p2 => ?_)
  refine N_dup (pc := 27) hC dX1_init_27 rfl ?_
  refine N_callIN (pc := 28) hC (k_X3_init (D := D) (cc := cc)) li_X1_17 yi_X3 (Nat.le_of_ble_eq_true rfl) (by decide) (by decide) dX1_init_28 (fun qq3 hq hK3 => ?_)
  subst hq
  refine N_aast (pc := 31) (ws' := (([(h0, .inr (1, [.ref p1, .int 0]))] ++ [(p1, .inl (cc 3, 4, .inr (.inr (.inr (.inr (va_up (fun _ => none) 0 (some (qq3 0))))))))]) ++ stW cc qq3)) hC 1 2 hA3 rfl rfl (vp_in_iff.mpr (by decide)) rfl dX1_init_31 ?_
  refine N_iinc (pc := 32) (v := 1) (lv' := [(1, .int 1), (0, .ref h0)]) hC 0 dX1_init_32 rfl (by decide) (by decide) rfl ?_
  refine N_goto (pc := 35) (tgt := 14) hC dX1_init_35 (by decide) ?_
  refine N_iload_n (pc := 14) hC 0 dX1_init_14 rfl rfl ?_
  refine N_iconst (pc := 15) hC dX1_init_15 (v := (4 : Int32)) (by decide) ?_
  refine N_ge_f (pc := 16) hC 38 dX1_init_16 (by decide) (by decide) ?_
  refine N_aload_n (pc := 19) hC 1 dX1_init_19 rfl rfl ?_
  refine N_get (pc := 20) (f := 0) hC 0 rfl rfl inTB_X1 (by decide) (tb_at 96 (by decide +kernel) (by decide +kernel)) rfl rfl dX1_init_20 ?_
  refine N_iload_n (pc := 23) hC 0 dX1_init_23 rfl rfl ?_
  refine N_new (pc := 24) (ci := 3) (fs := [.int 0, .int 0, .int 0, .null, .null, .null, .null]) (C := RX3) (T := TX3) (N := 7) hC tyX3 inTB_X3 tyX3_ok cl_X1_9 in_X3 iz_X3 rfl (by decide +kernel) (by decide) (by decide) dX1_init_24 (fun p4 => ?_)
  refine N_dup (pc := 27) hC dX1_init_27 rfl ?_
  refine N_callIN (pc := 28) hC (k_X3_init (D := D) (cc := cc)) li_X1_17 yi_X3 (Nat.le_of_ble_eq_true rfl) (by decide) (by decide) dX1_init_28 (fun qq5 hq hK5 => ?_)
  subst hq
  refine N_aast (pc := 31) (ws' := ((([(h0, .inr (1, [.ref p1, .int 0]))] ++ [(p1, .inl (cc 3, 4, .inr (.inr (.inr (.inr (va_up (va_up (fun _ => none) 0 (some (qq3 0))) 1 (some (qq5 0))))))))]) ++ stW cc qq3) ++ stW cc qq5)) hC 1 10 hA3 rfl rfl (vp_in_iff.mpr (by decide)) rfl dX1_init_31 ?_
  refine N_iinc (pc := 32) (v := 2) (lv' := [(1, .int 2), (0, .ref h0)]) hC 0 dX1_init_32 rfl (by decide) (by decide) rfl ?_
  refine N_goto (pc := 35) (tgt := 14) hC dX1_init_35 (by decide) ?_
  refine N_iload_n (pc := 14) hC 0 dX1_init_14 rfl rfl ?_
  refine N_iconst (pc := 15) hC dX1_init_15 (v := (4 : Int32)) (by decide) ?_
  refine N_ge_f (pc := 16) hC 38 dX1_init_16 (by decide) (by decide) ?_
  refine N_aload_n (pc := 19) hC 1 dX1_init_19 rfl rfl ?_
  refine N_get (pc := 20) (f := 0) hC 0 rfl rfl inTB_X1 (by decide) (tb_at 96 (by decide +kernel) (by decide +kernel)) rfl rfl dX1_init_20 ?_
  refine N_iload_n (pc := 23) hC 0 dX1_init_23 rfl rfl ?_
  refine N_new (pc := 24) (ci := 3) (fs := [.int 0, .int 0, .int 0, .null, .null, .null, .null]) (C := RX3) (T := TX3) (N := 7) hC tyX3 inTB_X3 tyX3_ok cl_X1_9 in_X3 iz_X3 rfl (by decide +kernel) (by decide) (by decide) dX1_init_24 (fun p6 => ?_)
  refine N_dup (pc := 27) hC dX1_init_27 rfl ?_
  refine N_callIN (pc := 28) hC (k_X3_init (D := D) (cc := cc)) li_X1_17 yi_X3 (Nat.le_of_ble_eq_true rfl) (by decide) (by decide) dX1_init_28 (fun qq7 hq hK7 => ?_)
  subst hq
  refine N_aast (pc := 31) (ws' := (((([(h0, .inr (1, [.ref p1, .int 0]))] ++ [(p1, .inl (cc 3, 4, .inr (.inr (.inr (.inr (va_up (va_up (va_up (fun _ => none) 0 (some (qq3 0))) 1 (some (qq5 0))) 2 (some (qq7 0))))))))]) ++ stW cc qq3) ++ stW cc qq5) ++ stW cc qq7)) hC 1 18 hA3 rfl rfl (vp_in_iff.mpr (by decide)) rfl dX1_init_31 ?_
  refine N_iinc (pc := 32) (v := 3) (lv' := [(1, .int 3), (0, .ref h0)]) hC 0 dX1_init_32 rfl (by decide) (by decide) rfl ?_
  refine N_goto (pc := 35) (tgt := 14) hC dX1_init_35 (by decide) ?_
  refine N_iload_n (pc := 14) hC 0 dX1_init_14 rfl rfl ?_
  refine N_iconst (pc := 15) hC dX1_init_15 (v := (4 : Int32)) (by decide) ?_
  refine N_ge_f (pc := 16) hC 38 dX1_init_16 (by decide) (by decide) ?_
  refine N_aload_n (pc := 19) hC 1 dX1_init_19 rfl rfl ?_
  refine N_get (pc := 20) (f := 0) hC 0 rfl rfl inTB_X1 (by decide) (tb_at 96 (by decide +kernel) (by decide +kernel)) rfl rfl dX1_init_20 ?_
  refine N_iload_n (pc := 23) hC 0 dX1_init_23 rfl rfl ?_
  refine N_new (pc := 24) (ci := 3) (fs := [.int 0, .int 0, .int 0, .null, .null, .null, .null]) (C := RX3) (T := TX3) (N := 7) hC tyX3 inTB_X3 tyX3_ok cl_X1_9 in_X3 iz_X3 rfl (by decide +kernel) (by decide) (by decide) dX1_init_24 (fun p8 => ?_)
  refine N_dup (pc := 27) hC dX1_init_27 rfl ?_
  refine N_callIN (pc := 28) hC (k_X3_init (D := D) (cc := cc)) li_X1_17 yi_X3 (Nat.le_of_ble_eq_true rfl) (by decide) (by decide) dX1_init_28 (fun qq9 hq hK9 => ?_)
  subst hq
  refine N_aast (pc := 31) (ws' := ((((([(h0, .inr (1, [.ref p1, .int 0]))] ++ [(p1, .inl (cc 3, 4, .inr (.inr (.inr (.inr (va_up (va_up (va_up (va_up (fun _ => none) 0 (some (qq3 0))) 1 (some (qq5 0))) 2 (some (qq7 0))) 3 (some (qq9 0))))))))]) ++ stW cc qq3) ++ stW cc qq5) ++ stW cc qq7) ++ stW cc qq9)) hC 1 26 hA3 rfl rfl (vp_in_iff.mpr (by decide)) rfl dX1_init_31 ?_
  refine N_iinc (pc := 32) (v := 4) (lv' := [(1, .int 4), (0, .ref h0)]) hC 0 dX1_init_32 rfl (by decide) (by decide) rfl ?_
  refine N_goto (pc := 35) (tgt := 14) hC dX1_init_35 (by decide) ?_
  refine N_iload_n (pc := 14) hC 0 dX1_init_14 rfl rfl ?_
  refine N_iconst (pc := 15) hC dX1_init_15 (v := (4 : Int32)) (by decide) ?_
  refine N_ge_t (pc := 16) (tgt := 38) hC dX1_init_16 (by decide) (by decide) ?_
  exact hR _ _ _ (fun k => ([h0, p1, qq3 0, qq3 1, qq3 2, qq3 3, qq3 4, qq3 5, qq3 6, qq3 7, qq5 0, qq5 1, qq5 2, qq5 3, qq5 4, qq5 5, qq5 6, qq5 7, qq7 0, qq7 1, qq7 2, qq7 3, qq7 4, qq7 5, qq7 6, qq7 7, qq9 0, qq9 1, qq9 2, qq9 3, qq9 4, qq9 5, qq9 6, qq9 7] : List Nat).getD k 0) _ rfl (by rfl) (va_K.app (hK3.sub [0] rfl) hA3) dX1_init_38
set_option maxHeartbeats 4000000 in
set_option maxRecDepth 100000 in
theorem k_X4_init {D : va_G} {cc : Nat → Nat} : Cn D cc yX4_init cX4_init 1 1 12 1 60 4 [.null, .int 0] (txW cc) [(cc 1, .char)] := by
  refine Cn_of (by decide) rfl (by decide) (fun X h0 hC0 hnm hR => ?_)
  have hC : CN X D cc cX4_init 1 RX4 1 12 1 60 := hC0
  refine N_aload_n (pc := 0) hC 0 dX4_init_0 rfl rfl ?_
  refine N_objinit (pc := 1) hC ol_X4 oi_i oi_c (by decide) (Nat.le_of_ble_eq_true rfl) dX4_init_1 ?_
  refine N_aload_n (pc := 4) hC 0 dX4_init_4 rfl rfl ?_
  refine N_bipush (pc := 5) hC dX4_init_5 (v := (60 : Int32)) (by decide) ?_
  refine N_newc (pc := 7) (N' := 60) hC ac_char (by decide) (by decide) (by decide) (by decide) (by decide) dX4_init_7 (fun p1 hA1 => ?_)
  refine N_putF (pc := 9) (f := 0) (ws' := ([(h0, .inr (4, [.ref p1, .int 0]))] ++ [(p1, .inl (cc 1, 60, .inl (fun _ => 0)))])) (ty := .array .char) hC 0 tyX4 hnm rfl rfl inTB_X4 tyX4_ok nmX4 (by decide) (tb_at 110 (by decide +kernel) (by decide +kernel)) rfl rfl rfl (by decide +kernel) rfl rfl (by simp) rfl dX4_init_9 ?_
  exact hR _ _ _ (fun k => ([h0, p1] : List Nat).getD k 0) _ rfl (by rfl) hA1 dX4_init_12
set_option maxHeartbeats 4000000 in
set_option maxRecDepth 100000 in
theorem k_X2_init {D : va_G} {cc : Nat → Nat} : Cn D cc yX2_init cX2_init 1 1 12 17 7842 2 [.int 0, .int 0, .int 0, .int 0, .int 0, .null, .null, .null, .null, .int 0, .null, .null, .int 0] (poW cc) [(cc 0, .int), (cc 4, .array .int)] := by
  refine Cn_of (by decide) rfl (by decide) (fun X h0 hC0 hnm hR => ?_)
  have hC : CN X D cc cX2_init 1 RX2 1 12 17 7842 := hC0
  refine N_aload_n (pc := 0) hC 0 dX2_init_0 rfl rfl ?_
  refine N_objinit (pc := 1) hC ol_X2 oi_i oi_c (by decide) (Nat.le_of_ble_eq_true rfl) dX2_init_1 ?_
  refine N_aload_n (pc := 4) hC 0 dX2_init_4 rfl rfl ?_
  refine N_bipush (pc := 5) hC dX2_init_5 (v := (10 : Int32)) (by decide) ?_
  refine N_newi (pc := 7) (N' := 10) hC ac_int (by decide) (by decide) (by decide) (by decide) (by decide) dX2_init_7 (fun p1 hA0 => ?_)
  refine N_putF (pc := 9) (f := 5) (ws' := ([(h0, .inr (2, [.int 0, .int 0, .int 0, .int 0, .int 0, .ref p1, .null, .null, .null, .int 0, .null, .null, .int 0]))] ++ [(p1, .inl (cc 0, 10, .inl (fun _ => 0)))])) (ty := .array .int) hC 0 tyX2 hnm rfl rfl inTB_X2 tyX2_ok nmX2 (by decide) (tb_at 132 (by decide +kernel) (by decide +kernel)) rfl rfl rfl (by decide +kernel) rfl rfl (by simp) rfl dX2_init_9 ?_
  refine N_aload_n (pc := 12) hC 0 dX2_init_12 rfl rfl ?_
  refine N_bipush (pc := 13) hC dX2_init_13 (v := (10 : Int32)) (by decide) ?_
  refine N_newi (pc := 15) (N' := 10) hC ac_int (by decide) (by decide) (by decide) (by decide) (by decide) dX2_init_15 (fun p2 hA0 => ?_)
  refine N_putF (pc := 17) (f := 6) (ws' := (([(h0, .inr (2, [.int 0, .int 0, .int 0, .int 0, .int 0, .ref p1, .ref p2, .null, .null, .int 0, .null, .null, .int 0]))] ++ [(p1, .inl (cc 0, 10, .inl (fun _ => 0)))]) ++ [(p2, .inl (cc 0, 10, .inl (fun _ => 0)))])) (ty := .array .int) hC 0 tyX2 hnm rfl rfl inTB_X2 tyX2_ok nmX2 (by decide) (tb_at 133 (by decide +kernel) (by decide +kernel)) rfl rfl rfl (by decide +kernel) rfl rfl (by simp) rfl dX2_init_17 ?_
  refine N_aload_n (pc := 20) hC 0 dX2_init_20 rfl rfl ?_
  refine N_sipush (pc := 21) hC dX2_init_21 (v := (1024 : Int32)) (by decide) ?_
  refine N_newi (pc := 24) (N' := 1024) hC ac_int (by decide) (by decide) (by decide) (by decide) (by decide) dX2_init_24 (fun p3 hA0 => ?_)
  refine N_putF (pc := 26) (f := 7) (ws' := ((([(h0, .inr (2, [.int 0, .int 0, .int 0, .int 0, .int 0, .ref p1, .ref p2, .ref p3, .null, .int 0, .null, .null, .int 0]))] ++ [(p1, .inl (cc 0, 10, .inl (fun _ => 0)))]) ++ [(p2, .inl (cc 0, 10, .inl (fun _ => 0)))]) ++ [(p3, .inl (cc 0, 1024, .inl (fun _ => 0)))])) (ty := .array .int) hC 0 tyX2 hnm rfl rfl inTB_X2 tyX2_ok nmX2 (by decide) (tb_at 134 (by decide +kernel) (by decide +kernel)) rfl rfl rfl (by decide +kernel) rfl rfl (by simp) rfl dX2_init_26 ?_
  refine N_aload_n (pc := 29) hC 0 dX2_init_29 rfl rfl ?_
  refine N_sipush (pc := 30) hC dX2_init_30 (v := (1024 : Int32)) (by decide) ?_
  refine N_newi (pc := 33) (N' := 1024) hC ac_int (by decide) (by decide) (by decide) (by decide) (by decide) dX2_init_33 (fun p4 hA0 => ?_)
  refine N_putF (pc := 35) (f := 8) (ws' := (((([(h0, .inr (2, [.int 0, .int 0, .int 0, .int 0, .int 0, .ref p1, .ref p2, .ref p3, .ref p4, .int 0, .null, .null, .int 0]))] ++ [(p1, .inl (cc 0, 10, .inl (fun _ => 0)))]) ++ [(p2, .inl (cc 0, 10, .inl (fun _ => 0)))]) ++ [(p3, .inl (cc 0, 1024, .inl (fun _ => 0)))]) ++ [(p4, .inl (cc 0, 1024, .inl (fun _ => 0)))])) (ty := .array .int) hC 0 tyX2 hnm rfl rfl inTB_X2 tyX2_ok nmX2 (by decide) (tb_at 135 (by decide +kernel) (by decide +kernel)) rfl rfl rfl (by decide +kernel) rfl rfl (by simp) rfl dX2_init_35 ?_
  refine N_aload_n (pc := 38) hC 0 dX2_init_38 rfl rfl ?_
  refine N_bipush (pc := 39) hC dX2_init_39 (v := (11 : Int32)) (by decide) ?_
  refine N_sipush (pc := 41) hC dX2_init_41 (v := (501 : Int32)) (by decide) ?_
  refine N_mna (pc := 44) (N' := 11) (K' := 501) hC cl_X2_24 ac_int hA0 (by decide) (by decide) (by decide) (by decide) (by decide) (by decide) (by decide) (by decide) dX2_init_44 (fun p5 r5 hA4 => ?_)
  refine N_putF (pc := 48) (f := 10) (ws' := ((((([(h0, .inr (2, [.int 0, .int 0, .int 0, .int 0, .int 0, .ref p1, .ref p2, .ref p3, .ref p4, .int 0, .ref p5, .null, .int 0]))] ++ [(p1, .inl (cc 0, 10, .inl (fun _ => 0)))]) ++ [(p2, .inl (cc 0, 10, .inl (fun _ => 0)))]) ++ [(p3, .inl (cc 0, 1024, .inl (fun _ => 0)))]) ++ [(p4, .inl (cc 0, 1024, .inl (fun _ => 0)))]) ++ ((p5, .inl (cc 4, 11, .inr (.inr (.inr (.inr (fun i => if i < 11 then some (r5 i) else none)))))) :: (List.range 11).map (fun i => (r5 i, .inl (cc 0, 501, .inl (fun _ => 0))))))) (ty := .array (.array .int)) hC 0 tyX2 hnm rfl rfl inTB_X2 tyX2_ok nmX2 (by decide) (tb_at 137 (by decide +kernel) (by decide +kernel)) rfl rfl rfl (by decide +kernel) rfl rfl (by simp) rfl dX2_init_48 ?_
  refine N_aload_n (pc := 51) hC 0 dX2_init_51 rfl rfl ?_
  refine N_sipush (pc := 52) hC dX2_init_52 (v := (252 : Int32)) (by decide) ?_
  refine N_newi (pc := 55) (N' := 252) hC ac_int (by decide) (by decide) (by decide) (by decide) (by decide) dX2_init_55 (fun p6 hA0 => ?_)
  refine N_putF (pc := 57) (f := 11) (ws' := (((((([(h0, .inr (2, [.int 0, .int 0, .int 0, .int 0, .int 0, .ref p1, .ref p2, .ref p3, .ref p4, .int 0, .ref p5, .ref p6, .int 0]))] ++ [(p1, .inl (cc 0, 10, .inl (fun _ => 0)))]) ++ [(p2, .inl (cc 0, 10, .inl (fun _ => 0)))]) ++ [(p3, .inl (cc 0, 1024, .inl (fun _ => 0)))]) ++ [(p4, .inl (cc 0, 1024, .inl (fun _ => 0)))]) ++ ((p5, .inl (cc 4, 11, .inr (.inr (.inr (.inr (fun i => if i < 11 then some (r5 i) else none)))))) :: (List.range 11).map (fun i => (r5 i, .inl (cc 0, 501, .inl (fun _ => 0)))))) ++ [(p6, .inl (cc 0, 252, .inl (fun _ => 0)))])) (ty := .array .int) hC 0 tyX2 hnm rfl rfl inTB_X2 tyX2_ok nmX2 (by decide) (tb_at 138 (by decide +kernel) (by decide +kernel)) rfl rfl rfl (by decide +kernel) rfl rfl (by simp) rfl dX2_init_57 ?_
  refine hR _ _ _ (fun k => if k < 6 then ([h0, p1, p2, p3, p4, p5] : List Nat).getD k 0 else if k < 17 then r5 (k - 6) else p6) _ rfl ?_ (va_K.app hA0 hA4) dX2_init_60
  unfold poW
  have e : (fun i => if i < 11 then some ((fun k => if k < 6 then ([h0, p1, p2, p3, p4, p5] : List Nat).getD k 0 else if k < 17 then r5 (k - 6) else p6) (6 + i)) else none) = (fun i => if i < 11 then some (r5 i) else none) := by
    funext i
    by_cases h : i < 11
    · rw [if_pos h, if_pos h]
      show some (if 6 + i < 6 then _ else if 6 + i < 17 then r5 (6 + i - 6) else p6) = _
      rw [if_neg (by omega), if_pos (by omega), Nat.add_sub_cancel_left]
    · rw [if_neg h, if_neg h]
  rw [e]
  rfl
set_option maxHeartbeats 4000000 in
set_option maxRecDepth 100000 in
theorem k_X5_init {D : va_G} {cc : Nat → Nat} : Cn D cc yX5_init cX5_init 1 4 73 70 8319 5 [.null, .null, .int 0, .null, .null, .null, .int 0] (swW cc) [(cc 0, .int), (cc 1, .char), (cc 3, .object "SwingWeights$State"), (cc 4, .array .int)] := by
  refine Cn_of (by decide) rfl (by decide) (fun X h0 hC0 hnm hR => ?_)
  have hC : CN X D cc cX5_init 1 RX5 4 73 70 8319 := hC0
  refine N_aload_n (pc := 0) hC 0 dX5_init_0 rfl rfl ?_
  refine N_objinit (pc := 1) hC ol_X5 oi_i oi_c (by decide) (Nat.le_of_ble_eq_true rfl) dX5_init_1 ?_
  refine N_aload_n (pc := 4) hC 0 dX5_init_4 rfl rfl ?_
  refine N_new (pc := 5) (ci := 3) (fs := [.int 0, .int 0, .int 0, .null, .null, .null, .null]) (C := RX3) (T := TX3) (N := 7) hC tyX3 inTB_X3 tyX3_ok cl_X5_7 in_X3 iz_X3 rfl (by decide +kernel) (by decide) (by decide) dX5_init_5 (fun p1 => ?_)
  refine N_dup (pc := 8) hC dX5_init_8 rfl ?_
  refine N_callIN (pc := 9) hC (k_X3_init (D := D) (cc := cc)) li_X5_9 yi_X3 (Nat.le_of_ble_eq_true rfl) (by decide) (by decide) dX5_init_9 (fun qq2 hq hK2 => ?_)
  subst hq
  refine N_putF (pc := 12) (f := 0) (ws' := ([(h0, .inr (5, [.ref (qq2 0), .null, .int 0, .null, .null, .null, .int 0]))] ++ stW cc qq2)) (ty := .object "SwingWeights$State") hC 0 tyX5 hnm rfl rfl inTB_X5 tyX5_ok nmX5 (by decide) (tb_at 167 (by decide +kernel) (by decide +kernel)) rfl rfl rfl (by decide +kernel) rfl rfl (by simp) rfl dX5_init_12 ?_
  refine N_aload_n (pc := 15) hC 0 dX5_init_15 rfl rfl ?_
  refine N_new (pc := 16) (ci := 3) (fs := [.int 0, .int 0, .int 0, .null, .null, .null, .null]) (C := RX3) (T := TX3) (N := 7) hC tyX3 inTB_X3 tyX3_ok cl_X5_7 in_X3 iz_X3 rfl (by decide +kernel) (by decide) (by decide) dX5_init_16 (fun p3 => ?_)
  refine N_dup (pc := 19) hC dX5_init_19 rfl ?_
  refine N_callIN (pc := 20) hC (k_X3_init (D := D) (cc := cc)) li_X5_9 yi_X3 (Nat.le_of_ble_eq_true rfl) (by decide) (by decide) dX5_init_20 (fun qq4 hq hK4 => ?_)
  subst hq
  refine N_putF (pc := 23) (f := 1) (ws' := (([(h0, .inr (5, [.ref (qq2 0), .ref (qq4 0), .int 0, .null, .null, .null, .int 0]))] ++ stW cc qq2) ++ stW cc qq4)) (ty := .object "SwingWeights$State") hC 0 tyX5 hnm rfl rfl inTB_X5 tyX5_ok nmX5 (by decide) (tb_at 168 (by decide +kernel) (by decide +kernel)) rfl rfl rfl (by decide +kernel) rfl rfl (by simp) rfl dX5_init_23 ?_
  refine N_aload_n (pc := 26) hC 0 dX5_init_26 rfl rfl ?_
  refine N_new (pc := 27) (ci := 1) (fs := [.null, .int 0]) (C := RX1) (T := TX1) (N := 2) hC tyX1 inTB_X1 tyX1_ok cl_X5_19 in_X1 iz_X1 rfl (by decide +kernel) (by decide) (by decide) dX5_init_27 (fun p5 => ?_)
  refine N_dup (pc := 30) hC dX5_init_30 rfl ?_
  refine N_callI (pc := 31) hC (k_X1_init (D := D) (cc := cc)) li_X5_21 yi_X1 (Nat.le_of_ble_eq_true rfl) (by decide) (by decide) dX5_init_31 (fun qq6 hq hK6 => ?_)
  subst hq
  refine N_putF (pc := 34) (f := 3) (ws' := ((([(h0, .inr (5, [.ref (qq2 0), .ref (qq4 0), .int 0, .ref (qq6 0), .null, .null, .int 0]))] ++ stW cc qq2) ++ stW cc qq4) ++ hiW cc qq6)) (ty := .object "SwingWeights$History") hC 0 tyX5 hnm rfl rfl inTB_X5 tyX5_ok nmX5 (by decide) (tb_at 170 (by decide +kernel) (by decide +kernel)) rfl rfl rfl (by decide +kernel) rfl rfl (by simp) rfl dX5_init_34 ?_
  refine N_aload_n (pc := 37) hC 0 dX5_init_37 rfl rfl ?_
  refine N_new (pc := 38) (ci := 4) (fs := [.null, .int 0]) (C := RX4) (T := TX4) (N := 2) hC tyX4 inTB_X4 tyX4_ok cl_X5_26 in_X4 iz_X4 rfl (by decide +kernel) (by decide) (by decide) dX5_init_38 (fun p7 => ?_)
  refine N_dup (pc := 41) hC dX5_init_41 rfl ?_
  refine N_callIN (pc := 42) hC (k_X4_init (D := D) (cc := cc)) li_X5_28 yi_X4 (Nat.le_of_ble_eq_true rfl) (by decide) (by decide) dX5_init_42 (fun qq8 hq hK8 => ?_)
  subst hq
  refine N_putF (pc := 45) (f := 4) (ws' := (((([(h0, .inr (5, [.ref (qq2 0), .ref (qq4 0), .int 0, .ref (qq6 0), .ref (qq8 0), .null, .int 0]))] ++ stW cc qq2) ++ stW cc qq4) ++ hiW cc qq6) ++ txW cc qq8)) (ty := .object "SwingWeights$Text") hC 0 tyX5 hnm rfl rfl inTB_X5 tyX5_ok nmX5 (by decide) (tb_at 171 (by decide +kernel) (by decide +kernel)) rfl rfl rfl (by decide +kernel) rfl rfl (by simp) rfl dX5_init_45 ?_
  refine N_aload_n (pc := 48) hC 0 dX5_init_48 rfl rfl ?_
  refine N_new (pc := 49) (ci := 2) (fs := [.int 0, .int 0, .int 0, .int 0, .int 0, .null, .null, .null, .null, .int 0, .null, .null, .int 0]) (C := RX2) (T := TX2) (N := 13) hC tyX2 inTB_X2 tyX2_ok cl_X5_33 in_X2 iz_X2 rfl (by decide +kernel) (by decide) (by decide) dX5_init_49 (fun p9 => ?_)
  refine N_dup (pc := 52) hC dX5_init_52 rfl ?_
  refine N_callIN (pc := 53) hC (k_X2_init (D := D) (cc := cc)) li_X5_35 yi_X2 (Nat.le_of_ble_eq_true rfl) (by decide) (by decide) dX5_init_53 (fun qq10 hq hK10 => ?_)
  subst hq
  refine N_putF (pc := 56) (f := 5) (ws' := ((((([(h0, .inr (5, [.ref (qq2 0), .ref (qq4 0), .int 0, .ref (qq6 0), .ref (qq8 0), .ref (qq10 0), .int 0]))] ++ stW cc qq2) ++ stW cc qq4) ++ hiW cc qq6) ++ txW cc qq8) ++ poW cc qq10)) (ty := .object "SwingWeights$Power") hC 0 tyX5 hnm rfl rfl inTB_X5 tyX5_ok nmX5 (by decide) (tb_at 172 (by decide +kernel) (by decide +kernel)) rfl rfl rfl (by decide +kernel) rfl rfl (by simp) rfl dX5_init_56 ?_
  refine hR _ _ _ (fun k => if k = 0 then h0 else if k < 9 then qq2 (k - 1) else if k < 17 then qq4 (k - 9) else if k < 51 then qq6 (k - 17) else if k < 53 then qq8 (k - 51) else qq10 (k - 53)) _ rfl ?_ (va_K.app (va_K.app (va_K.app (hK2.sub [0] rfl) (hK8.sub [0] rfl)) (hK6.sub [1] rfl)) (hK10.sub [1] rfl)) dX5_init_59
  unfold swW
  have e1 : stW cc (fun i => (fun k => if k = 0 then h0 else if k < 9 then qq2 (k - 1) else if k < 17 then qq4 (k - 9) else if k < 51 then qq6 (k - 17) else if k < 53 then qq8 (k - 51) else qq10 (k - 53)) (1 + i)) = stW cc qq2 := stW_congr (fun k hk => by
    show (if 1 + k = 0 then _ else if 1 + k < 9 then _ else if 1 + k < 17 then _ else if 1 + k < 51 then _ else if 1 + k < 53 then _ else _) = _
    rw [if_neg (by omega), if_pos (by omega), Nat.add_sub_cancel_left])
  have e9 : stW cc (fun i => (fun k => if k = 0 then h0 else if k < 9 then qq2 (k - 1) else if k < 17 then qq4 (k - 9) else if k < 51 then qq6 (k - 17) else if k < 53 then qq8 (k - 51) else qq10 (k - 53)) (9 + i)) = stW cc qq4 := stW_congr (fun k hk => by
    show (if 9 + k = 0 then _ else if 9 + k < 9 then _ else if 9 + k < 17 then _ else if 9 + k < 51 then _ else if 9 + k < 53 then _ else _) = _
    rw [if_neg (by omega), if_neg (by omega), if_pos (by omega), Nat.add_sub_cancel_left])
  have e17 : hiW cc (fun i => (fun k => if k = 0 then h0 else if k < 9 then qq2 (k - 1) else if k < 17 then qq4 (k - 9) else if k < 51 then qq6 (k - 17) else if k < 53 then qq8 (k - 51) else qq10 (k - 53)) (17 + i)) = hiW cc qq6 := hiW_congr (fun k hk => by
    show (if 17 + k = 0 then _ else if 17 + k < 9 then _ else if 17 + k < 17 then _ else if 17 + k < 51 then _ else if 17 + k < 53 then _ else _) = _
    rw [if_neg (by omega), if_neg (by omega), if_neg (by omega), if_pos (by omega), Nat.add_sub_cancel_left])
  have e51 : txW cc (fun i => (fun k => if k = 0 then h0 else if k < 9 then qq2 (k - 1) else if k < 17 then qq4 (k - 9) else if k < 51 then qq6 (k - 17) else if k < 53 then qq8 (k - 51) else qq10 (k - 53)) (51 + i)) = txW cc qq8 := txW_congr (fun k hk => by
    show (if 51 + k = 0 then _ else if 51 + k < 9 then _ else if 51 + k < 17 then _ else if 51 + k < 51 then _ else if 51 + k < 53 then _ else _) = _
    rw [if_neg (by omega), if_neg (by omega), if_neg (by omega), if_neg (by omega), if_pos (by omega), Nat.add_sub_cancel_left])
  have e53 : poW cc (fun i => (fun k => if k = 0 then h0 else if k < 9 then qq2 (k - 1) else if k < 17 then qq4 (k - 9) else if k < 51 then qq6 (k - 17) else if k < 53 then qq8 (k - 51) else qq10 (k - 53)) (53 + i)) = poW cc qq10 := poW_congr (fun k hk => by
    show (if 53 + k = 0 then _ else if 53 + k < 9 then _ else if 53 + k < 17 then _ else if 53 + k < 51 then _ else if 53 + k < 53 then _ else _) = _
    rw [if_neg (by omega), if_neg (by omega), if_neg (by omega), if_neg (by omega), if_neg (by omega), Nat.add_sub_cancel_left])
  rw [e1, e9, e17, e51, e53]
  rfl
set_option maxHeartbeats 4000000 in
set_option maxRecDepth 100000 in
theorem k_X6_init {D : va_G} {cc : Nat → Nat} : Cn D cc yX6_init cX6_init 1 1 12 10 2562 6 [.null, .null, .null, .int 0, .int 0, .null, .int 0, .int 0, .int 0, .null, .null, .null, .int 0, .null, .null, .int 0, .null, .int 0] (moW cc) [(cc 0, .int), (cc 1, .char), (cc 2, .boolean)] := by
  refine Cn_of (by decide) rfl (by decide) (fun X h0 hC0 hnm hR => ?_)
  have hC : CN X D cc cX6_init 1 RX6 1 12 10 2562 := hC0
  refine N_aload_n (pc := 0) hC 0 dX6_init_0 rfl rfl ?_
  refine N_objinit (pc := 1) hC ol_X6 oi_i oi_c (by decide) (Nat.le_of_ble_eq_true rfl) dX6_init_1 ?_
  refine N_aload_n (pc := 4) hC 0 dX6_init_4 rfl rfl ?_
  refine N_bipush (pc := 5) hC dX6_init_5 (v := (69 : Int32)) (by decide) ?_
  refine N_newi (pc := 7) (N' := 69) hC ac_int (by decide) (by decide) (by decide) (by decide) (by decide) dX6_init_7 (fun p1 hA0 => ?_)
  refine N_putF (pc := 9) (f := 0) (ws' := ([(h0, .inr (6, [.ref p1, .null, .null, .int 0, .int 0, .null, .int 0, .int 0, .int 0, .null, .null, .null, .int 0, .null, .null, .int 0, .null, .int 0]))] ++ [(p1, .inl (cc 0, 69, .inl (fun _ => 0)))])) (ty := .array .int) hC 0 tyX6 hnm rfl rfl inTB_X6 tyX6_ok nmX6 (by decide) (tb_at 562 (by decide +kernel) (by decide +kernel)) rfl rfl rfl (by decide +kernel) rfl rfl (by simp) rfl dX6_init_9 ?_
  refine N_aload_n (pc := 12) hC 0 dX6_init_12 rfl rfl ?_
  refine N_sipush (pc := 13) hC dX6_init_13 (v := (276 : Int32)) (by decide) ?_
  refine N_newi (pc := 16) (N' := 276) hC ac_int (by decide) (by decide) (by decide) (by decide) (by decide) dX6_init_16 (fun p2 hA0 => ?_)
  refine N_putF (pc := 18) (f := 1) (ws' := (([(h0, .inr (6, [.ref p1, .ref p2, .null, .int 0, .int 0, .null, .int 0, .int 0, .int 0, .null, .null, .null, .int 0, .null, .null, .int 0, .null, .int 0]))] ++ [(p1, .inl (cc 0, 69, .inl (fun _ => 0)))]) ++ [(p2, .inl (cc 0, 276, .inl (fun _ => 0)))])) (ty := .array .int) hC 0 tyX6 hnm rfl rfl inTB_X6 tyX6_ok nmX6 (by decide) (tb_at 563 (by decide +kernel) (by decide +kernel)) rfl rfl rfl (by decide +kernel) rfl rfl (by simp) rfl dX6_init_18 ?_
  refine N_aload_n (pc := 21) hC 0 dX6_init_21 rfl rfl ?_
  refine N_bipush (pc := 22) hC dX6_init_22 (v := (69 : Int32)) (by decide) ?_
  refine N_newi (pc := 24) (N' := 69) hC ac_int (by decide) (by decide) (by decide) (by decide) (by decide) dX6_init_24 (fun p3 hA0 => ?_)
  refine N_putF (pc := 26) (f := 2) (ws' := ((([(h0, .inr (6, [.ref p1, .ref p2, .ref p3, .int 0, .int 0, .null, .int 0, .int 0, .int 0, .null, .null, .null, .int 0, .null, .null, .int 0, .null, .int 0]))] ++ [(p1, .inl (cc 0, 69, .inl (fun _ => 0)))]) ++ [(p2, .inl (cc 0, 276, .inl (fun _ => 0)))]) ++ [(p3, .inl (cc 0, 69, .inl (fun _ => 0)))])) (ty := .array .int) hC 0 tyX6 hnm rfl rfl inTB_X6 tyX6_ok nmX6 (by decide) (tb_at 564 (by decide +kernel) (by decide +kernel)) rfl rfl rfl (by decide +kernel) rfl rfl (by simp) rfl dX6_init_26 ?_
  refine N_aload_n (pc := 29) hC 0 dX6_init_29 rfl rfl ?_
  refine N_bipush (pc := 30) hC dX6_init_30 (v := (60 : Int32)) (by decide) ?_
  refine N_newc (pc := 32) (N' := 60) hC ac_char (by decide) (by decide) (by decide) (by decide) (by decide) dX6_init_32 (fun p4 hA1 => ?_)
  refine N_putF (pc := 34) (f := 5) (ws' := (((([(h0, .inr (6, [.ref p1, .ref p2, .ref p3, .int 0, .int 0, .ref p4, .int 0, .int 0, .int 0, .null, .null, .null, .int 0, .null, .null, .int 0, .null, .int 0]))] ++ [(p1, .inl (cc 0, 69, .inl (fun _ => 0)))]) ++ [(p2, .inl (cc 0, 276, .inl (fun _ => 0)))]) ++ [(p3, .inl (cc 0, 69, .inl (fun _ => 0)))]) ++ [(p4, .inl (cc 1, 60, .inl (fun _ => 0)))])) (ty := .array .char) hC 0 tyX6 hnm rfl rfl inTB_X6 tyX6_ok nmX6 (by decide) (tb_at 567 (by decide +kernel) (by decide +kernel)) rfl rfl rfl (by decide +kernel) rfl rfl (by simp) rfl dX6_init_34 ?_
  refine N_aload_n (pc := 37) hC 0 dX6_init_37 rfl rfl ?_
  refine N_bipush (pc := 38) hC dX6_init_38 (v := (10 : Int32)) (by decide) ?_
  refine N_newi (pc := 40) (N' := 10) hC ac_int (by decide) (by decide) (by decide) (by decide) (by decide) dX6_init_40 (fun p5 hA0 => ?_)
  refine N_putF (pc := 42) (f := 9) (ws' := ((((([(h0, .inr (6, [.ref p1, .ref p2, .ref p3, .int 0, .int 0, .ref p4, .int 0, .int 0, .int 0, .ref p5, .null, .null, .int 0, .null, .null, .int 0, .null, .int 0]))] ++ [(p1, .inl (cc 0, 69, .inl (fun _ => 0)))]) ++ [(p2, .inl (cc 0, 276, .inl (fun _ => 0)))]) ++ [(p3, .inl (cc 0, 69, .inl (fun _ => 0)))]) ++ [(p4, .inl (cc 1, 60, .inl (fun _ => 0)))]) ++ [(p5, .inl (cc 0, 10, .inl (fun _ => 0)))])) (ty := .array .int) hC 0 tyX6 hnm rfl rfl inTB_X6 tyX6_ok nmX6 (by decide) (tb_at 571 (by decide +kernel) (by decide +kernel)) rfl rfl rfl (by decide +kernel) rfl rfl (by simp) rfl dX6_init_42 ?_
  refine N_aload_n (pc := 45) hC 0 dX6_init_45 rfl rfl ?_
  refine N_bipush (pc := 46) hC dX6_init_46 (v := (10 : Int32)) (by decide) ?_
  refine N_newi (pc := 48) (N' := 10) hC ac_int (by decide) (by decide) (by decide) (by decide) (by decide) dX6_init_48 (fun p6 hA0 => ?_)
  refine N_putF (pc := 50) (f := 10) (ws' := (((((([(h0, .inr (6, [.ref p1, .ref p2, .ref p3, .int 0, .int 0, .ref p4, .int 0, .int 0, .int 0, .ref p5, .ref p6, .null, .int 0, .null, .null, .int 0, .null, .int 0]))] ++ [(p1, .inl (cc 0, 69, .inl (fun _ => 0)))]) ++ [(p2, .inl (cc 0, 276, .inl (fun _ => 0)))]) ++ [(p3, .inl (cc 0, 69, .inl (fun _ => 0)))]) ++ [(p4, .inl (cc 1, 60, .inl (fun _ => 0)))]) ++ [(p5, .inl (cc 0, 10, .inl (fun _ => 0)))]) ++ [(p6, .inl (cc 0, 10, .inl (fun _ => 0)))])) (ty := .array .int) hC 0 tyX6 hnm rfl rfl inTB_X6 tyX6_ok nmX6 (by decide) (tb_at 572 (by decide +kernel) (by decide +kernel)) rfl rfl rfl (by decide +kernel) rfl rfl (by simp) rfl dX6_init_50 ?_
  refine N_aload_n (pc := 53) hC 0 dX6_init_53 rfl rfl ?_
  refine N_bipush (pc := 54) hC dX6_init_54 (v := (10 : Int32)) (by decide) ?_
  refine N_newi (pc := 56) (N' := 10) hC ac_int (by decide) (by decide) (by decide) (by decide) (by decide) dX6_init_56 (fun p7 hA0 => ?_)
  refine N_putF (pc := 58) (f := 11) (ws' := ((((((([(h0, .inr (6, [.ref p1, .ref p2, .ref p3, .int 0, .int 0, .ref p4, .int 0, .int 0, .int 0, .ref p5, .ref p6, .ref p7, .int 0, .null, .null, .int 0, .null, .int 0]))] ++ [(p1, .inl (cc 0, 69, .inl (fun _ => 0)))]) ++ [(p2, .inl (cc 0, 276, .inl (fun _ => 0)))]) ++ [(p3, .inl (cc 0, 69, .inl (fun _ => 0)))]) ++ [(p4, .inl (cc 1, 60, .inl (fun _ => 0)))]) ++ [(p5, .inl (cc 0, 10, .inl (fun _ => 0)))]) ++ [(p6, .inl (cc 0, 10, .inl (fun _ => 0)))]) ++ [(p7, .inl (cc 0, 10, .inl (fun _ => 0)))])) (ty := .array .int) hC 0 tyX6 hnm rfl rfl inTB_X6 tyX6_ok nmX6 (by decide) (tb_at 573 (by decide +kernel) (by decide +kernel)) rfl rfl rfl (by decide +kernel) rfl rfl (by simp) rfl dX6_init_58 ?_
  refine N_aload_n (pc := 61) hC 0 dX6_init_61 rfl rfl ?_
  refine N_sipush (pc := 62) hC dX6_init_62 (v := (1024 : Int32)) (by decide) ?_
  refine N_newz (pc := 65) (N' := 1024) hC ac_boolean (by decide) (by decide) (by decide) (by decide) (by decide) dX6_init_65 (fun p8 hA2 => ?_)
  refine N_putF (pc := 67) (f := 13) (ws' := (((((((([(h0, .inr (6, [.ref p1, .ref p2, .ref p3, .int 0, .int 0, .ref p4, .int 0, .int 0, .int 0, .ref p5, .ref p6, .ref p7, .int 0, .ref p8, .null, .int 0, .null, .int 0]))] ++ [(p1, .inl (cc 0, 69, .inl (fun _ => 0)))]) ++ [(p2, .inl (cc 0, 276, .inl (fun _ => 0)))]) ++ [(p3, .inl (cc 0, 69, .inl (fun _ => 0)))]) ++ [(p4, .inl (cc 1, 60, .inl (fun _ => 0)))]) ++ [(p5, .inl (cc 0, 10, .inl (fun _ => 0)))]) ++ [(p6, .inl (cc 0, 10, .inl (fun _ => 0)))]) ++ [(p7, .inl (cc 0, 10, .inl (fun _ => 0)))]) ++ [(p8, .inl (cc 2, 1024, .inl (fun _ => 0)))])) (ty := .array .boolean) hC 0 tyX6 hnm rfl rfl inTB_X6 tyX6_ok nmX6 (by decide) (tb_at 575 (by decide +kernel) (by decide +kernel)) rfl rfl rfl (by decide +kernel) rfl rfl (by simp) rfl dX6_init_67 ?_
  refine N_aload_n (pc := 70) hC 0 dX6_init_70 rfl rfl ?_
  refine N_bipush (pc := 71) hC dX6_init_71 (v := (10 : Int32)) (by decide) ?_
  refine N_newi (pc := 73) (N' := 10) hC ac_int (by decide) (by decide) (by decide) (by decide) (by decide) dX6_init_73 (fun p9 hA0 => ?_)
  refine N_putF (pc := 75) (f := 14) (ws' := ((((((((([(h0, .inr (6, [.ref p1, .ref p2, .ref p3, .int 0, .int 0, .ref p4, .int 0, .int 0, .int 0, .ref p5, .ref p6, .ref p7, .int 0, .ref p8, .ref p9, .int 0, .null, .int 0]))] ++ [(p1, .inl (cc 0, 69, .inl (fun _ => 0)))]) ++ [(p2, .inl (cc 0, 276, .inl (fun _ => 0)))]) ++ [(p3, .inl (cc 0, 69, .inl (fun _ => 0)))]) ++ [(p4, .inl (cc 1, 60, .inl (fun _ => 0)))]) ++ [(p5, .inl (cc 0, 10, .inl (fun _ => 0)))]) ++ [(p6, .inl (cc 0, 10, .inl (fun _ => 0)))]) ++ [(p7, .inl (cc 0, 10, .inl (fun _ => 0)))]) ++ [(p8, .inl (cc 2, 1024, .inl (fun _ => 0)))]) ++ [(p9, .inl (cc 0, 10, .inl (fun _ => 0)))])) (ty := .array .int) hC 0 tyX6 hnm rfl rfl inTB_X6 tyX6_ok nmX6 (by decide) (tb_at 576 (by decide +kernel) (by decide +kernel)) rfl rfl rfl (by decide +kernel) rfl rfl (by simp) rfl dX6_init_75 ?_
  refine N_aload_n (pc := 78) hC 0 dX6_init_78 rfl rfl ?_
  refine N_sipush (pc := 79) hC dX6_init_79 (v := (1024 : Int32)) (by decide) ?_
  refine N_newi (pc := 82) (N' := 1024) hC ac_int (by decide) (by decide) (by decide) (by decide) (by decide) dX6_init_82 (fun p10 hA0 => ?_)
  refine N_putF (pc := 84) (f := 16) (ws' := (((((((((([(h0, .inr (6, [.ref p1, .ref p2, .ref p3, .int 0, .int 0, .ref p4, .int 0, .int 0, .int 0, .ref p5, .ref p6, .ref p7, .int 0, .ref p8, .ref p9, .int 0, .ref p10, .int 0]))] ++ [(p1, .inl (cc 0, 69, .inl (fun _ => 0)))]) ++ [(p2, .inl (cc 0, 276, .inl (fun _ => 0)))]) ++ [(p3, .inl (cc 0, 69, .inl (fun _ => 0)))]) ++ [(p4, .inl (cc 1, 60, .inl (fun _ => 0)))]) ++ [(p5, .inl (cc 0, 10, .inl (fun _ => 0)))]) ++ [(p6, .inl (cc 0, 10, .inl (fun _ => 0)))]) ++ [(p7, .inl (cc 0, 10, .inl (fun _ => 0)))]) ++ [(p8, .inl (cc 2, 1024, .inl (fun _ => 0)))]) ++ [(p9, .inl (cc 0, 10, .inl (fun _ => 0)))]) ++ [(p10, .inl (cc 0, 1024, .inl (fun _ => 0)))])) (ty := .array .int) hC 0 tyX6 hnm rfl rfl inTB_X6 tyX6_ok nmX6 (by decide) (tb_at 578 (by decide +kernel) (by decide +kernel)) rfl rfl rfl (by decide +kernel) rfl rfl (by simp) rfl dX6_init_84 ?_
  refine N_aload_n (pc := 87) hC 0 dX6_init_87 rfl rfl ?_
  refine N_get (pc := 88) (f := 0) hC 0 rfl rfl inTB_X6 (by decide) (tb_at 562 (by decide +kernel) (by decide +kernel)) rfl rfl dX6_init_88 ?_
  refine N_iconst (pc := 91) hC dX6_init_91 (v := (1 : Int32)) (by decide) ?_
  refine N_iconst (pc := 92) hC dX6_init_92 (v := (1 : Int32)) (by decide) ?_
  refine N_iast (pc := 93) (ws' := (((((((((([(h0, .inr (6, [.ref p1, .ref p2, .ref p3, .int 0, .int 0, .ref p4, .int 0, .int 0, .int 0, .ref p5, .ref p6, .ref p7, .int 0, .ref p8, .ref p9, .int 0, .ref p10, .int 0]))] ++ [(p1, .inl (cc 0, 69, .inl (upd (fun _ => 0) 1 1)))]) ++ [(p2, .inl (cc 0, 276, .inl (fun _ => 0)))]) ++ [(p3, .inl (cc 0, 69, .inl (fun _ => 0)))]) ++ [(p4, .inl (cc 1, 60, .inl (fun _ => 0)))]) ++ [(p5, .inl (cc 0, 10, .inl (fun _ => 0)))]) ++ [(p6, .inl (cc 0, 10, .inl (fun _ => 0)))]) ++ [(p7, .inl (cc 0, 10, .inl (fun _ => 0)))]) ++ [(p8, .inl (cc 2, 1024, .inl (fun _ => 0)))]) ++ [(p9, .inl (cc 0, 10, .inl (fun _ => 0)))]) ++ [(p10, .inl (cc 0, 1024, .inl (fun _ => 0)))])) hC 1 hA0 rfl (vp_in_iff.mpr (by decide)) rfl dX6_init_93 ?_
  exact hR _ _ _ (fun k => ([h0, p1, p2, p3, p4, p5, p6, p7, p8, p9, p10] : List Nat).getD k 0) _ rfl (by rfl) (va_K.app (va_K.app hA0 hA1) hA2) dX6_init_94
