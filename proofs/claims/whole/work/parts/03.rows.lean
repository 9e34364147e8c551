/-! rows over V: one a kind of instruction -/
section RV
variable {X : XT} {E : EN} {cc : ByteArray} {nL : Nat} {own : String} {fr lo pc : Nat} {lv : List (Nat × Value)} {st rest : List Value} {I : Mem}
theorem V_iconst (hC : Cx X E cc nL own fr lo) {n : Int} {v : Int32} (hd : decode cc pc = .ok (.iconst n, 1)) (hv : Int32.ofInt n = v) (k : V X E nL (pc + 1) lv (.int v :: st) I) : V X E nL pc lv st I :=
  fun H locs ls hP hS hl => lv_iconst hC.1 hC.2.1 hd hv (k H locs ls hP hS hl)
theorem V_bipush (hC : Cx X E cc nL own fr lo) {n : Int} {v : Int32} (hd : decode cc pc = .ok (.bipush n, 2)) (hv : (Int8.ofInt n).toInt32 = v) (k : V X E nL (pc + 2) lv (.int v :: st) I) : V X E nL pc lv st I :=
  fun H locs ls hP hS hl => lv_bipush hC.1 hC.2.1 hd hv (k H locs ls hP hS hl)
theorem V_sipush (hC : Cx X E cc nL own fr lo) {n : Int} {v : Int32} (hd : decode cc pc = .ok (.sipush n, 3)) (hv : (Int16.ofInt n).toInt32 = v) (k : V X E nL (pc + 3) lv (.int v :: st) I) : V X E nL pc lv st I :=
  fun H locs ls hP hS hl => lv_sipush hC.1 hC.2.1 hd hv (k H locs ls hP hS hl)
theorem V_lconst (hC : Cx X E cc nL own fr lo) {n : Fin 2} {v : Int64} (hd : decode cc pc = .ok (.lconst n, 1)) (hv : Int64.ofNat (n : Nat) = v) (k : V X E nL (pc + 1) lv (.long v :: st) I) : V X E nL pc lv st I :=
  fun H locs ls hP hS hl => lv_lconst hC.1 hC.2.1 hd hv (k H locs ls hP hS hl)
theorem V_ldcw (hC : Cx X E cc nL own fr lo) {index : Nat} {v : Int32} (hc : Cond.constant own index v ∈ TB) (hd : decode cc pc = .ok (.ldc_w index, 3)) (k : V X E nL (pc + 3) lv (.int v :: st) I) : V X E nL pc lv st I := by
  obtain ⟨hx, hb, -, hown, hts, -⟩ := hC
  exact fun H locs ls hP hS hl => lv_ldcw hx hb hown (hts _ hc) hd (k H locs ls hP hS hl)
theorem V_iload_n (hC : Cx X E cc nL own fr lo) {n : Fin 4} {i : Nat} {x : Int32} (j : Nat) (hd : decode cc pc = .ok (.iload_n n, 1)) (hi : (n : Nat) = i) (hk : lv[j]? = some (i, .int x)) (k : V X E nL (pc + 1) lv (.int x :: st) I) : V X E nL pc lv st I :=
  fun H locs ls hP hS hl => lv_iload_n hC.1 hC.2.1 hd hi (lv_at hl j hk) (k H locs ls hP hS hl)
theorem V_iload (hC : Cx X E cc nL own fr lo) {i : Nat} {x : Int32} (j : Nat) (hd : decode cc pc = .ok (.iload i, 2)) (hk : lv[j]? = some (i, .int x)) (k : V X E nL (pc + 2) lv (.int x :: st) I) : V X E nL pc lv st I :=
  fun H locs ls hP hS hl => lv_iload hC.1 hC.2.1 hd (lv_at hl j hk) (k H locs ls hP hS hl)
theorem V_lload_n (hC : Cx X E cc nL own fr lo) {n : Fin 4} {i : Nat} {x : Int64} (j : Nat) (hd : decode cc pc = .ok (.lload_n n, 1)) (hi : (n : Nat) = i) (hk : lv[j]? = some (i, .long x)) (k : V X E nL (pc + 1) lv (.long x :: st) I) : V X E nL pc lv st I :=
  fun H locs ls hP hS hl => lv_lload_n hC.1 hC.2.1 hd hi (lv_at hl j hk) (k H locs ls hP hS hl)
theorem V_lload (hC : Cx X E cc nL own fr lo) {i : Nat} {x : Int64} (j : Nat) (hd : decode cc pc = .ok (.lload i, 2)) (hk : lv[j]? = some (i, .long x)) (k : V X E nL (pc + 2) lv (.long x :: st) I) : V X E nL pc lv st I :=
  fun H locs ls hP hS hl => lv_lload hC.1 hC.2.1 hd (lv_at hl j hk) (k H locs ls hP hS hl)
theorem V_aload_n (hC : Cx X E cc nL own fr lo) {n : Fin 4} {i x : Nat} (j : Nat) (hd : decode cc pc = .ok (.aload_n n, 1)) (hi : (n : Nat) = i) (hk : lv[j]? = some (i, .ref x)) (k : V X E nL (pc + 1) lv (.ref x :: st) I) : V X E nL pc lv st I :=
  fun H locs ls hP hS hl => lv_aload_n hC.1 hC.2.1 hd hi (lv_at hl j hk) (k H locs ls hP hS hl)
theorem V_aload (hC : Cx X E cc nL own fr lo) {i x : Nat} (j : Nat) (hd : decode cc pc = .ok (.aload i, 2)) (hk : lv[j]? = some (i, .ref x)) (k : V X E nL (pc + 2) lv (.ref x :: st) I) : V X E nL pc lv st I :=
  fun H locs ls hP hS hl => lv_aload hC.1 hC.2.1 hd (lv_at hl j hk) (k H locs ls hP hS hl)
theorem V_istore_n (hC : Cx X E cc nL own fr lo) {n : Fin 4} {i : Nat} {x : Int32} {lv' : List (Nat × Value)} (hd : decode cc pc = .ok (.istore_n n, 1)) (hi : (n : Nat) = i) (hn : i < nL) (hl' : (i, Value.int x) :: lv.filter (fun q => !(q.1 == i) && !(q.1 + 1 == i && q.2.category == 2)) = lv') (k : V X E nL (pc + 1) lv' st I) : V X E nL pc lv (.int x :: st) I :=
  fun H locs _ hP hS hl => lv_istore_n hC.1 hC.2.1 hd hi hl hn hl' (fun ls' h' => k H locs ls' hP hS h')
theorem V_istore (hC : Cx X E cc nL own fr lo) {i : Nat} {x : Int32} {lv' : List (Nat × Value)} (hd : decode cc pc = .ok (.istore i, 2)) (hn : i < nL) (hl' : (i, Value.int x) :: lv.filter (fun q => !(q.1 == i) && !(q.1 + 1 == i && q.2.category == 2)) = lv') (k : V X E nL (pc + 2) lv' st I) : V X E nL pc lv (.int x :: st) I :=
  fun H locs _ hP hS hl => lv_istore hC.1 hC.2.1 hd hl hn hl' (fun ls' h' => k H locs ls' hP hS h')
theorem V_lstore_n (hC : Cx X E cc nL own fr lo) {n : Fin 4} {i : Nat} {x : Int64} {lv' : List (Nat × Value)} (hd : decode cc pc = .ok (.lstore_n n, 1)) (hi : (n : Nat) = i) (hn : i + 1 < nL) (hl' : (i, Value.long x) :: lv.filter (fun q => !(q.1 == i) && (!(q.1 == i + 1) && !(q.1 + 1 == i && q.2.category == 2))) = lv') (k : V X E nL (pc + 1) lv' st I) : V X E nL pc lv (.long x :: st) I :=
  fun H locs _ hP hS hl => lv_lstore_n hC.1 hC.2.1 hd hi hl hn hl' (fun ls' h' => k H locs ls' hP hS h')
theorem V_lstore (hC : Cx X E cc nL own fr lo) {i : Nat} {x : Int64} {lv' : List (Nat × Value)} (hd : decode cc pc = .ok (.lstore i, 2)) (hn : i + 1 < nL) (hl' : (i, Value.long x) :: lv.filter (fun q => !(q.1 == i) && (!(q.1 == i + 1) && !(q.1 + 1 == i && q.2.category == 2))) = lv') (k : V X E nL (pc + 2) lv' st I) : V X E nL pc lv (.long x :: st) I :=
  fun H locs _ hP hS hl => lv_lstore hC.1 hC.2.1 hd hl hn hl' (fun ls' h' => k H locs ls' hP hS h')
theorem V_astore_n (hC : Cx X E cc nL own fr lo) {n : Fin 4} {i x : Nat} {lv' : List (Nat × Value)} (hd : decode cc pc = .ok (.astore_n n, 1)) (hi : (n : Nat) = i) (hn : i < nL) (hl' : (i, Value.ref x) :: lv.filter (fun q => !(q.1 == i) && !(q.1 + 1 == i && q.2.category == 2)) = lv') (k : V X E nL (pc + 1) lv' st I) : V X E nL pc lv (.ref x :: st) I :=
  fun H locs _ hP hS hl => lv_astore_n hC.1 hC.2.1 hd hi hl hn hl' (fun ls' h' => k H locs ls' hP hS h')
theorem V_iinc (hC : Cx X E cc nL own fr lo) {i : Nat} {n : Int} {x : Int32} (c : Int32) {lv' : List (Nat × Value)} (j : Nat) (hd : decode cc pc = .ok (.iinc i n, 3)) (hk : lv[j]? = some (i, .int x)) (hv : Int32.ofInt n = c) (hn : i < nL) (hl' : (i, Value.int (x + c)) :: lv.filter (fun q => !(q.1 == i) && !(q.1 + 1 == i && q.2.category == 2)) = lv') (k : V X E nL (pc + 3) lv' st I) : V X E nL pc lv st I :=
  fun H locs _ hP hS hl => lv_iinc (v := x + c) hC.1 hC.2.1 hd hl hk (by rw [hv]) hn hl' (fun ls' h' => k H locs ls' hP hS h')
theorem V_sub (is : List Nat) {lv' : List (Nat × Value)} (h : lv_pick lv is = lv') (k : V X E nL pc lv' st I) : V X E nL pc lv st I :=
  fun H locs ls hP hS hl => k H locs ls hP hS (lv_sub hl is h)
theorem V_iadd (hC : Cx X E cc nL own fr lo) {x y : Int32} (hd : decode cc pc = .ok (.iadd, 1)) (k : V X E nL (pc + 1) lv (.int (x + y) :: st) I) : V X E nL pc lv (.int y :: .int x :: st) I := fun H locs ls hP hS hl => lv_iadd hC.1 hC.2.1 hd (k H locs ls hP hS hl)
theorem V_isub (hC : Cx X E cc nL own fr lo) {x y : Int32} (hd : decode cc pc = .ok (.isub, 1)) (k : V X E nL (pc + 1) lv (.int (x - y) :: st) I) : V X E nL pc lv (.int y :: .int x :: st) I := fun H locs ls hP hS hl => lv_isub hC.1 hC.2.1 hd (k H locs ls hP hS hl)
theorem V_imul (hC : Cx X E cc nL own fr lo) {x y : Int32} (hd : decode cc pc = .ok (.imul, 1)) (k : V X E nL (pc + 1) lv (.int (x * y) :: st) I) : V X E nL pc lv (.int y :: .int x :: st) I := fun H locs ls hP hS hl => lv_imul hC.1 hC.2.1 hd (k H locs ls hP hS hl)
theorem V_iand (hC : Cx X E cc nL own fr lo) {x y : Int32} (hd : decode cc pc = .ok (.iand, 1)) (k : V X E nL (pc + 1) lv (.int (x &&& y) :: st) I) : V X E nL pc lv (.int y :: .int x :: st) I := fun H locs ls hP hS hl => lv_iand hC.1 hC.2.1 hd (k H locs ls hP hS hl)
theorem V_ior (hC : Cx X E cc nL own fr lo) {x y : Int32} (hd : decode cc pc = .ok (.ior, 1)) (k : V X E nL (pc + 1) lv (.int (x ||| y) :: st) I) : V X E nL pc lv (.int y :: .int x :: st) I := fun H locs ls hP hS hl => lv_ior hC.1 hC.2.1 hd (k H locs ls hP hS hl)
theorem V_ixor (hC : Cx X E cc nL own fr lo) {x y : Int32} (hd : decode cc pc = .ok (.ixor, 1)) (k : V X E nL (pc + 1) lv (.int (x ^^^ y) :: st) I) : V X E nL pc lv (.int y :: .int x :: st) I := fun H locs ls hP hS hl => lv_ixor hC.1 hC.2.1 hd (k H locs ls hP hS hl)
theorem V_idiv (hC : Cx X E cc nL own fr lo) {x y : Int32} (hne : ¬ y = 0) (hd : decode cc pc = .ok (.idiv, 1)) (k : V X E nL (pc + 1) lv (.int (x / y) :: st) I) : V X E nL pc lv (.int y :: .int x :: st) I := fun H locs ls hP hS hl => lv_idiv hC.1 hC.2.1 hd hne (k H locs ls hP hS hl)
theorem V_irem (hC : Cx X E cc nL own fr lo) {x y : Int32} (hne : ¬ y = 0) (hd : decode cc pc = .ok (.irem, 1)) (k : V X E nL (pc + 1) lv (.int (x - x / y * y) :: st) I) : V X E nL pc lv (.int y :: .int x :: st) I := fun H locs ls hP hS hl => lv_irem hC.1 hC.2.1 hd hne (k H locs ls hP hS hl)
theorem V_ineg (hC : Cx X E cc nL own fr lo) {x : Int32} (hd : decode cc pc = .ok (.ineg, 1)) (k : V X E nL (pc + 1) lv (.int (-x) :: st) I) : V X E nL pc lv (.int x :: st) I := fun H locs ls hP hS hl => lv_ineg hC.1 hC.2.1 hd (k H locs ls hP hS hl)
theorem V_ishl (hC : Cx X E cc nL own fr lo) {x y : Int32} (hd : decode cc pc = .ok (.ishl, 1)) (k : V X E nL (pc + 1) lv (.int (x <<< (y &&& 31)) :: st) I) : V X E nL pc lv (.int y :: .int x :: st) I := fun H locs ls hP hS hl => lv_ishl hC.1 hC.2.1 hd (k H locs ls hP hS hl)
theorem V_ishr (hC : Cx X E cc nL own fr lo) {x y : Int32} (hd : decode cc pc = .ok (.ishr, 1)) (k : V X E nL (pc + 1) lv (.int (x >>> (y &&& 31)) :: st) I) : V X E nL pc lv (.int y :: .int x :: st) I := fun H locs ls hP hS hl => lv_ishr hC.1 hC.2.1 hd (k H locs ls hP hS hl)
def iushr (x y : Int32) : Int32 := (x.toUInt32 >>> (y.toUInt32 &&& Int32.toUInt32 31)).toInt32
theorem V_iushr (hC : Cx X E cc nL own fr lo) {x y : Int32} (hd : decode cc pc = .ok (.iushr, 1)) (k : V X E nL (pc + 1) lv (.int (iushr x y) :: st) I) : V X E nL pc lv (.int y :: .int x :: st) I := fun H locs ls hP hS hl => lv_iushr hC.1 hC.2.1 hd rfl (k H locs ls hP hS hl)
theorem V_ladd (hC : Cx X E cc nL own fr lo) {x y : Int64} (hd : decode cc pc = .ok (.ladd, 1)) (k : V X E nL (pc + 1) lv (.long (x + y) :: st) I) : V X E nL pc lv (.long y :: .long x :: st) I := fun H locs ls hP hS hl => lv_ladd hC.1 hC.2.1 hd (k H locs ls hP hS hl)
theorem V_lsub (hC : Cx X E cc nL own fr lo) {x y : Int64} (hd : decode cc pc = .ok (.lsub, 1)) (k : V X E nL (pc + 1) lv (.long (x - y) :: st) I) : V X E nL pc lv (.long y :: .long x :: st) I := fun H locs ls hP hS hl => lv_lsub hC.1 hC.2.1 hd (k H locs ls hP hS hl)
theorem V_lmul (hC : Cx X E cc nL own fr lo) {x y : Int64} (hd : decode cc pc = .ok (.lmul, 1)) (k : V X E nL (pc + 1) lv (.long (x * y) :: st) I) : V X E nL pc lv (.long y :: .long x :: st) I := fun H locs ls hP hS hl => lv_lmul hC.1 hC.2.1 hd (k H locs ls hP hS hl)
theorem V_lneg (hC : Cx X E cc nL own fr lo) {x : Int64} (hd : decode cc pc = .ok (.lneg, 1)) (k : V X E nL (pc + 1) lv (.long (-x) :: st) I) : V X E nL pc lv (.long x :: st) I := fun H locs ls hP hS hl => lv_lneg hC.1 hC.2.1 hd (k H locs ls hP hS hl)
theorem V_lcmp (hC : Cx X E cc nL own fr lo) {x y : Int64} (hd : decode cc pc = .ok (.lcmp, 1)) (k : V X E nL (pc + 1) lv (.int (lg_cmp x y) :: st) I) : V X E nL pc lv (.long y :: .long x :: st) I := fun H locs ls hP hS hl => W.lcmp hC.1 hC.2.1 hd (k H locs ls hP hS hl)
theorem V_i2l (hC : Cx X E cc nL own fr lo) {x : Int32} (hd : decode cc pc = .ok (.i2l, 1)) (k : V X E nL (pc + 1) lv (.long x.toInt64 :: st) I) : V X E nL pc lv (.int x :: st) I := fun H locs ls hP hS hl => lv_i2l hC.1 hC.2.1 hd rfl (k H locs ls hP hS hl)
def i2c (x : Int32) : Int32 := (x.toUInt32 % 65536).toInt32
theorem V_i2c (hC : Cx X E cc nL own fr lo) {x : Int32} (hd : decode cc pc = .ok (.i2c, 1)) (k : V X E nL (pc + 1) lv (.int (i2c x) :: st) I) : V X E nL pc lv (.int x :: st) I := fun H locs ls hP hS hl => lv_i2c hC.1 hC.2.1 hd rfl (k H locs ls hP hS hl)
theorem V_dup (hC : Cx X E cc nL own fr lo) {va : Value} (hd : decode cc pc = .ok (.dup, 1)) (hva : va.category = 1) (k : V X E nL (pc + 1) lv (va :: va :: st) I) : V X E nL pc lv (va :: st) I := fun H locs ls hP hS hl => lv_dup hC.1 hC.2.1 hd hva (k H locs ls hP hS hl)
theorem V_dup2 (hC : Cx X E cc nL own fr lo) {va vb : Value} (hd : decode cc pc = .ok (.dup2, 1)) (hva : va.category = 1) (hvb : vb.category = 1) (k : V X E nL (pc + 1) lv (va :: vb :: va :: vb :: st) I) : V X E nL pc lv (va :: vb :: st) I := fun H locs ls hP hS hl => lv_dup2_11 hC.1 hC.2.1 hd hva hvb (k H locs ls hP hS hl)
theorem V_goto (hC : Cx X E cc nL own fr lo) {off : Int} {tgt : Nat} (hd : decode cc pc = .ok (.goto off, 3)) (ht : (pc : Int) + off = (tgt : Int)) (k : V X E nL tgt lv st I) : V X E nL pc lv st I := fun H locs ls hP hS hl => lv_goto hC.1 hC.2.1 hd ht (k H locs ls hP hS hl)
theorem V_if_eq (hC : Cx X E cc nL own fr lo) {x : Int32} {off : Int} {tgt : Nat} (hd : decode cc pc = .ok (.ifCond .eq off, 3)) (ht : (pc : Int) + off = (tgt : Int)) (kt : x = 0 → V X E nL tgt lv st I) (kf : ¬ x = 0 → V X E nL (pc + 3) lv st I) : V X E nL pc lv (.int x :: st) I := fun H locs ls hP hS hl => lv_if_eq hC.1 hC.2.1 hd ht (fun c => kt c H locs ls hP hS hl) (fun c => kf c H locs ls hP hS hl)
theorem V_if_ne (hC : Cx X E cc nL own fr lo) {x : Int32} {off : Int} {tgt : Nat} (hd : decode cc pc = .ok (.ifCond .ne off, 3)) (ht : (pc : Int) + off = (tgt : Int)) (kt : ¬ x = 0 → V X E nL tgt lv st I) (kf : x = 0 → V X E nL (pc + 3) lv st I) : V X E nL pc lv (.int x :: st) I := fun H locs ls hP hS hl => lv_if_ne hC.1 hC.2.1 hd ht (fun c => kt c H locs ls hP hS hl) (fun c => kf c H locs ls hP hS hl)
theorem V_if_lt (hC : Cx X E cc nL own fr lo) {x : Int32} {off : Int} {tgt : Nat} (hd : decode cc pc = .ok (.ifCond .lt off, 3)) (ht : (pc : Int) + off = (tgt : Int)) (kt : x < 0 → V X E nL tgt lv st I) (kf : ¬ x < 0 → V X E nL (pc + 3) lv st I) : V X E nL pc lv (.int x :: st) I := fun H locs ls hP hS hl => lv_if_lt hC.1 hC.2.1 hd ht (fun c => kt c H locs ls hP hS hl) (fun c => kf c H locs ls hP hS hl)
theorem V_if_ge (hC : Cx X E cc nL own fr lo) {x : Int32} {off : Int} {tgt : Nat} (hd : decode cc pc = .ok (.ifCond .ge off, 3)) (ht : (pc : Int) + off = (tgt : Int)) (kt : 0 ≤ x → V X E nL tgt lv st I) (kf : ¬ 0 ≤ x → V X E nL (pc + 3) lv st I) : V X E nL pc lv (.int x :: st) I := fun H locs ls hP hS hl => lv_if_ge hC.1 hC.2.1 hd ht (fun c => kt c H locs ls hP hS hl) (fun c => kf c H locs ls hP hS hl)
theorem V_if_gt (hC : Cx X E cc nL own fr lo) {x : Int32} {off : Int} {tgt : Nat} (hd : decode cc pc = .ok (.ifCond .gt off, 3)) (ht : (pc : Int) + off = (tgt : Int)) (kt : 0 < x → V X E nL tgt lv st I) (kf : ¬ 0 < x → V X E nL (pc + 3) lv st I) : V X E nL pc lv (.int x :: st) I := fun H locs ls hP hS hl => lv_if_gt hC.1 hC.2.1 hd ht (fun c => kt c H locs ls hP hS hl) (fun c => kf c H locs ls hP hS hl)
theorem V_if_le (hC : Cx X E cc nL own fr lo) {x : Int32} {off : Int} {tgt : Nat} (hd : decode cc pc = .ok (.ifCond .le off, 3)) (ht : (pc : Int) + off = (tgt : Int)) (kt : x ≤ 0 → V X E nL tgt lv st I) (kf : ¬ x ≤ 0 → V X E nL (pc + 3) lv st I) : V X E nL pc lv (.int x :: st) I := fun H locs ls hP hS hl => lv_if_le hC.1 hC.2.1 hd ht (fun c => kt c H locs ls hP hS hl) (fun c => kf c H locs ls hP hS hl)
theorem V_icmp_eq (hC : Cx X E cc nL own fr lo) {x y : Int32} {off : Int} {tgt : Nat} (hd : decode cc pc = .ok (.if_icmp .eq off, 3)) (ht : (pc : Int) + off = (tgt : Int)) (kt : x = y → V X E nL tgt lv st I) (kf : ¬ x = y → V X E nL (pc + 3) lv st I) : V X E nL pc lv (.int y :: .int x :: st) I := fun H locs ls hP hS hl => lv_icmp_eq hC.1 hC.2.1 hd ht (fun c => kt c H locs ls hP hS hl) (fun c => kf c H locs ls hP hS hl)
theorem V_icmp_ne (hC : Cx X E cc nL own fr lo) {x y : Int32} {off : Int} {tgt : Nat} (hd : decode cc pc = .ok (.if_icmp .ne off, 3)) (ht : (pc : Int) + off = (tgt : Int)) (kt : ¬ x = y → V X E nL tgt lv st I) (kf : x = y → V X E nL (pc + 3) lv st I) : V X E nL pc lv (.int y :: .int x :: st) I := fun H locs ls hP hS hl => lv_icmp_ne hC.1 hC.2.1 hd ht (fun c => kt c H locs ls hP hS hl) (fun c => kf c H locs ls hP hS hl)
theorem V_icmp_lt (hC : Cx X E cc nL own fr lo) {x y : Int32} {off : Int} {tgt : Nat} (hd : decode cc pc = .ok (.if_icmp .lt off, 3)) (ht : (pc : Int) + off = (tgt : Int)) (kt : x < y → V X E nL tgt lv st I) (kf : ¬ x < y → V X E nL (pc + 3) lv st I) : V X E nL pc lv (.int y :: .int x :: st) I := fun H locs ls hP hS hl => lv_icmp_lt hC.1 hC.2.1 hd ht (fun c => kt c H locs ls hP hS hl) (fun c => kf c H locs ls hP hS hl)
theorem V_icmp_ge (hC : Cx X E cc nL own fr lo) {x y : Int32} {off : Int} {tgt : Nat} (hd : decode cc pc = .ok (.if_icmp .ge off, 3)) (ht : (pc : Int) + off = (tgt : Int)) (kt : y ≤ x → V X E nL tgt lv st I) (kf : ¬ y ≤ x → V X E nL (pc + 3) lv st I) : V X E nL pc lv (.int y :: .int x :: st) I := fun H locs ls hP hS hl => lv_icmp_ge hC.1 hC.2.1 hd ht (fun c => kt c H locs ls hP hS hl) (fun c => kf c H locs ls hP hS hl)
theorem V_icmp_gt (hC : Cx X E cc nL own fr lo) {x y : Int32} {off : Int} {tgt : Nat} (hd : decode cc pc = .ok (.if_icmp .gt off, 3)) (ht : (pc : Int) + off = (tgt : Int)) (kt : y < x → V X E nL tgt lv st I) (kf : ¬ y < x → V X E nL (pc + 3) lv st I) : V X E nL pc lv (.int y :: .int x :: st) I := fun H locs ls hP hS hl => lv_icmp_gt hC.1 hC.2.1 hd ht (fun c => kt c H locs ls hP hS hl) (fun c => kf c H locs ls hP hS hl)
theorem V_icmp_le (hC : Cx X E cc nL own fr lo) {x y : Int32} {off : Int} {tgt : Nat} (hd : decode cc pc = .ok (.if_icmp .le off, 3)) (ht : (pc : Int) + off = (tgt : Int)) (kt : x ≤ y → V X E nL tgt lv st I) (kf : ¬ x ≤ y → V X E nL (pc + 3) lv st I) : V X E nL pc lv (.int y :: .int x :: st) I := fun H locs ls hP hS hl => lv_icmp_le hC.1 hC.2.1 hd ht (fun c => kt c H locs ls hP hS hl) (fun c => kf c H locs ls hP hS hl)
theorem V_lookup (hC : Cx X E cc nL own fr lo) {dflt : Int} {ps : Array (Int × Int)} {len : Nat} {x : Int32} {off : Int} {tgt : Nat} (hd : decode cc pc = .ok (.lookupswitch dflt ps, len)) (hp : (ps.toList.zip (ps.toList.drop 1)).all (fun (a, next) => a.1 < next.1) = true) (ho : Op.lookupswitch.offset ps.toList dflt x.toInt = off) (ht : (pc : Int) + off = (tgt : Int)) (k : V X E nL tgt lv st I) : V X E nL pc lv (.int x :: st) I := fun H locs ls hP hS hl => lv_lookup hC.1 hC.2.1 hd hp ho ht (k H locs ls hP hS hl)
theorem V_tableOut (hC : Cx X E cc nL own fr lo) {dflt l0 hi : Int} {offs : Array Int} {len : Nat} {x : Int32} {tgt : Nat} (hd : decode cc pc = .ok (.tableswitch dflt l0 hi offs, len)) (h : x.toInt < l0 ∨ hi < x.toInt) (ht : (pc : Int) + dflt = (tgt : Int)) (k : V X E nL tgt lv st I) : V X E nL pc lv (.int x :: st) I := fun H locs ls hP hS hl => lv_tableOut hC.1 hC.2.1 hd h ht (k H locs ls hP hS hl)
theorem V_tableIn (hC : Cx X E cc nL own fr lo) {dflt l0 hi : Int} {offs : Array Int} {len : Nat} {x : Int32} {off : Int} {tgt : Nat} (hd : decode cc pc = .ok (.tableswitch dflt l0 hi offs, len)) (h1 : ¬ x.toInt < l0) (h2 : ¬ hi < x.toInt) (ho : offs[(x.toInt - l0).toNat]? = some off) (ht : (pc : Int) + off = (tgt : Int)) (k : V X E nL tgt lv st I) : V X E nL pc lv (.int x :: st) I := fun H locs ls hP hS hl => lv_tableIn hC.1 hC.2.1 hd h1 h2 ho ht (k H locs ls hP hS hl)
theorem V_ireturn {r : Int32} {ret : Option FieldType} (hR : Rt X E cc ret (some (.int r)) I) (hn : retOk ret (some (.int r))) (hd : decode cc pc = .ok (.ireturn, 1)) : V X E nL pc lv [.int r] I := fun H locs ls hP hS _ => hR pc ls H locs hP hS hn hd
theorem V_lreturn {r : Int64} {ret : Option FieldType} (hR : Rt X E cc ret (some (.long r)) I) (hn : retOk ret (some (.long r))) (hd : decode cc pc = .ok (.lreturn, 1)) : V X E nL pc lv [.long r] I := fun H locs ls hP hS _ => hR pc ls H locs hP hS hn hd
theorem V_areturn {r : Nat} {ret : Option FieldType} (hR : Rt X E cc ret (some (.ref r)) I) (hn : retOk ret (some (.ref r))) (hd : decode cc pc = .ok (.areturn, 1)) : V X E nL pc lv [.ref r] I := fun H locs ls hP hS _ => hR pc ls H locs hP hS hn hd
theorem V_return {ret : Option FieldType} (hR : Rt X E cc ret none I) (hn : retOk ret none) (hd : decode cc pc = .ok (.return_, 1)) : V X E nL pc lv [] I := fun H locs ls hP hS _ => hR pc ls H locs hP hS hn hd
theorem nar_z {x : Int32} (h : vp_nar .boolean x = x) : retOk (some .boolean) (some (.int x)) := congrArg Value.int h
theorem nar_c {x : Int32} (h : vp_nar .char x = x) : retOk (some .char) (some (.int x)) := congrArg Value.int h
def inB (i : Int32) (n : Nat) : Bool := decide (0 ≤ i.toInt ∧ i.toInt < n)
theorem inB_of {i : Int32} {n : Nat} (h : inB i n = true) : vp_in i n := vp_in_iff.mpr (of_decide_eq_true h)
theorem if_some {α : Type} {c : Prop} {hc : Decidable c} {a : Option α} {o : α} (h : (if c then a else none) = some o) : c ∧ a = some o := by
  by_cases z : c
  · rw [if_pos z] at h
    exact ⟨z, h⟩
  · rw [if_neg z] at h
    cases h
theorem ite_t {α : Type} {c : Prop} {hc : Decidable c} {a b o : α} (h : (if c then a else b) = o) (z : c) : a = o := by rw [if_pos z] at h; exact h
theorem ite_f {α : Type} {c : Prop} {hc : Decidable c} {a b o : α} (h : (if c then a else b) = o) (z : ¬ c) : b = o := by rw [if_neg z] at h; exact h
theorem bind_some {α β : Type} {x : Option α} {f : α → Option β} {o : β} (h : Option.bind x f = some o) : ∃ r, x = some r ∧ f r = some o := Option.bind_eq_some_iff.mp h
/-! fields -/
theorem V_get (hC : Cx X E cc nL own fr lo) {id ci k index : Nat} {fs : List Value} {C : String} {T : u_T} {N : Nat} {v : Value} (hid : id < 82) (hcel : cel E.2.1 E.2.2 id (I id) = .inr (ci, fs)) (hc : vwCl[ci]? = some (C, T, N)) (hin : ∀ w ∈ u_ws C T N, w ∈ TB) (hk : k < N) (hlink : Cond.fieldLink own index C (T k).2.1 (T k).2.2.1 ∈ TB) (hT : (T k).1 = C) (hv : fs[k]? = some v) (hd : decode cc pc = .ok (.getfield index, 3)) (kk : V X E nL (pc + 3) lv (v :: st) I) : V X E nL pc lv (.ref (E.2.1 id) :: st) I := by
  obtain ⟨hx, hb, hml, hown, hts, hK, -⟩ := hC
  intro H locs ls hP hS hl
  exact va_get (D := E.1) hx hb hts hin hown hK hP id (by rw [mkW_get hid, hcel]) hc k hk (hts _ hlink) (fun x h => by rw [hT] at h; exact h) hv hd (kk H locs ls hP hS hl)
theorem V_getN (hC : Cx X E cc nL own fr lo) {id ci k index : Nat} {fs : List Value} {C host : String} {T : u_T} {N : Nat} {v : Value} (hid : id < 82) (hcel : cel E.2.1 E.2.2 id (I id) = .inr (ci, fs)) (hc : vwCl[ci]? = some (C, T, N)) (hin : ∀ w ∈ u_ws C T N, w ∈ TB) (hk : k < N) (hlink : Cond.fieldLinkNest own index C (T k).2.1 (T k).2.2.1 host ∈ nestWs) (hT : (T k).1 = C) (hv : fs[k]? = some v) (hd : decode cc pc = .ok (.getfield index, 3)) (kk : V X E nL (pc + 3) lv (v :: st) I) : V X E nL pc lv (.ref (E.2.1 id) :: st) I := by
  obtain ⟨hx, hb, hml, hown, hts, hK, hSx, -⟩ := hC
  intro H locs ls hP hS hl
  exact va_getN (D := E.1) (host := host) hx hb hts hin hown hK hP id (by rw [mkW_get hid, hcel]) hc k hk (va_Nw.use rfl (hSx.2.2 _ hlink)) (fun x h => by rw [hT] at h; exact h) hv hd (kk H locs ls hP hS hl)
theorem V_put (hC : Cx X E cc nL own fr lo) {id ci k index : Nat} {fs : List Value} {C : String} {T : u_T} {N : Nat} (ty0 : Nat → FieldType) {ty : FieldType} {x : Int32} (hid : id < 82) (hcel : cel E.2.1 E.2.2 id (I id) = .inr (ci, fs)) (hcel' : cel E.2.1 E.2.2 id (upd (I id) k x) = .inr (ci, fs.set k (.int x))) (hc : vwCl[ci]? = some (C, T, N)) (hin : ∀ w ∈ u_ws C T N, w ∈ TB) (hty : ∀ k, k < N → parseFieldDescriptor (T k).2.2.1 = some (ty0 k)) (hnm : ∀ a, a < N → ∀ b, b < N → a ≠ b → (T a).2.1 ≠ (T b).2.1) (hk : k < N) (hlink : Cond.fieldLink own index C (T k).2.1 (T k).2.2.1 ∈ TB) (hT : (T k).1 = C) (hfin : (T k).2.2.2 = false) (hdd : parseFieldDescriptor (T k).2.2.1 = some ty) (hn : narrow ty (.int x) = .int x) (hfit : fits ty (.int x) = true) (hl0 : k < fs.length) (hd : decode cc pc = .ok (.putfield index, 3)) (kk : V X E nL (pc + 3) lv st (up2 I id k x)) : V X E nL pc lv (.int x :: .ref (E.2.1 id) :: st) I := by
  obtain ⟨hx, hb, hml, hown, hts, hK, hSx, hE, hA, -⟩ := hC
  intro H locs ls hP hS hl
  refine va_put (D := E.1) hx hb hts hin ty0 hty hnm hown hK hP ((mkW_D hE).weaken (fun _ q _ h => hA _ h)) hS id (by rw [mkW_get hid, hcel]) hc k hk (hts _ hlink) (fun x h => by rw [hT] at h; exact h) hfin hdd hn hfit hl0 hd (fun H1 locs1 hP1 _ hS1 => kk H1 locs1 ls ?_ hS1 hl)
  rw [← hcel', mkW_set _ hid] at hP1
  exact hP1
theorem V_putN (hC : Cx X E cc nL own fr lo) {id ci k index : Nat} {fs : List Value} {C host : String} {T : u_T} {N : Nat} (ty0 : Nat → FieldType) {ty : FieldType} {x : Int32} (hid : id < 82) (hcel : cel E.2.1 E.2.2 id (I id) = .inr (ci, fs)) (hcel' : cel E.2.1 E.2.2 id (upd (I id) k x) = .inr (ci, fs.set k (.int x))) (hc : vwCl[ci]? = some (C, T, N)) (hin : ∀ w ∈ u_ws C T N, w ∈ TB) (hty : ∀ k, k < N → parseFieldDescriptor (T k).2.2.1 = some (ty0 k)) (hnm : ∀ a, a < N → ∀ b, b < N → a ≠ b → (T a).2.1 ≠ (T b).2.1) (hk : k < N) (hlink : Cond.fieldLinkNest own index C (T k).2.1 (T k).2.2.1 host ∈ nestWs) (hT : (T k).1 = C) (hfin : (T k).2.2.2 = false) (hdd : parseFieldDescriptor (T k).2.2.1 = some ty) (hn : narrow ty (.int x) = .int x) (hfit : fits ty (.int x) = true) (hl0 : k < fs.length) (hd : decode cc pc = .ok (.putfield index, 3)) (kk : V X E nL (pc + 3) lv st (up2 I id k x)) : V X E nL pc lv (.int x :: .ref (E.2.1 id) :: st) I := by
  obtain ⟨hx, hb, hml, hown, hts, hK, hSx, hE, hA, -⟩ := hC
  intro H locs ls hP hS hl
  refine va_putN (D := E.1) (host := host) hx hb hts hin ty0 hty hnm hown hK hP ((mkW_D hE).weaken (fun _ q _ h => hA _ h)) hS id (by rw [mkW_get hid, hcel]) hc k hk (va_Nw.use rfl (hSx.2.2 _ hlink)) (fun x h => by rw [hT] at h; exact h) hfin hdd hn hfit hl0 hd (fun H1 locs1 hP1 _ hS1 => kk H1 locs1 ls ?_ hS1 hl)
  rw [← hcel', mkW_set _ hid] at hP1
  exact hP1
/-! arrays -/
def IA (a n : Nat) : Prop := a < 82 ∧ ∀ (ad cc : Nat → Nat) (f : Nat → Int32), cel ad cc a f = .inl (cc 0, n, .inl f)
def CA (a n : Nat) : Prop := a < 82 ∧ ∀ (ad cc : Nat → Nat) (f : Nat → Int32), cel ad cc a f = .inl (cc 1, n, .inl f)
def ZA (a n : Nat) : Prop := a < 82 ∧ ∀ (ad cc : Nat → Nat) (f : Nat → Int32), cel ad cc a f = .inl (cc 2, n, .inl f)
theorem V_iald (hC : Cx X E cc nL own fr lo) {a n : Nat} (ha : IA a n) {i : Int32} (hin : vp_in i n) (hd : decode cc pc = .ok (.iaload, 1)) (kk : V X E nL (pc + 1) lv (.int (I a i.toNatClampNeg) :: st) I) : V X E nL pc lv (.int i :: .ref (E.2.1 a) :: st) I := by
  obtain ⟨hx, hb, hml, hown, hts, hK, -⟩ := hC
  intro H locs ls hP hS hl
  exact va_iald (D := E.1) hx hb hK hP a 0 (by rw [mkW_get ha.1, ha.2]) rfl hin hd (kk H locs ls hP hS hl)
theorem V_cald (hC : Cx X E cc nL own fr lo) {a n : Nat} (ha : CA a n) {i : Int32} (hin : vp_in i n) (hd : decode cc pc = .ok (.caload, 1)) (kk : V X E nL (pc + 1) lv (.int (I a i.toNatClampNeg) :: st) I) : V X E nL pc lv (.int i :: .ref (E.2.1 a) :: st) I := by
  obtain ⟨hx, hb, hml, hown, hts, hK, -⟩ := hC
  intro H locs ls hP hS hl
  exact va_cald (D := E.1) hx hb hK hP a 1 (by rw [mkW_get ha.1, ha.2]) rfl hin hd (kk H locs ls hP hS hl)
theorem V_zald (hC : Cx X E cc nL own fr lo) {a n : Nat} (ha : ZA a n) {i : Int32} (hin : vp_in i n) (hd : decode cc pc = .ok (.baload, 1)) (kk : V X E nL (pc + 1) lv (.int (I a i.toNatClampNeg) :: st) I) : V X E nL pc lv (.int i :: .ref (E.2.1 a) :: st) I := by
  obtain ⟨hx, hb, hml, hown, hts, hK, -⟩ := hC
  intro H locs ls hP hS hl
  exact va_zald (D := E.1) hx hb hK hP a 2 (by rw [mkW_get ha.1, ha.2]) rfl hin hd (kk H locs ls hP hS hl)
theorem V_iast (hC : Cx X E cc nL own fr lo) {a n : Nat} (ha : IA a n) {i x : Int32} (hin : vp_in i n) (hd : decode cc pc = .ok (.iastore, 1)) (kk : V X E nL (pc + 1) lv st (up2 I a i.toNatClampNeg x)) : V X E nL pc lv (.int x :: .int i :: .ref (E.2.1 a) :: st) I := by
  obtain ⟨hx, hb, hml, hown, hts, hK, hSx, hE, hA, -⟩ := hC
  intro H locs ls hP hS hl
  refine va_iast (D := E.1) hx hb hK hP ((mkW_D hE).weaken (fun _ q _ h => hA _ h)) hS a 0 (by rw [mkW_get ha.1, ha.2]) rfl hin hd (fun H1 locs1 hP1 _ hS1 => kk H1 locs1 ls ?_ hS1 hl)
  rw [← ha.2 E.2.1 E.2.2, mkW_set _ ha.1] at hP1
  exact hP1
theorem V_cast (hC : Cx X E cc nL own fr lo) {a n : Nat} (ha : CA a n) {i x : Int32} (hin : vp_in i n) (hd : decode cc pc = .ok (.castore, 1)) (kk : V X E nL (pc + 1) lv st (up2 I a i.toNatClampNeg (vp_nar .char x))) : V X E nL pc lv (.int x :: .int i :: .ref (E.2.1 a) :: st) I := by
  obtain ⟨hx, hb, hml, hown, hts, hK, hSx, hE, hA, -⟩ := hC
  intro H locs ls hP hS hl
  refine va_cast (D := E.1) hx hb hK hP ((mkW_D hE).weaken (fun _ q _ h => hA _ h)) hS a 1 (by rw [mkW_get ha.1, ha.2]) rfl hin hd (fun H1 locs1 hP1 _ hS1 => kk H1 locs1 ls ?_ hS1 hl)
  rw [← ha.2 E.2.1 E.2.2, mkW_set _ ha.1] at hP1
  exact hP1
theorem V_zast (hC : Cx X E cc nL own fr lo) {a n : Nat} (ha : ZA a n) {i x : Int32} (hin : vp_in i n) (hd : decode cc pc = .ok (.bastore, 1)) (kk : V X E nL (pc + 1) lv st (up2 I a i.toNatClampNeg (vp_nar .boolean x))) : V X E nL pc lv (.int x :: .int i :: .ref (E.2.1 a) :: st) I := by
  obtain ⟨hx, hb, hml, hown, hts, hK, hSx, hE, hA, -⟩ := hC
  intro H locs ls hP hS hl
  refine va_zast (D := E.1) hx hb hK hP ((mkW_D hE).weaken (fun _ q _ h => hA _ h)) hS a 2 (by rw [mkW_get ha.1, ha.2]) rfl hin hd (fun H1 locs1 hP1 _ hS1 => kk H1 locs1 ls ?_ hS1 hl)
  rw [← ha.2 E.2.1 E.2.2, mkW_set _ ha.1] at hP1
  exact hP1
theorem V_ialen (hC : Cx X E cc nL own fr lo) {a n : Nat} (ha : IA a n) {v : Int32} (hv : Int32.ofNat n = v) (hd : decode cc pc = .ok (.arraylength, 1)) (kk : V X E nL (pc + 1) lv (.int v :: st) I) : V X E nL pc lv (.ref (E.2.1 a) :: st) I := by
  obtain ⟨hx, hb, hml, hown, hts, hK, -⟩ := hC
  intro H locs ls hP hS hl
  exact va_alen (D := E.1) hx hb hK hP a 0 (by rw [mkW_get ha.1, ha.2]) (ty := .int) rfl hv hd (kk H locs ls hP hS hl)
/-- the row of states: it holds numbers of states -/
theorem V_ald50 (hC : Cx X E cc nL own fr lo) {i : Int32} (hin : vp_in i 4) (hd : decode cc pc = .ok (.aaload, 1)) (kk : V X E nL (pc + 1) lv (.ref (E.2.1 (8 * (I 50 i.toNatClampNeg).toNatClampNeg)) :: st) I) : V X E nL pc lv (.int i :: .ref (E.2.1 50) :: st) I := by
  obtain ⟨hx, hb, hml, hown, hts, hK, -⟩ := hC
  intro H locs ls hP hS hl
  exact va_aldq (D := E.1) (C := "SwingWeights$State") (f := fun i => some (E.2.1 (8 * (I 50 i).toNatClampNeg))) hx hb hK hP 50 3 (mkW_get (by decide)) rfl hin hd (kk H locs ls hP hS hl)
theorem V_ast50 (hC : Cx X E cc nL own fr lo) {i : Int32} {s : Nat} (hs : s < 6) (hin : vp_in i 4) (hd : decode cc pc = .ok (.aastore, 1)) (kk : V X E nL (pc + 1) lv st (up2 I 50 i.toNatClampNeg (nI s))) : V X E nL pc lv (.ref (E.2.1 (8 * s)) :: .int i :: .ref (E.2.1 50) :: st) I := by
  obtain ⟨hx, hb, hml, hown, hts, hK, hSx, hE, hA, -⟩ := hC
  intro H locs ls hP hS hl
  have hce : cel E.2.1 E.2.2 (8 * s) (I (8 * s)) = .inr (3, [.int (I (8 * s) 0), .int (I (8 * s) 1), .int (I (8 * s) 2), .ref (E.2.1 (8 * s + 1)), .ref (E.2.1 (8 * s + 2)), .ref (E.2.1 (8 * s + 3)), .ref (E.2.1 (8 * s + 4))]) := by
    unfold cel
    rw [if_pos (by omega), if_pos (by omega)]
  refine va_astq (D := E.1) (r := (RX3, TX3, 7)) (f := fun i => some (E.2.1 (8 * (I 50 i).toNatClampNeg))) hx hb hK hP ((mkW_D hE).weaken (fun _ q _ h => hA _ h)) hS 50 3 (8 * s) 3 (mkW_get (by decide)) rfl (by rw [mkW_get (by omega), hce]) rfl hin hd (fun H1 locs1 hP1 _ hS1 => kk H1 locs1 ls ?_ hS1 hl)
  have e : (fun j => some (E.2.1 (8 * (upd (I 50) i.toNatClampNeg (nI s) j).toNatClampNeg))) = va_up (fun i => some (E.2.1 (8 * (I 50 i).toNatClampNeg))) i.toNatClampNeg (some (E.2.1 (8 * s))) := by
    funext j
    by_cases h : j = i.toNatClampNeg
    · subst h
      simp only [upd, va_up, if_true]
      rw [nI_clamp (by omega)]
    · simp [upd, va_up, h]
  rw [← e] at hP1
  have h2 := mkW_set (E := E) (I := I) (a := 50) (upd (I 50) i.toNatClampNeg (nI s)) (by decide)
  rw [show mkW E (up2 I 50 i.toNatClampNeg (nI s)) = _ from h2.symm]
  exact hP1
/-- the rows of winning -/
theorem V_ald58 (hC : Cx X E cc nL own fr lo) {i : Int32} (hin : vp_in i 11) (hd : decode cc pc = .ok (.aaload, 1)) (kk : V X E nL (pc + 1) lv (.ref (E.2.1 (60 + i.toNatClampNeg)) :: st) I) : V X E nL pc lv (.int i :: .ref (E.2.1 58) :: st) I := by
  obtain ⟨hx, hb, hml, hown, hts, hK, -⟩ := hC
  intro H locs ls hP hS hl
  have hlt : i.toNatClampNeg < 11 := Nat.not_le.mp fun q => hin (Or.inr q)
  have ha : (mkW E I)[58]? = some (E.2.1 58, .inl (E.2.2 4, 11, .inr (.inr (.inr (.inr (fun i => some (E.2.1 (60 + i)))))))) := mkW_get (by decide)
  exact W.aald (v := .ref (E.2.1 (60 + i.toNatClampNeg))) (ty := .array .int) hx hb (hP 58 _ ha) ((hK.2 4 _ rfl).1 11 (fun j => va_rf (some (E.2.1 (60 + j))))) rfl (fun q => by cases q) (by show ¬ (i < 0 ∨ (arrV _ _ _).slots.size ≤ _); rw [arrV_size]; exact hin) (by show (arrV _ _ _).slots[_]? = _; rw [arrV_read _ _ hlt]; rfl) rfl rfl hd (kk H locs ls hP hS hl)
/-- the static table -/
theorem V_gets (hC : Cx X E cc nL own fr lo) {index : Nat} (hlink : Cond.fieldLink own index "SwingWeights" "FACTORIALS" "[I" ∈ TB) (hd : decode cc pc = .ok (.getstatic index, 3)) (kk : V X E nL (pc + 3) lv (.ref (E.2.2 5) :: st) I) : V X E nL pc lv st I := by
  obtain ⟨hx, hb, hml, hown, hts, hK, hSx, hE, hA, hA2, -⟩ := hC
  intro H locs ls hP hS hl
  have hS2 : va_S (fun q => Aw E q ∨ (xs X).heap.size ≤ q) (xs X).heap H (locs.filter (fun _ => false)) := ⟨hS.1, fun q h1 h2 => hS.2.1 q h1 (fun z => h2 (Or.inl (hA2 q h1 z))), fun q hq => by simp at hq⟩
  have hZ2 : va_Z "SwingWeights" "FACTORIALS" "[I" (.ref (E.2.2 5)) (fun q => Aw E q ∨ (xs X).heap.size ≤ q) (xs X) (xs X).heap := by
    obtain ⟨cf, kf, fi, f, a, cell, h1, h2, h3, h4, h5, h6, h7, h8⟩ := hSx.1
    exact ⟨cf, kf, fi, f, a, cell, h1, h2, h3, h4, h5, h6, h7, fun z => z.elim h8 (fun q => absurd (Array.getElem?_eq_some_iff.mp h5).1 (Nat.not_lt.mpr q))⟩
  obtain ⟨cf, kf, fi, f, a, cell, h1, h2, h3, h4, h5, h6, h7, h8⟩ := hZ2
  exact W.gets hx hb hown (hts _ hlink) h1 h2 h3 h4 (by rw [hS2.2.1 a (Array.getElem?_eq_some_iff.mp h5).1 h8]; exact h5) (fun e => by rw [e] at h6; cases h6) h7 rfl hd (kk H locs ls hP hS hl)
theorem V_tld (hC : Cx X E cc nL own fr lo) {i : Int32} (hin : vp_in i 11) (hd : decode cc pc = .ok (.iaload, 1)) (kk : V X E nL (pc + 1) lv (.int (facI i.toNatClampNeg) :: st) I) : V X E nL pc lv (.int i :: .ref (E.2.2 5) :: st) I := by
  obtain ⟨hx, hb, hml, hown, hts, hK, hSx, hE, hA, hA2, -⟩ := hC
  intro H locs ls hP hS hl
  obtain ⟨cell, h1, h2, h3, h4, h5, h6, h7⟩ := hSx.2.1
  have hlt : i.toNatClampNeg < 11 := Nat.not_le.mp fun q => hin (Or.inr q)
  have hh : H[E.2.2 5]? = some cell := by rw [hS.2.1 _ (Array.getElem?_eq_some_iff.mp h1).1 (fun z => h7 (hA2 _ (Array.getElem?_eq_some_iff.mp h1).1 z))]; exact h1
  exact W.iald (v := .int (facI i.toNatClampNeg)) hx hb hh h2 h3 (by intro q; rcases q with q | q; exact hin (Or.inl q); omega) (h6 _ hlt) rfl rfl hd (kk H locs ls hP hS hl)
theorem V_tlen (hC : Cx X E cc nL own fr lo) (hd : decode cc pc = .ok (.arraylength, 1)) (kk : V X E nL (pc + 1) lv (.int (nI 11) :: st) I) : V X E nL pc lv (.ref (E.2.2 5) :: st) I := by
  obtain ⟨hx, hb, hml, hown, hts, hK, hSx, hE, hA, hA2, -⟩ := hC
  intro H locs ls hP hS hl
  obtain ⟨cell, h1, h2, h3, h4, h5, h6, h7⟩ := hSx.2.1
  have hh : H[E.2.2 5]? = some cell := by rw [hS.2.1 _ (Array.getElem?_eq_some_iff.mp h1).1 (fun z => h7 (hA2 _ (Array.getElem?_eq_some_iff.mp h1).1 z))]; exact h1
  exact W.alen (n := Int32.ofNat 11) hx hb hh h2 h5 rfl rfl hd (kk H locs ls hP hS hl)
/-! the JDK's -/
def arrcpy (I : Mem) (a b : Nat) (sp dp n : Int32) : Mem := upr I b (va_cpy (I a) (I b) sp.toNatClampNeg dp.toNatClampNeg n.toNatClampNeg)
theorem V_copy (hC : Cx X E cc nL own fr lo) {index a b n0 n1 : Nat} (ha : IA a n0) (hb1 : IA b n1) {sp dp n : Int32} (hl1 : Cond.methodLink own index arraycopyName ∈ TB) (hl2 : Cond.native arraycopyName ∈ lw_tbl) (hl3 : Cond.static arraycopyName ∈ TB) (hl4 : Cond.initialized "java/lang/System" ∈ TB) (hq : (Cond.native arraycopyName).before (xa X) (xs X) = true)
    (h1 : ¬ sp < 0) (h2 : ¬ dp < 0) (h3 : ¬ n < 0) (h4 : sp.toNatClampNeg + n.toNatClampNeg ≤ n0) (h5 : dp.toNatClampNeg + n.toNatClampNeg ≤ n1) (hfr : 1 ≤ fr) (hlo : (st.map fun v => v.category).sum + (nativeFrameWords "java/lang/System" "arraycopy" 5 + 11) ≤ lo) (hd : decode cc pc = .ok (.invokestatic index, 3)) (kk : V X E nL (pc + 3) lv st (arrcpy I a b sp dp n)) : V X E nL pc lv (.int n :: .int dp :: .ref (E.2.1 b) :: .int sp :: .ref (E.2.1 a) :: st) I := by
  obtain ⟨hx, hb, hml, hown, hts, hK, hSx, hE, hA, hA2, g1, g2, g3, g4⟩ := hC
  intro H locs ls hP hS hl
  refine va_copyi (D := E.1) (c0 := E.2.2 0) (c1 := E.2.2 0) (ty := .int) hx hb (hml.trans hl.1.symm) hown (hts _ hl1) hq (hts _ hl3) (hts _ hl4) hK hP ((mkW_D hE).weaken (fun _ q _ h => hA _ h)) hS a b 0 0 (by rw [mkW_get ha.1, ha.2]) (by rw [mkW_get hb1.1, hb1.2]) rfl rfl rfl h1 h2 h3 h4 h5 (fun _ _ => rfl) (Nat.le_trans hfr g1) (Nat.le_trans hlo g2) hd (fun H1 locs1 hP1 _ hS1 => kk H1 locs1 ls ?_ hS1 hl)
  rw [← hb1.2 E.2.1 E.2.2, mkW_set _ hb1.1] at hP1
  exact hP1
theorem V_max (hC : Cx X E cc nL own fr lo) {index : Nat} {x y : Int32} (hl1 : Cond.methodLink own index Lib.Math.max.name ∈ TB) (hl2 : Cond.static Lib.Math.max.name ∈ TB) (hl3 : Cond.initialized "java/lang/Math" ∈ TB) (hl4 : Cond.code Lib.Math.max.name Lib.Math.max.code 2 (some .int) ∈ TB) (hfr : 1 ≤ fr) (hlo : (st.map fun v => v.category).sum + 13 ≤ lo) (hd : decode cc pc = .ok (.invokestatic index, 3)) (kk : V X E nL (pc + 3) lv (.int (if x < y then y else x) :: st) I) : V X E nL pc lv (.int y :: .int x :: st) I := by
  obtain ⟨hx, hb, hml, hown, hts, hK, hSx, hE, hA, hA2, g1, g2, g3, g4⟩ := hC
  intro H locs ls hP hS hl
  exact va_mmax hx hb (hml.trans hl.1.symm) hown (hts _ hl1) (hts _ hl2) (hts _ hl3) (hts _ hl4) (Nat.le_trans hfr g1) (Nat.le_trans hlo g2) g3 g4 hd (kk H locs ls hP hS hl)
theorem V_abs (hC : Cx X E cc nL own fr lo) {index : Nat} {x : Int32} (hl1 : Cond.methodLink own index Lib.Math.abs.name ∈ TB) (hl2 : Cond.static Lib.Math.abs.name ∈ TB) (hl3 : Cond.initialized "java/lang/Math" ∈ TB) (hl4 : Cond.code Lib.Math.abs.name Lib.Math.abs.code 1 (some .int) ∈ TB) (hfr : 1 ≤ fr) (hlo : (st.map fun v => v.category).sum + 13 ≤ lo) (hd : decode cc pc = .ok (.invokestatic index, 3)) (kk : V X E nL (pc + 3) lv (.int (if 0 ≤ x then x else 0 - x) :: st) I) : V X E nL pc lv (.int x :: st) I := by
  obtain ⟨hx, hb, hml, hown, hts, hK, hSx, hE, hA, hA2, g1, g2, g3, g4⟩ := hC
  intro H locs ls hP hS hl
  exact va_mabs hx hb (hml.trans hl.1.symm) hown (hts _ hl1) (hts _ hl2) (hts _ hl3) (hts _ hl4) (Nat.le_trans hfr g1) (Nat.le_trans hlo g2) g3 g4 hd (kk H locs ls hP hS hl)
/-! calls -/
theorem V_run (hC : Cx X E cc nL own fr lo) {v : Option Value} {I' : Mem} {a : Array Value} (hr : ∀ (H : Heap) (locs : List Loc) (ls : Array Slot), va_P E.1 vwCl (mkW E I) H → va_S (xA X) (xs X).heap H locs → lv_has ls nL lv → va_Run (xp X) (xl X) (xe X) (xR X) (xs X) (xm X) (xa X) (xb X) (xM X) (xc X) H locs (xk X) (xn X) 0 0 (F0 (xm X) pc ls st) rest (QcOf E v I' a) (Aw E))
    (kk : V X E nL (pc + 3) lv (v.toList ++ rest) I') : V X E nL pc lv st I := by
  obtain ⟨hx, hb, hml, hown, hts, hK, hSx, hE, hA, hA2, -⟩ := hC
  intro H locs ls hP hS hl T hT X9
  obtain ⟨v', st₀, t, T', L, h0, X', hL, e1, e2, ⟨hv, hW, hF⟩, stp⟩ := hr H locs ls hP hS hl T hT X9
  cases hv
  obtain ⟨t2, a1, b1⟩ := kk T'.heap (locs ++ L) ls (by rw [e1]; exact hW.1) ⟨Nat.le_trans hS.1 (by rw [e1, ← h0]; exact hF.1), fun q h1 h2 => by
      rw [e1, hF.2 q (by rw [h0]; exact Nat.lt_of_lt_of_le h1 hS.1) (fun z => h2 (hA q z)), h0]
      exact hS.2.1 q h1 h2, fun q hq => by
      rcases List.mem_append.mp hq with h | h
      · exact hS.2.2 q h
      · exact hA _ (hL q h)⟩ hl T' rfl X'
  exact ⟨t2, stp t2 a1, b1⟩
theorem Wd_blind {As : List Value} : FrameBlind (va_Pc As (Wd E I)) := fun a U g mk q => ⟨q.1, q.2.1, va_K.moved (u := U) (U := U.calling g mk a) (Vm.Alike.refl U.vm) q.2.2.1, q.2.2.2.same rfl rfl⟩
theorem Wd_at (hC : Cx X E cc nL own fr lo) {H : Heap} {locs : List Loc} (hP : va_P E.1 vwCl (mkW E I) H) (hS : va_S (xA X) (xs X).heap H locs) : ∀ U : State, U.heap = H → (xs X).WarmedH U.vm → Wd E I U := by
  obtain ⟨hx, hb, hml, hown, hts, hK, hSx, hE, hA, hA2, -⟩ := hC
  intro U hU hW
  exact ⟨by rw [hU]; exact hP, va_K.moved hW.alike hK, hSx.warm hW (fun a h1 h2 => by rw [hU]; exact hS.2.1 a h1 (fun z => h2 (hA2 a h1 z)))⟩
/-- the links of an instance call, of a static one, of a static one to a nest mate -/
def LkV (own : String) (index : Nat) (C : String) (y : MethodName) (cc : ByteArray) (ml : Nat) (ret : Option FieldType) (n : Nat) : Prop := (Cond.methodLink own index y ∈ TB ∧ Cond.instanceMethod y ∈ TB ∧ Cond.selects C y y ∈ TB ∧ Cond.initialized C ∈ TB ∧ Cond.code y cc ml ret ∈ TB) ∧ y.cls = C ∧ y.cls ≠ "java/lang/invoke/MethodHandle" ∧ y.cls ≠ "java/lang/invoke/VarHandle" ∧ (parseMethodDescriptor y.desc).map (fun d => d.parameters.length) = some n
def LkS (own : String) (index : Nat) (y : MethodName) (cc : ByteArray) (ml : Nat) (ret : Option FieldType) (n : Nat) : Prop := (Cond.methodLink own index y ∈ TB ∧ Cond.static y ∈ TB ∧ Cond.initialized y.cls ∈ TB ∧ Cond.code y cc ml ret ∈ TB) ∧ y.cls ≠ "java/lang/invoke/MethodHandle" ∧ y.cls ≠ "java/lang/invoke/VarHandle" ∧ (parseMethodDescriptor y.desc).map (fun d => d.parameters.length) = some n
def LkN (own : String) (index : Nat) (host : String) (y : MethodName) (cc : ByteArray) (ml : Nat) (ret : Option FieldType) (n : Nat) : Prop := (Cond.methodLinkNest own index y host ∈ nestWs ∧ Cond.static y ∈ TB ∧ Cond.initialized y.cls ∈ TB ∧ Cond.code y cc ml ret ∈ TB) ∧ y.cls ≠ "java/lang/invoke/MethodHandle" ∧ y.cls ≠ "java/lang/invoke/VarHandle" ∧ (parseMethodDescriptor y.desc).map (fun d => d.parameters.length) = some n
theorem gTB_code {y : MethodName} {bytes : ByteArray} {ml : Nat} {ret : Option FieldType} (h : Cond.code y bytes ml ret ∈ TB) : GoodIn TB (.code y bytes ml ret :: TB) := gTB (fun w hw => (List.mem_cons.mp hw).elim (fun e => e ▸ h) id)
set_option maxHeartbeats 1000000 in
theorem V_callV (hC : Cx X E cc nL own fr lo) {index n id ci ml fr' lo' : Nat} {C : String} {T : u_T} {N : Nat} {y : MethodName} {bytes : ByteArray} {ret : Option FieldType} {As fs : List Value} {v : Option Value} {I' : Mem} (hk : LkV own index C y bytes ml ret n) (hid : id < 82) (hcel : cel E.2.1 E.2.2 id (I id) = .inr (ci, fs)) (hc : vwCl[ci]? = some (C, T, N)) (hct : Ct E y bytes ml ret fr' lo' (.ref (E.2.1 id) :: As) I v I') (hn : As.length = n) (hst : st = As.reverse ++ .ref (E.2.1 id) :: rest) (hw : (rest.map fun v => v.category).sum ≤ 8) (hR : fr' + 1 ≤ fr ∧ 8 + (ml + 11) + lo' ≤ lo) (hd : decode cc pc = .ok (.invokevirtual index, 3)) (kk : V X E nL (pc + 3) lv (v.toList ++ rest) I') : V X E nL pc lv st I := by
  have hC0 := hC
  obtain ⟨hx, hb, hml, hown, hts, hK, hSx, hE, hA, hA2, g1, g2, g3, g4⟩ := hC
  refine V_run hC0 (a := (Value.ref (E.2.1 id) :: As).toArray) (fun H locs ls hP hS hl => ?_) kk
  obtain ⟨⟨k1, k2, k3, k4, k5⟩, k6⟩ := hk
  refine va_runV (As := As) (rest := rest) (C := C) ⟨hx, hb, hml, hown, hts⟩ (hct (xl X) hE) (cwV n hts (gTB (fun w hw => ?_)) rfl rfl rfl k6 ⟨Nat.le_trans hR.1 g1, Nat.le_trans hR.2 g2⟩) ⟨Wd_blind, va_recv hK hP (ci := ci) (q0 := id) hc (by rw [mkW_get hid, hcel]), fun U hU hW => ⟨rfl, Wd_at hC0 hP hS U hU hW⟩⟩ rfl hn hl.1 hst (lv_room hw) hd ⟨g3, g4⟩
  simp only [wsV, List.cons_append, List.nil_append, List.mem_cons] at hw
  rcases hw with rfl | rfl | rfl | rfl | rfl | hw
  · exact k1
  · exact k2
  · exact k3
  · exact k4
  · exact k5
  · exact hw
set_option maxHeartbeats 1000000 in
theorem V_callS (hC : Cx X E cc nL own fr lo) {index n ml fr' lo' : Nat} {y : MethodName} {bytes : ByteArray} {ret : Option FieldType} {As : List Value} {v : Option Value} {I' : Mem} (hk : LkS own index y bytes ml ret n) (hct : Ct E y bytes ml ret fr' lo' As I v I') (hn : As.length = n) (hst : st = As.reverse ++ rest) (hw : (rest.map fun v => v.category).sum ≤ 8) (hR : fr' + 1 ≤ fr ∧ 8 + (ml + 11) + lo' ≤ lo) (hd : decode cc pc = .ok (.invokestatic index, 3)) (kk : V X E nL (pc + 3) lv (v.toList ++ rest) I') : V X E nL pc lv st I := by
  have hC0 := hC
  obtain ⟨hx, hb, hml, hown, hts, hK, hSx, hE, hA, hA2, g1, g2, g3, g4⟩ := hC
  refine V_run hC0 (a := As.toArray) (fun H locs ls hP hS hl => ?_) kk
  obtain ⟨⟨k1, k2, k3, k4⟩, k6⟩ := hk
  refine va_runS (As := As) (rest := rest) ⟨hx, hb, hml, hown, hts⟩ (hct (xl X) hE) (va_cwS n hts (gTB (fun w hw => ?_)) rfl rfl rfl k6 ⟨Nat.le_trans hR.1 g1, Nat.le_trans hR.2 g2⟩) ⟨Wd_blind, fun U hU hW => ⟨rfl, Wd_at hC0 hP hS U hU hW⟩⟩ rfl hn hl.1 hst (lv_room hw) hd ⟨g3, g4⟩
  simp only [va_wsS, List.cons_append, List.nil_append, List.mem_cons] at hw
  rcases hw with rfl | rfl | rfl | rfl | hw
  · exact k1
  · exact k2
  · exact k3
  · exact k4
  · exact hw
set_option maxHeartbeats 1000000 in
theorem V_callN (hC : Cx X E cc nL own fr lo) {index n ml fr' lo' : Nat} {host : String} {y : MethodName} {bytes : ByteArray} {ret : Option FieldType} {As : List Value} {v : Option Value} {I' : Mem} (hk : LkN own index host y bytes ml ret n) (hct : Ct E y bytes ml ret fr' lo' As I v I') (hn : As.length = n) (hst : st = As.reverse ++ rest) (hw : (rest.map fun v => v.category).sum ≤ 8) (hR : fr' + 1 ≤ fr ∧ 8 + (ml + 11) + lo' ≤ lo) (hd : decode cc pc = .ok (.invokestatic index, 3)) (kk : V X E nL (pc + 3) lv (v.toList ++ rest) I') : V X E nL pc lv st I := by
  have hC0 := hC
  obtain ⟨hx, hb, hml, hown, hts, hK, hSx, hE, hA, hA2, g1, g2, g3, g4⟩ := hC
  refine V_run hC0 (a := As.toArray) (fun H locs ls hP hS hl => ?_) kk
  obtain ⟨⟨k1, k2, k3, k4⟩, k6⟩ := hk
  exact va_runSN (As := As) (rest := rest) (host := host) ⟨hx, hb, hml, hown, hts⟩ (hct (xl X) hE) ⟨va_cnB n hts (gTB_code k4) rfl rfl rfl (hSx.2.2 _ k1) (hts _ k3) k6 ⟨Nat.le_trans hR.1 g1, Nat.le_trans hR.2 g2⟩, hts _ k2, trivial⟩ ⟨Wd_blind, fun U hU hW => ⟨rfl, Wd_at hC0 hP hS U hU hW⟩⟩ rfl hn hl.1 hst (lv_room hw) hd ⟨g3, g4⟩
end RV
