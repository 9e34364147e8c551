-- ===== end of PART A; then your names; then what follows =====
/-! THE CLAIM OUT OF ONE WALK OF THE LAW'S BODY. Your part is whole_start (and what it stands on); all else here is the same for every law, but numbers. -/
def R_law : String := "SwingWeightsLaw"
def lw_P (b : Addr) (xs : List Int32) (args : Array Value) (s : State) : Prop := args = #[.ref b] ∧ s.IntsAt b xs ∧ xs.length ≤ 1536 ∧ (Jvm.Cond.and given_1 narrow_1).before args s = true
def lw_Q (_ : Array Value) (s : State) (o : Outcome) (t : State) : Prop := o = .returned (some (.int 1)) ∧ Framed s o t [] 600000 7302250
def lw_Z (below : List Frame) (a : Array Value) (s : State) : State → Prop := fun t => ∃ o, t.status = .running ∧ Ended t below o ∧ lw_Q a s o t
/-- the law's own end, with 1 on the stack, nothing written that was there before, its room as the claim has it -/
theorem lw_ret {p : Program} {l : Launch} {e : Env} {s : State} {m : MethodId} {below : List Frame} {meth : Method} {c : Code} {b : Nat} (hx : p.tables.exec = Jvm.exec) (hb : c.code = code) (hr : meth.sig.returnType = ret) (hlocks : meth.locks = false) {pc : Nat} {H : Heap} {ls : Array Slot} (hdg : decode code pc = .ok (.ireturn, 1)) : W p l e room_1 s m #[Value.ref b] below meth c H [] 600000 7302250 (lw_Z below #[Value.ref b] s) (F0 m pc ls [.int 1]) := by
  intro T hT X
  obtain ⟨fs, hret, hrun, hended, hW, hframe⟩ := X.leave (v := some (.int 1)) (hlocks := hlocks) (fun h => by rw [hr] at h; cases h)
  have hmeth' : T.vm.method? m = some meth := X.method'
  refine ⟨T.setFrames fs, ?_, .returned (some (.int 1)), hrun, hended, rfl, ⟨_, rfl⟩, hW, hframe⟩
  jvm_step X.here [X.here.top, hx, hb, hdg, hmeth', hr, ret, narrow_b1]
  (try refine ⟨rfl, ?_⟩); (try refine ⟨rfl, ?_⟩)
  first | (intro acts; rw [hret _ acts rfl rfl rfl]) | rw [hret _ _ rfl rfl rfl]
  exact Steps.refl _
/-- what holds at the law's entry: the machine, the code, the tables' words (any of lw_tbl by 'hts w (by decide +kernel)'), the script of L ints xs at the cell b, what the Statement gives of the start (any of its parts by flat_of_before) -/
def lw_At (p : Program) (s : State) (m : MethodId) (meth : Method) (c : Code) (b L : Nat) (xs : Nat → Int32) : Prop :=
  p.tables.exec = Jvm.exec ∧ c.code = code ∧ meth.sig.returnType = ret ∧ c.maxLocals = 4 ∧ s.vm.findClass R_law = some m.cls ∧ (∀ w ∈ lw_tbl, w.before #[Value.ref b] s = true) ∧ va_X b L xs s s.heap ∧ b < s.heap.size ∧ meth.locks = false ∧ (Jvm.Cond.and given_1 narrow_1).before #[Value.ref b] s = true
theorem tb_in {w : Cond} (h : w ∈ TB) : w ∈ lw_tbl := (List.mem_filter.mp h).1
theorem nest_in : ∀ w ∈ nestWs, w ∈ lw_tbl := by
  intro w hw
  have h : nestWs.all (fun w => decide (w ∈ lw_tbl)) = true := by decide +kernel
  exact of_decide_eq_true (List.all_eq_true.mp h w hw)
theorem nest_on : ∀ w ∈ nestWs, w.onTables = true := nest_all (P := fun w => w.onTables = true) (fun _ _ _ _ _ _ => rfl) (fun _ _ _ _ => rfl)
set_option maxHeartbeats 8000000 in
set_option maxRecDepth 100000 in
theorem law_start {p : Program} {e : Env} {s : State} {m : MethodId} {below : List Frame} {meth : Method} {c : Code} (l : Launch) {b L : Nat} {sc : Nat → Int32} (C0 : lw_At p s m meth c b L sc) (hpure : ∃ (k : Nat) (r : Int32 × Mem), f_L_law k b L sc I0 = some r ∧ r.1 = 1) : W p l e room_1 s m #[Value.ref b] below meth c s.heap [] 0 0 (lw_Z below #[Value.ref b] s) (entryFrame m ([Value.ref b] : List Value).toArray 4) := by
  obtain ⟨hx, hb, hr, hml, hown, hts, hX, hbl, hlocks, hgv⟩ := C0
  obtain ⟨kf, r, hf, hr1⟩ := hpure
  have hs := flat_of_before _ hgv
  obtain ⟨k0, i0, hk0⟩ := u_known (C := RX0) (T := TX0) (N := 5) (n := 5) hts (fun w h => tb_in (inTB_X0 w h)) (hts _ (tb_in in_X0))
  obtain ⟨k1, i1, hk1⟩ := u_known (C := RX1) (T := TX1) (N := 2) (n := 2) hts (fun w h => tb_in (inTB_X1 w h)) (hts _ (tb_in in_X1))
  obtain ⟨k2, i2, hk2⟩ := u_known (C := RX2) (T := TX2) (N := 13) (n := 13) hts (fun w h => tb_in (inTB_X2 w h)) (hts _ (tb_in in_X2))
  obtain ⟨k3, i3, hk3⟩ := u_known (C := RX3) (T := TX3) (N := 7) (n := 7) hts (fun w h => tb_in (inTB_X3 w h)) (hts _ (tb_in in_X3))
  obtain ⟨k4, i4, hk4⟩ := u_known (C := RX4) (T := TX4) (N := 2) (n := 2) hts (fun w h => tb_in (inTB_X4 w h)) (hts _ (tb_in in_X4))
  obtain ⟨k5, i5, hk5⟩ := u_known (C := RX5) (T := TX5) (N := 7) (n := 7) hts (fun w h => tb_in (inTB_X5 w h)) (hts _ (tb_in in_X5))
  obtain ⟨k6, i6, hk6⟩ := u_known (C := RX6) (T := TX6) (N := 18) (n := 18) hts (fun w h => tb_in (inTB_X6 w h)) (hts _ (tb_in in_X6))
  obtain ⟨D, hKc⟩ : ∃ D : va_G, ∀ (k : Nat) (q : vw_C), vwCl[k]? = some q → u_Kn s q.1 q.2.1 q.2.2 (D.1 k) (D.2 k) := by
    refine ⟨(fun k => if k = 0 then k0 else if k = 1 then k1 else if k = 2 then k2 else if k = 3 then k3 else if k = 4 then k4 else if k = 5 then k5 else k6, fun k => if k = 0 then i0 else if k = 1 then i1 else if k = 2 then i2 else if k = 3 then i3 else if k = 4 then i4 else if k = 5 then i5 else i6), ?_⟩
    intro k q hq
    match k, hq with
    | 0, hq => cases hq; exact hk0
    | 1, hq => cases hq; exact hk1
    | 2, hq => cases hq; exact hk2
    | 3, hq => cases hq; exact hk3
    | 4, hq => cases hq; exact hk4
    | 5, hq => cases hq; exact hk5
    | 6, hq => cases hq; exact hk6
    | k + 7, hq => simp [vwCl] at hq
  have hK : va_K D vwCl [] s := ⟨hKc, fun k q h => by simp at h⟩
  obtain ⟨cc, hKC⟩ : ∃ cc : Nat → Nat, KC cc s := ⟨fun k => if k = 0 then (s.vm.findClass ("[" ++ FieldType.int.toString)).getD 0 else if k = 1 then (s.vm.findClass ("[" ++ FieldType.char.toString)).getD 0 else if k = 2 then (s.vm.findClass ("[" ++ FieldType.boolean.toString)).getD 0 else if k = 3 then (s.vm.findClass ("[" ++ (FieldType.object "SwingWeights$State").toString)).getD 0 else (s.vm.findClass ("[" ++ (FieldType.array .int).toString)).getD 0, rfl, rfl, rfl, rfl, rfl⟩
  have hKN : KN D cc s := ⟨hK, hKC, va_AO.of (hts (.arrayOver (.object "SwingWeights$State")) (List.mem_append_right _ (List.mem_of_getElem? (i := 94) (by decide +kernel)))), (show (Cond.arrayOver (.array .int)).before #[] s = true from hts (.arrayOver (.array .int)) (List.mem_append_right _ (List.mem_of_getElem? (i := 126) (by decide +kernel)))), fun w hw => va_Nw.of (nest_on w hw) (hts w (nest_in w hw))⟩
  obtain ⟨tS, htS, hT⟩ := va_Tof (args := #[Value.ref b]) (s := s) (tm := Term.static "SwingWeights" "FACTORIALS" "[I") (ty := .int) (N := 11) (f := fun j => .int (facI j)) (A := fun q => s.heap.size ≤ q) (by decide) (hs _ (by decide +kernel)) (va_eqt (hs (Cond.eq (Term.length (Term.static "SwingWeights" "FACTORIALS" "[I")) (Term.int 11)) (by decide +kernel))) (fun j hj => by
    exact match j, hj with
      | 0, _ => va_eqt (hs (Cond.eq (Term.elem (Term.static "SwingWeights" "FACTORIALS" "[I") (Term.int 0)) (Term.int 1)) (by decide +kernel))
      | 1, _ => va_eqt (hs (Cond.eq (Term.elem (Term.static "SwingWeights" "FACTORIALS" "[I") (Term.int 1)) (Term.int 1)) (by decide +kernel))
      | 2, _ => va_eqt (hs (Cond.eq (Term.elem (Term.static "SwingWeights" "FACTORIALS" "[I") (Term.int 2)) (Term.int 2)) (by decide +kernel))
      | 3, _ => va_eqt (hs (Cond.eq (Term.elem (Term.static "SwingWeights" "FACTORIALS" "[I") (Term.int 3)) (Term.int 6)) (by decide +kernel))
      | 4, _ => va_eqt (hs (Cond.eq (Term.elem (Term.static "SwingWeights" "FACTORIALS" "[I") (Term.int 4)) (Term.int 24)) (by decide +kernel))
      | 5, _ => va_eqt (hs (Cond.eq (Term.elem (Term.static "SwingWeights" "FACTORIALS" "[I") (Term.int 5)) (Term.int 120)) (by decide +kernel))
      | 6, _ => va_eqt (hs (Cond.eq (Term.elem (Term.static "SwingWeights" "FACTORIALS" "[I") (Term.int 6)) (Term.int 720)) (by decide +kernel))
      | 7, _ => va_eqt (hs (Cond.eq (Term.elem (Term.static "SwingWeights" "FACTORIALS" "[I") (Term.int 7)) (Term.int 5040)) (by decide +kernel))
      | 8, _ => va_eqt (hs (Cond.eq (Term.elem (Term.static "SwingWeights" "FACTORIALS" "[I") (Term.int 8)) (Term.int 40320)) (by decide +kernel))
      | 9, _ => va_eqt (hs (Cond.eq (Term.elem (Term.static "SwingWeights" "FACTORIALS" "[I") (Term.int 9)) (Term.int 362880)) (by decide +kernel))
      | 10, _ => va_eqt (hs (Cond.eq (Term.elem (Term.static "SwingWeights" "FACTORIALS" "[I") (Term.int 10)) (Term.int 3628800)) (by decide +kernel))
      | j + 11, h => absurd h (by omega)) (fun a h1 h2 => absurd h1 (Nat.not_lt.mpr h2))
  have hZ : va_Z "SwingWeights" "FACTORIALS" "[I" (.ref tS) (fun q => s.heap.size ≤ q) s s.heap := va_Zref (args := #[Value.ref b]) (hts (.laysStatic "SwingWeights" "FACTORIALS" "[I") (List.mem_append_right _ (List.mem_of_getElem? (i := 425) (by decide +kernel)))) (hts _ (tb_in iz_X5)) htS (fun a h1 h2 => absurd h1 (Nat.not_lt.mpr h2))
  have hl := lv_entry ([.ref b]) (n := 4) (Nat.le_of_ble_eq_true rfl)
  rw [lg_entry_eq]
  generalize (lg_sl ([.ref b]) ++ List.replicate (4 - (lg_sl ([.ref b])).length) Slot.unset).toArray = ls at hl ⊢
  have hl : lv_has ls 4 [(0, .ref b)] := hl
  obtain ⟨X, hXe⟩ : ∃ X : XT, X = ((p, l, e, room_1), (s, m, #[Value.ref b], below, meth, c), (lw_Z below #[Value.ref b] s, (fun q => s.heap.size ≤ q), 600000, 7302250)) := ⟨_, rfl⟩
  have hC : CN X D cc cL_law 4 RL 9 320 600000 7302250 := by
    subst hXe
    exact ⟨hx, hb, hml, hown, fun w hw => hts w (tb_in hw), hKN, fun q h => h, Nat.le_refl _, Nat.le_refl _, Nat.le_refl _, Nat.le_refl _⟩
  have main : VN X D 4 0 [(0, .ref b)] [] [] 0 0 := by
    refine N_new (pc := 0) (ci := 5) (fs := [.null, .null, .int 0, .null, .null, .null, .int 0]) (C := RX5) (T := TX5) (N := 7) hC tyX5 inTB_X5 tyX5_ok cl_L_7 in_X5 iz_X5 rfl (by decide +kernel) (by decide) (by decide) dL_law_0 (fun q1 => ?_)
    refine N_dup (pc := 3) hC dL_law_3 rfl ?_
    refine N_callI (pc := 4) hC (k_X5_init (D := D) (cc := cc)) li_L_9 yi_X5 (Nat.le_of_ble_eq_true rfl) (by decide) (by decide) dL_law_4 (fun qa hqa hKa => ?_)
    subst hqa
    refine N_astore_n (pc := 7) (lv' := [(1, .ref (qa 0)), (0, .ref b)]) hC dL_law_7 rfl (by decide) rfl ?_
    refine N_new (pc := 8) (ci := 6) (fs := [.null, .null, .null, .int 0, .int 0, .null, .int 0, .int 0, .int 0, .null, .null, .null, .int 0, .null, .null, .int 0, .null, .int 0]) (C := RX6) (T := TX6) (N := 18) hC tyX6 inTB_X6 tyX6_ok cl_L_10 in_X6 iz_X6 rfl (by decide +kernel) (by decide) (by decide) dL_law_8 (fun q2 => ?_)
    refine N_dup (pc := 11) hC dL_law_11 rfl ?_
    refine N_callI (pc := 12) hC (k_X6_init (D := D) (cc := cc)) li_L_12 yi_X6 (Nat.le_of_ble_eq_true rfl) (by decide) (by decide) dL_law_12 (fun qb hqb hKb => ?_)
    subst hqb
    refine N_astore_n (pc := 15) (lv' := [(2, .ref (qb 0)), (1, .ref (qa 0)), (0, .ref b)]) hC dL_law_15 rfl (by decide) rfl ?_
    intro H locs ls hP hD hS hl
    have hP : va_P D vwCl (swW cc qa ++ moW cc qb) H := hP
    have hD : va_D (xA X) (swW cc qa ++ moW cc qb) := hD
    have hA := ain_of (D := D) (cf := ccOf cc tS) hD
    have hA2 : ∀ a, Aw (D, adOf qa qb, ccOf cc tS) a → s.heap.size ≤ a := fun a h => by
      have := hA a h
      rw [hXe] at this
      exact this
    have hKt : va_K D vwCl (tyE (D, adOf qa qb, ccOf cc tS)) (xs X) := (va_K.app hKa hKb).sub [0, 1, 6, 2, 3] rfl
    have hSx : Sx (D, adOf qa qb, ccOf cc tS) s := ⟨hZ.narrow hA2, hT.narrow hA2, fun w hw => va_Nw.of (nest_on w hw) (hts w (nest_in w hw))⟩
    have hCx : Cx X (D, adOf qa qb, ccOf cc tS) cL_law 4 RL 7 166 := by
      subst hXe
      exact ⟨hx, hb, hml, hown, fun w hw => hts w (tb_in hw), hKt, hSx, eok_of hD, hA, fun q h1 h2 => absurd h1 (Nat.not_lt.mpr h2), (show 7 ≤ room_1.frames from by decide), (show 166 ≤ room_1.locals from by decide), Nat.le_refl _, Nat.le_refl _⟩
    have hB : ScrOk X b L sc := by
      subst hXe
      exact ⟨hX, hbl, Nat.not_le.mpr hbl⟩
    have hR : Rt X (D, adOf qa qb, ccOf cc tS) cL_law (some .boolean) (some (.int r.1)) r.2 := by
      subst hXe
      intro pc ls H locs hP hS _ hd
      rw [hr1]
      exact va_forget hS.2.2 (lw_ret hx hb hr hlocks hd)
    have hW := c_L_law hCx hB hR hf H locs ls (bridge hP) hS hl
    subst hXe
    exact W.widen (k := 600000) (n := 7302250) (by decide) (by decide) hW
  subst hXe
  exact main s.heap [] ls (fun k q h => by simp at h) ⟨fun i j p q h => by simp at h, fun k q h => by simp at h⟩ va_S.rf hl
