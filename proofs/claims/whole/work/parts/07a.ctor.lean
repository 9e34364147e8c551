/-! constructors: worlds as lists that grow -/
def KC (cc : Nat → Nat) (U : State) : Prop := (U.vm.findClass ("[" ++ FieldType.int.toString)).getD 0 = cc 0 ∧ (U.vm.findClass ("[" ++ FieldType.char.toString)).getD 0 = cc 1 ∧ (U.vm.findClass ("[" ++ FieldType.boolean.toString)).getD 0 = cc 2 ∧ (U.vm.findClass ("[" ++ (FieldType.object "SwingWeights$State").toString)).getD 0 = cc 3 ∧ (U.vm.findClass ("[" ++ (FieldType.array .int).toString)).getD 0 = cc 4
theorem KC.moved {cc : Nat → Nat} {u U : State} (hvm : u.vm.Alike U.vm) (h : KC cc u) : KC cc U := by
  unfold KC at h ⊢
  simp only [hvm.findClass] at h ⊢
  exact h
theorem va_AOA.moved {u U : State} (hvm : u.vm.Alike U.vm) {ty : FieldType} (h : va_AOA ty u) : va_AOA ty U := by
  unfold va_AOA at h ⊢
  simp only [Cond.before, Cond.holds, Cond.value] at h ⊢
  rw [hvm.findClass]
  cases hf : u.vm.findClass (FieldType.array ty).toString with
  | none => rw [hf] at h; simp at h
  | some comp =>
    rw [hf] at h
    simp only [Option.bind_some] at h ⊢
    rw [hvm.findIdx_congr _ (fun _ _ _ _ => rfl)]
    generalize hF : (u.vm.classes.findIdx? fun (x : Class) => match x.kind with | .array component _ => component == comp | _ => false) = fi at h ⊢
    cases fi with
    | none => simp at h
    | some c =>
      simp only [Option.bind_some] at h ⊢
      cases hk : u.vm.classes[c]? with
      | none => rw [hk] at h; simp at h
      | some k =>
        obtain ⟨k', hk', ek⟩ := hvm.2.2 _ _ hk
        rw [hk] at h
        rw [hk', hvm.findClass]
        have ekind : k'.kind = k.kind := by rw [ek]
        simp only [Option.map_some] at h ⊢
        rw [ekind]
        exact h
def KN (D : va_G) (cc : Nat → Nat) (U : State) : Prop := va_K D vwCl [] U ∧ KC cc U ∧ va_AO "SwingWeights$State" U ∧ va_AOA .int U ∧ ∀ w ∈ nestWs, va_Nw w U
theorem KN.warm {D : va_G} {cc : Nat → Nat} {s U : State} (h : KN D cc s) (hW : s.WarmedH U.vm) : KN D cc U := ⟨va_K.moved hW.alike h.1, h.2.1.moved hW.alike, h.2.2.1.moved hW.alike, h.2.2.2.1.moved hW.alike, fun w hw => nest_warm hW w hw (h.2.2.2.2 w hw)⟩
theorem KN.same {D : va_G} {cc : Nat → Nat} {u U : State} (h : KN D cc u) (hv : u.vm = U.vm) : KN D cc U := by
  have ha : u.vm.Alike U.vm := by rw [hv]; exact Vm.Alike.refl _
  exact ⟨va_K.moved ha h.1, h.2.1.moved ha, h.2.2.1.moved ha, h.2.2.2.1.moved ha, fun w hw => nest_same hv w hw (h.2.2.2.2 w hw)⟩
theorem nd_range' : ∀ (n a : Nat), va_nd (List.range' a n) = true
  | 0, _ => rfl
  | n + 1, a => by
    rw [List.range'_succ]
    unfold va_nd
    rw [Bool.and_eq_true, decide_eq_true_eq]
    refine ⟨fun h => ?_, nd_range' n (a + 1)⟩
    have := List.mem_range'_1.mp h
    omega
theorem nd_range (n : Nat) : va_nd (List.range n) = true := by rw [List.range_eq_range']; exact nd_range' n 0
theorem vj {A0 : Nat → Prop} {D : va_G} {cl : List vw_C} {wr w1 : va_W} {x : Nat × va_E} {H H1 : Heap} (hP : va_P D cl (wr ++ [x]) H) (hD : va_D A0 (wr ++ [x])) (hk : ∀ q : Nat, q < H.size → ¬ va_A [x] H.size q → H1[q]? = H[q]?) (hF : ∀ q, va_A [x] H.size q → A0 q) (hP1 : va_P D cl w1 H1) (hD1 : va_D (va_A [x] H.size) w1) : va_P D cl (wr ++ w1) H1 ∧ va_D A0 (wr ++ w1) := by
  refine va_join hP hD [wr.length] (List.range wr.length) (by simp) ?_ (nd_range _) ?_ hk hF hP1 hD1
  · apply List.ext_getElem?
    intro i
    rw [List.getElem?_map, List.getElem?_map]
    rcases Nat.lt_or_ge i wr.length with h | h
    · rw [List.getElem?_range h]
      simp [List.getElem?_append_left h, List.getElem?_eq_getElem h]
    · rw [List.getElem?_eq_none (by rw [List.length_range]; exact h), List.getElem?_eq_none h]
      rfl
  · intro i hi hm
    have := List.mem_range.mp hi
    simp at hm
    omega
def VN (X : XT) (D : va_G) (nL pc : Nat) (lv : List (Nat × Value)) (st : List Value) (ws : va_W) (k n : Nat) : Prop := ∀ (H : Heap) (locs : List Loc) (ls : Array Slot), va_P D vwCl ws H → va_D (xA X) ws → va_S (xA X) (xs X).heap H locs → lv_has ls nL lv → W (xp X) (xl X) (xe X) (xR X) (xs X) (xm X) (xa X) (xb X) (xM X) (xc X) H locs k n (xQ X) (F0 (xm X) pc ls st)
def CN (X : XT) (D : va_G) (cc : Nat → Nat) (bc : ByteArray) (nL : Nat) (own : String) (fr lo mc ms : Nat) : Prop :=
  (xp X).tables.exec = Jvm.exec ∧ (xc X).code = bc ∧ (xc X).maxLocals = nL ∧ (xs X).vm.findClass own = some (xm X).cls ∧ (∀ w ∈ TB, w.before (xa X) (xs X) = true) ∧ KN D cc (xs X) ∧ (∀ q, (xs X).heap.size ≤ q → xA X q) ∧ fr ≤ (xR X).frames ∧ lo ≤ (xR X).locals ∧ mc ≤ (xR X).cells ∧ ms ≤ (xR X).slots
section RN
variable {X : XT} {D : va_G} {cc : Nat → Nat} {bc : ByteArray} {nL : Nat} {own : String} {fr lo mc ms pc : Nat} {lv : List (Nat × Value)} {st rest : List Value} {ws : va_W} {k n : Nat}
theorem N_iconst (hC : CN X D cc bc nL own fr lo mc ms) {z : Int} {v : Int32} (hd : decode bc pc = .ok (.iconst z, 1)) (hv : Int32.ofInt z = v) (kk : VN X D nL (pc + 1) lv (.int v :: st) ws k n) : VN X D nL pc lv st ws k n := fun H locs ls hP hD hS hl => lv_iconst hC.1 hC.2.1 hd hv (kk H locs ls hP hD hS hl)
theorem N_bipush (hC : CN X D cc bc nL own fr lo mc ms) {z : Int} {v : Int32} (hd : decode bc pc = .ok (.bipush z, 2)) (hv : (Int8.ofInt z).toInt32 = v) (kk : VN X D nL (pc + 2) lv (.int v :: st) ws k n) : VN X D nL pc lv st ws k n := fun H locs ls hP hD hS hl => lv_bipush hC.1 hC.2.1 hd hv (kk H locs ls hP hD hS hl)
theorem N_sipush (hC : CN X D cc bc nL own fr lo mc ms) {z : Int} {v : Int32} (hd : decode bc pc = .ok (.sipush z, 3)) (hv : (Int16.ofInt z).toInt32 = v) (kk : VN X D nL (pc + 3) lv (.int v :: st) ws k n) : VN X D nL pc lv st ws k n := fun H locs ls hP hD hS hl => lv_sipush hC.1 hC.2.1 hd hv (kk H locs ls hP hD hS hl)
theorem N_aload_n (hC : CN X D cc bc nL own fr lo mc ms) {z : Fin 4} {i x : Nat} (j : Nat) (hd : decode bc pc = .ok (.aload_n z, 1)) (hi : (z : Nat) = i) (hk : lv[j]? = some (i, .ref x)) (kk : VN X D nL (pc + 1) lv (.ref x :: st) ws k n) : VN X D nL pc lv st ws k n := fun H locs ls hP hD hS hl => lv_aload_n hC.1 hC.2.1 hd hi (lv_at hl j hk) (kk H locs ls hP hD hS hl)
theorem N_iload_n (hC : CN X D cc bc nL own fr lo mc ms) {z : Fin 4} {i : Nat} {x : Int32} (j : Nat) (hd : decode bc pc = .ok (.iload_n z, 1)) (hi : (z : Nat) = i) (hk : lv[j]? = some (i, .int x)) (kk : VN X D nL (pc + 1) lv (.int x :: st) ws k n) : VN X D nL pc lv st ws k n := fun H locs ls hP hD hS hl => lv_iload_n hC.1 hC.2.1 hd hi (lv_at hl j hk) (kk H locs ls hP hD hS hl)
theorem N_astore_n (hC : CN X D cc bc nL own fr lo mc ms) {z : Fin 4} {i x : Nat} {lv' : List (Nat × Value)} (hd : decode bc pc = .ok (.astore_n z, 1)) (hi : (z : Nat) = i) (hn : i < nL) (hl' : (i, Value.ref x) :: lv.filter (fun q => !(q.1 == i) && !(q.1 + 1 == i && q.2.category == 2)) = lv') (kk : VN X D nL (pc + 1) lv' st ws k n) : VN X D nL pc lv (.ref x :: st) ws k n := fun H locs _ hP hD hS hl => lv_astore_n hC.1 hC.2.1 hd hi hl hn hl' (fun ls' h' => kk H locs ls' hP hD hS h')
theorem N_istore_n (hC : CN X D cc bc nL own fr lo mc ms) {z : Fin 4} {i : Nat} {x : Int32} {lv' : List (Nat × Value)} (hd : decode bc pc = .ok (.istore_n z, 1)) (hi : (z : Nat) = i) (hn : i < nL) (hl' : (i, Value.int x) :: lv.filter (fun q => !(q.1 == i) && !(q.1 + 1 == i && q.2.category == 2)) = lv') (kk : VN X D nL (pc + 1) lv' st ws k n) : VN X D nL pc lv (.int x :: st) ws k n := fun H locs _ hP hD hS hl => lv_istore_n hC.1 hC.2.1 hd hi hl hn hl' (fun ls' h' => kk H locs ls' hP hD hS h')
theorem N_iinc (hC : CN X D cc bc nL own fr lo mc ms) {i : Nat} {z : Int} {x v : Int32} {lv' : List (Nat × Value)} (j : Nat) (hd : decode bc pc = .ok (.iinc i z, 3)) (hk : lv[j]? = some (i, .int x)) (hv : x + Int32.ofInt z = v) (hn : i < nL) (hl' : (i, Value.int v) :: lv.filter (fun q => !(q.1 == i) && !(q.1 + 1 == i && q.2.category == 2)) = lv') (kk : VN X D nL (pc + 3) lv' st ws k n) : VN X D nL pc lv st ws k n := fun H locs _ hP hD hS hl => lv_iinc (v := v) hC.1 hC.2.1 hd hl hk hv hn hl' (fun ls' h' => kk H locs ls' hP hD hS h')
theorem N_dup (hC : CN X D cc bc nL own fr lo mc ms) {va : Value} (hd : decode bc pc = .ok (.dup, 1)) (hva : va.category = 1) (kk : VN X D nL (pc + 1) lv (va :: va :: st) ws k n) : VN X D nL pc lv (va :: st) ws k n := fun H locs ls hP hD hS hl => lv_dup hC.1 hC.2.1 hd hva (kk H locs ls hP hD hS hl)
theorem N_goto (hC : CN X D cc bc nL own fr lo mc ms) {off : Int} {tgt : Nat} (hd : decode bc pc = .ok (.goto off, 3)) (ht : (pc : Int) + off = (tgt : Int)) (kk : VN X D nL tgt lv st ws k n) : VN X D nL pc lv st ws k n := fun H locs ls hP hD hS hl => lv_goto hC.1 hC.2.1 hd ht (kk H locs ls hP hD hS hl)
theorem N_ge_t (hC : CN X D cc bc nL own fr lo mc ms) {x y : Int32} {off : Int} {tgt : Nat} (hd : decode bc pc = .ok (.if_icmp .ge off, 3)) (ht : (pc : Int) + off = (tgt : Int)) (hc : y ≤ x) (kk : VN X D nL tgt lv st ws k n) : VN X D nL pc lv (.int y :: .int x :: st) ws k n := fun H locs ls hP hD hS hl => lv_icmp_ge hC.1 hC.2.1 hd ht (fun _ => kk H locs ls hP hD hS hl) (fun c => absurd hc c)
theorem N_ge_f (hC : CN X D cc bc nL own fr lo mc ms) {x y : Int32} {off : Int} (tgt : Nat) (hd : decode bc pc = .ok (.if_icmp .ge off, 3)) (ht : (pc : Int) + off = (tgt : Int)) (hc : ¬ y ≤ x) (kk : VN X D nL (pc + 3) lv st ws k n) : VN X D nL pc lv (.int y :: .int x :: st) ws k n := fun H locs ls hP hD hS hl => lv_icmp_ge hC.1 hC.2.1 hd ht (fun c => absurd c hc) (fun _ => kk H locs ls hP hD hS hl)
theorem N_objinit (hC : CN X D cc bc nL own fr lo mc ms) {idx a : Nat} (h1 : Cond.methodLink own idx objectInit ∈ TB) (h2 : Cond.instanceMethod objectInit ∈ TB) (h3 : Cond.code objectInit ⟨#[0xb1]⟩ 1 none ∈ TB) (hfr : 1 ≤ fr) (hlo : (st.map fun v => v.category).sum + 12 ≤ lo) (hd : decode bc pc = .ok (.invokespecial idx, 3)) (kk : VN X D nL (pc + 3) lv st ws k n) : VN X D nL pc lv (.ref a :: st) ws k n := by
  obtain ⟨hx, hb, hml, hown, hts, hK, hA, g1, g2, g3, g4⟩ := hC
  intro H locs ls hP hD hS hl
  refine W.objInit hx hb hown (hts _ h1) (hts _ h2) (hts _ h3) rfl (by rw [hml]; exact hl.1) rfl hd (Nat.le_trans hfr g1) (by show 2 * 0 + _ + 12 ≤ _; omega) ?_
  exact kk H locs ls hP hD hS hl
/-- what a made row tells of its kind -/
def AK (D : va_G) (X : XT) (c : Nat) (ty : FieldType) : Prop := va_K D vwCl [(c, ty)] (xs X)
theorem AK.get {D : va_G} {X : XT} {c : Nat} {tys : List (ClassId × FieldType)} {ty : FieldType} (h : va_K D vwCl (tys ++ [(c, ty)]) (xs X)) : AK D X c ty := h.sub [tys.length] (by simp)
theorem N_newi (hC : CN X D cc bc nL own fr lo mc ms) {z : Int32} {N' : Nat} (hw : Cond.arrayClass .int ∈ TB) (hn : ¬ z < 0) (hN : z.toNatClampNeg = N') (hbytes : N' * 4 ≤ 536870912) (hcells : k + 1 ≤ mc) (hslots : n + N' ≤ ms) (hd : decode bc pc = .ok (.newarray .int, 2)) (kk : ∀ q : Nat, AK D X (cc 0) .int → VN X D nL (pc + 2) lv (.ref q :: st) (ws ++ [(q, .inl (cc 0, N', .inl (fun _ => 0)))]) (k + 1) (n + N')) : VN X D nL pc lv (.int z :: st) ws k n := by
  obtain ⟨hx, hb, hml, hown, hts, hK, hA, g1, g2, g3, g4⟩ := hC
  intro H locs ls hP hD hS hl
  refine va_newa (atype := .int) (ty := .int) (a0 := (N', .inl (fun _ => 0))) hx hb (hts _ hw) rfl hK.1 hP hD hS hA (fun _ => rfl) hn hN hbytes (Nat.le_trans hcells g3) (Nat.le_trans hslots g4) hd (fun q cA H1 hK1 hP1 hD1 hS1 => ?_)
  have e : cA = cc 0 := by
    have h := (hK1.2 0 _ rfl).2
    have h2 : (xs X).vm.findClass ("[" ++ FieldType.int.toString) = some cA := h
    have := hK.2.1.1
    rw [h2] at this
    exact this
  subst e
  exact kk q (AK.get hK1) H1 locs ls hP1 hD1 hS1 hl
theorem N_newc (hC : CN X D cc bc nL own fr lo mc ms) {z : Int32} {N' : Nat} (hw : Cond.arrayClass .char ∈ TB) (hn : ¬ z < 0) (hN : z.toNatClampNeg = N') (hbytes : N' * 4 ≤ 536870912) (hcells : k + 1 ≤ mc) (hslots : n + N' ≤ ms) (hd : decode bc pc = .ok (.newarray .char, 2)) (kk : ∀ q : Nat, AK D X (cc 1) .char → VN X D nL (pc + 2) lv (.ref q :: st) (ws ++ [(q, .inl (cc 1, N', .inl (fun _ => 0)))]) (k + 1) (n + N')) : VN X D nL pc lv (.int z :: st) ws k n := by
  obtain ⟨hx, hb, hml, hown, hts, hK, hA, g1, g2, g3, g4⟩ := hC
  intro H locs ls hP hD hS hl
  refine va_newa (atype := .char) (ty := .char) (a0 := (N', .inl (fun _ => 0))) hx hb (hts _ hw) rfl hK.1 hP hD hS hA (fun _ => rfl) hn hN (by show N' * 2 ≤ _; omega) (Nat.le_trans hcells g3) (Nat.le_trans hslots g4) hd (fun q cA H1 hK1 hP1 hD1 hS1 => ?_)
  have e : cA = cc 1 := by
    have h := (hK1.2 0 _ rfl).2
    have h2 : (xs X).vm.findClass ("[" ++ FieldType.char.toString) = some cA := h
    have := hK.2.1.2.1
    rw [h2] at this
    exact this
  subst e
  exact kk q (AK.get hK1) H1 locs ls hP1 hD1 hS1 hl
theorem N_newz (hC : CN X D cc bc nL own fr lo mc ms) {z : Int32} {N' : Nat} (hw : Cond.arrayClass .boolean ∈ TB) (hn : ¬ z < 0) (hN : z.toNatClampNeg = N') (hbytes : N' * 4 ≤ 536870912) (hcells : k + 1 ≤ mc) (hslots : n + N' ≤ ms) (hd : decode bc pc = .ok (.newarray .boolean, 2)) (kk : ∀ q : Nat, AK D X (cc 2) .boolean → VN X D nL (pc + 2) lv (.ref q :: st) (ws ++ [(q, .inl (cc 2, N', .inl (fun _ => 0)))]) (k + 1) (n + N')) : VN X D nL pc lv (.int z :: st) ws k n := by
  obtain ⟨hx, hb, hml, hown, hts, hK, hA, g1, g2, g3, g4⟩ := hC
  intro H locs ls hP hD hS hl
  refine va_newa (atype := .boolean) (ty := .boolean) (a0 := (N', .inl (fun _ => 0))) hx hb (hts _ hw) rfl hK.1 hP hD hS hA (fun _ => rfl) hn hN (by show N' * 1 ≤ _; omega) (Nat.le_trans hcells g3) (Nat.le_trans hslots g4) hd (fun q cA H1 hK1 hP1 hD1 hS1 => ?_)
  have e : cA = cc 2 := by
    have h := (hK1.2 0 _ rfl).2
    have h2 : (xs X).vm.findClass ("[" ++ FieldType.boolean.toString) = some cA := h
    have := hK.2.1.2.2.1
    rw [h2] at this
    exact this
  subst e
  exact kk q (AK.get hK1) H1 locs ls hP1 hD1 hS1 hl
theorem N_newq (hC : CN X D cc bc nL own fr lo mc ms) {z : Int32} {idx N' : Nat} (hw : Cond.classLink own idx "SwingWeights$State" ∈ TB) (hn : ¬ z < 0) (hN : z.toNatClampNeg = N') (hbytes : N' * 4 ≤ 536870912) (hcells : k + 1 ≤ mc) (hslots : n + N' ≤ ms) (hd : decode bc pc = .ok (.anewarray idx, 3)) (kk : ∀ q : Nat, AK D X (cc 3) (.object "SwingWeights$State") → VN X D nL (pc + 3) lv (.ref q :: st) (ws ++ [(q, .inl (cc 3, N', .inr (.inr (.inr (.inr (fun _ => none))))))]) (k + 1) (n + N')) : VN X D nL pc lv (.int z :: st) ws k n := by
  obtain ⟨hx, hb, hml, hown, hts, hK, hA, g1, g2, g3, g4⟩ := hC
  intro H locs ls hP hD hS hl
  refine va_newq hx hb hown (hts _ hw) hK.2.2.1 hK.1 hP hD hS hA hn hN hbytes (Nat.le_trans hcells g3) (Nat.le_trans hslots g4) hd (fun q cA H1 hK1 hP1 hD1 hS1 => ?_)
  have e : cA = cc 3 := by
    obtain ⟨kA, comp, -, -, -, h2⟩ := (hK1.2 0 _ rfl).2
    have := hK.2.1.2.2.2.1
    rw [h2] at this
    exact this
  subst e
  exact kk q (AK.get hK1) H1 locs ls hP1 hD1 hS1 hl
theorem N_new (hC : CN X D cc bc nL own fr lo mc ms) {C : String} {T : u_T} {N ci idx : Nat} {fs : List Value} (ty : Nat → FieldType) (hin : ∀ w ∈ u_ws C T N, w ∈ TB) (hty : ∀ k, k < N → parseFieldDescriptor (T k).2.2.1 = some (ty k)) (h1 : Cond.classLink own idx C ∈ TB) (h2 : Cond.instantiable C N ∈ TB) (h3 : Cond.initialized C ∈ TB) (hc : vwCl[ci]? = some (C, T, N)) (hfs : ∀ j, j < N → defaultValue (ty j) = vp_V fs j) (hcells : k + 1 ≤ mc) (hslots : n + N ≤ ms) (hd : decode bc pc = .ok (.new idx, 3)) (kk : ∀ q : Nat, VN X D nL (pc + 3) lv (.ref q :: st) (ws ++ [(q, .inr (ci, fs))]) (k + 1) (n + N)) : VN X D nL pc lv st ws k n := by
  obtain ⟨hx, hb, hml, hown, hts, hK, hA, g1, g2, g3, g4⟩ := hC
  intro H locs ls hP hD hS hl
  exact va_new hx hb hts hin ty hty hown (hts _ h1) (hts _ h2) (hts _ h3) hK.1 hP hD hS hA hc hfs (Nat.le_trans hcells g3) (Nat.le_trans hslots g4) hd (fun q H1 hP1 hD1 hS1 => kk q H1 locs ls hP1 hD1 hS1 hl)
theorem N_putF (hC : CN X D cc bc nL own fr lo mc ms) (p : Nat) {a ci f idx : Nat} {v : Value} {fs : List Value} {C : String} {T : u_T} {N : Nat} (ty0 : Nat → FieldType) {ty : FieldType} {ws' : va_W} (hin2 : (xM X).name = "<init>") (he : ws[p]? = some (a, .inr (ci, fs))) (hc : vwCl[ci]? = some (C, T, N)) (hin : ∀ w ∈ u_ws C T N, w ∈ TB) (hty : ∀ k, k < N → parseFieldDescriptor (T k).2.2.1 = some (ty0 k)) (hnm : ∀ a, a < N → ∀ b, b < N → a ≠ b → (T a).2.1 ≠ (T b).2.1) (hk : f < N) (hlink : Cond.fieldLink own idx C (T f).2.1 (T f).2.2.1 ∈ TB) (hT : (T f).1 = C) (hown2 : C = own) (hfin : (T f).2.2.2 = true) (hdd : parseFieldDescriptor (T f).2.2.1 = some ty) (hn : narrow ty v = v) (hfit : fits ty v = true) (hl0 : f < fs.length) (hws : ws.set p (a, .inr (ci, fs.set f v)) = ws') (hd : decode bc pc = .ok (.putfield idx, 3)) (kk : VN X D nL (pc + 3) lv st ws' k n) : VN X D nL pc lv (v :: .ref a :: st) ws k n := by
  obtain ⟨hx, hb, hml, hown, hts, hK, hA, g1, g2, g3, g4⟩ := hC
  intro H locs ls hP hD hS hl
  exact va_putF hx hb hts hin ty0 hty hnm hown hK.1 hP hD hS p he hc f hk (hts _ hlink) (fun x h => by rw [hT] at h; exact h) hfin hin2 (hT.trans hown2) hdd hn hfit hl0 hd (fun H1 locs1 hP1 hD1 hS1 => kk H1 locs1 ls (hws ▸ hP1) (hws ▸ hD1) hS1 hl)
theorem N_put (hC : CN X D cc bc nL own fr lo mc ms) (p : Nat) {a ci f idx : Nat} {v : Value} {fs : List Value} {C : String} {T : u_T} {N : Nat} (ty0 : Nat → FieldType) {ty : FieldType} {ws' : va_W} (he : ws[p]? = some (a, .inr (ci, fs))) (hc : vwCl[ci]? = some (C, T, N)) (hin : ∀ w ∈ u_ws C T N, w ∈ TB) (hty : ∀ k, k < N → parseFieldDescriptor (T k).2.2.1 = some (ty0 k)) (hnm : ∀ a, a < N → ∀ b, b < N → a ≠ b → (T a).2.1 ≠ (T b).2.1) (hk : f < N) (hlink : Cond.fieldLink own idx C (T f).2.1 (T f).2.2.1 ∈ TB) (hT : (T f).1 = C) (hfin : (T f).2.2.2 = false) (hdd : parseFieldDescriptor (T f).2.2.1 = some ty) (hn : narrow ty v = v) (hfit : fits ty v = true) (hl0 : f < fs.length) (hws : ws.set p (a, .inr (ci, fs.set f v)) = ws') (hd : decode bc pc = .ok (.putfield idx, 3)) (kk : VN X D nL (pc + 3) lv st ws' k n) : VN X D nL pc lv (v :: .ref a :: st) ws k n := by
  obtain ⟨hx, hb, hml, hown, hts, hK, hA, g1, g2, g3, g4⟩ := hC
  intro H locs ls hP hD hS hl
  exact va_put hx hb hts hin ty0 hty hnm hown hK.1 hP hD hS p he hc f hk (hts _ hlink) (fun x h => by rw [hT] at h; exact h) hfin hdd hn hfit hl0 hd (fun H1 locs1 hP1 hD1 hS1 => kk H1 locs1 ls (hws ▸ hP1) (hws ▸ hD1) hS1 hl)
theorem N_get (hC : CN X D cc bc nL own fr lo mc ms) (p : Nat) {a ci f idx : Nat} {v : Value} {fs : List Value} {C : String} {T : u_T} {N : Nat} (he : ws[p]? = some (a, .inr (ci, fs))) (hc : vwCl[ci]? = some (C, T, N)) (hin : ∀ w ∈ u_ws C T N, w ∈ TB) (hk : f < N) (hlink : Cond.fieldLink own idx C (T f).2.1 (T f).2.2.1 ∈ TB) (hT : (T f).1 = C) (hv : fs[f]? = some v) (hd : decode bc pc = .ok (.getfield idx, 3)) (kk : VN X D nL (pc + 3) lv (v :: st) ws k n) : VN X D nL pc lv (.ref a :: st) ws k n := by
  obtain ⟨hx, hb, hml, hown, hts, hK, hA, g1, g2, g3, g4⟩ := hC
  intro H locs ls hP hD hS hl
  exact va_get hx hb hts hin hown hK.1 hP p he hc f hk (hts _ hlink) (fun x h => by rw [hT] at h; exact h) hv hd (kk H locs ls hP hD hS hl)
theorem N_iast (hC : CN X D cc bc nL own fr lo mc ms) (p : Nat) {a N : Nat} {f : Nat → Int32} {i x : Int32} {ws' : va_W} (hA2 : AK D X (cc 0) .int) (he : ws[p]? = some (a, .inl (cc 0, N, .inl f))) (hin : vp_in i N) (hws : ws.set p (a, .inl (cc 0, N, .inl (upd f i.toNatClampNeg x))) = ws') (hd : decode bc pc = .ok (.iastore, 1)) (kk : VN X D nL (pc + 1) lv st ws' k n) : VN X D nL pc lv (.int x :: .int i :: .ref a :: st) ws k n := by
  obtain ⟨hx, hb, hml, hown, hts, hK, hA, g1, g2, g3, g4⟩ := hC
  intro H locs ls hP hD hS hl
  exact va_iast hx hb hA2 hP hD hS p 0 he rfl hin hd (fun H1 locs1 hP1 hD1 hS1 => kk H1 locs1 ls (hws ▸ hP1) (hws ▸ hD1) hS1 hl)
theorem N_aast (hC : CN X D cc bc nL own fr lo mc ms) (p qk : Nat) {a v N : Nat} {vs : List Value} {f : Nat → Option Nat} {i : Int32} {ws' : va_W} (hA2 : AK D X (cc 3) (.object "SwingWeights$State")) (he : ws[p]? = some (a, .inl (cc 3, N, .inr (.inr (.inr (.inr f)))))) (hv : ws[qk]? = some (v, .inr (3, vs))) (hin : vp_in i N) (hws : ws.set p (a, .inl (cc 3, N, .inr (.inr (.inr (.inr (va_up f i.toNatClampNeg (some v))))))) = ws') (hd : decode bc pc = .ok (.aastore, 1)) (kk : VN X D nL (pc + 1) lv st ws' k n) : VN X D nL pc lv (.ref v :: .int i :: .ref a :: st) ws k n := by
  obtain ⟨hx, hb, hml, hown, hts, hK, hA, g1, g2, g3, g4⟩ := hC
  intro H locs ls hP hD hS hl
  exact va_astq (r := (RX3, TX3, 7)) hx hb hA2 hP hD hS p 0 qk 3 he rfl hv rfl hin hd (fun H1 locs1 hP1 hD1 hS1 => kk H1 locs1 ls (hws ▸ hP1) (hws ▸ hD1) hS1 hl)
theorem N_mna (hC : CN X D cc bc nL own fr lo mc ms) {z y : Int32} {idx N' K' : Nat} (hw : Cond.classLink own idx ("[" ++ (FieldType.array .int).toString) ∈ TB) (hw2 : Cond.arrayClass .int ∈ TB) (hI : AK D X (cc 0) .int) (hn : ¬ z < 0) (hk0 : ¬ y < 0) (hN : z.toNatClampNeg = N') (hM : y.toNatClampNeg = K') (hb1 : N' * 4 ≤ 536870912) (hb2 : K' * 4 ≤ 536870912) (hcells : k + (1 + N') ≤ mc) (hslots : n + (N' + N' * K') ≤ ms) (hd : decode bc pc = .ok (.multianewarray idx 2, 4)) (kk : ∀ (q : Nat) (r : Nat → Nat), AK D X (cc 4) (.array .int) → VN X D nL (pc + 4) lv (.ref q :: st) (ws ++ (q, .inl (cc 4, N', .inr (.inr (.inr (.inr (fun i => if i < N' then some (r i) else none)))))) :: (List.range N').map (fun i => (r i, .inl (cc 0, K', .inl (fun _ => 0))))) (k + 1 + N') (n + N' + N' * K')) : VN X D nL pc lv (.int y :: .int z :: st) ws k n := by
  obtain ⟨hx, hb, hml, hown, hts, hK, hA, g1, g2, g3, g4⟩ := hC
  intro H locs ls hP hD hS hl
  have hcy : (xs X).vm.findClass (FieldType.array .int).toString = some (cc 0) := by
    have h : (xs X).vm.findClass ("[" ++ FieldType.int.toString) = some (cc 0) := (hI.2 0 _ rfl).2
    exact h
  refine va_mna (X := ws) (L := []) (f := fun _ => .inr (0, [])) (ty := .int) (cy := cc 0) (z := (K', .inl (fun _ => 0))) hx hb hown (hts _ hw) hK.2.2.2.1 (hts _ hw2) hcy hK.1 (by rw [show va_pl [] (fun _ => (.inr (0, []) : va_E)) = [] from rfl, List.append_nil]; exact hP) (by rw [show va_pl [] (fun _ => (.inr (0, []) : va_E)) = [] from rfl, List.append_nil]; exact hD) hS hA hn hk0 hN hM hb1 hb2 (by omega) rfl rfl (Nat.le_trans hcells g3) (Nat.le_trans hslots g4) (fun c => ?_) hd (fun q r cA H1 hr _ hK1 hP1 hD1 hS1 => ?_)
  · show ({ cls := c, slots := Array.replicate K' (.int 0), vm := .none } : Cell) = _
    rw [arrV_new]
    rfl
  have e : cA = cc 4 := by
    have h := (hK1.2 0 _ rfl).2
    have h2 : (xs X).vm.findClass ("[" ++ (FieldType.array .int).toString) = some cA := h
    have := hK.2.1.2.2.2.2
    rw [h2] at this
    exact this
  subst e
  have e2 : (ws ++ [(q, Sum.inl (cc 4, N', .inr (.inr (.inr (.inr (fun i => if i < N' then some (r i) else none))))))]) ++ va_pl ([] ++ (List.range N').map r) (vr_up (fun _ => .inr (0, [])) ((List.range N').map r) (.inl (cc 0, K', .inl (fun _ => 0)))) = ws ++ (q, Sum.inl (cc 4, N', .inr (.inr (.inr (.inr (fun i => if i < N' then some (r i) else none)))))) :: (List.range N').map (fun i => (r i, Sum.inl (cc 0, K', .inl (fun _ => 0)))) := by
    rw [List.append_assoc, List.singleton_append, List.nil_append]
    congr 2
    unfold va_pl
    rw [List.map_map]
    apply List.map_congr_left
    intro i hi
    show (r i, vr_up _ _ _ (r i)) = _
    rw [vr_up_in (List.mem_map.mpr ⟨i, hi, rfl⟩)]
  exact kk q r (AK.get hK1) H1 locs ls (e2 ▸ hP1) (e2 ▸ hD1) hS1 hl
/-- a constructor's contract -/
def Cn (D : va_G) (cc : Nat → Nat) (y : MethodName) (code : ByteArray) (ml fr lo mc ms ci : Nat) (fs : List Value) (out : (Nat → Nat) → va_W) (tys : List (ClassId × FieldType)) : Prop := ∀ (l : Launch) (h0 sz : Nat), Met l y (.code y code ml none :: TB) { frames := fr, cells := mc, slots := ms, locals := lo } (va_Pc [.ref h0] (fun U => U.heap.size = sz ∧ va_P D vwCl [(h0, .inr (ci, fs))] U.heap ∧ KN D cc U)) (va_Qv (fun q : Nat → Nat => q 0 = h0) (fun q t => va_P D vwCl (out q) t.heap ∧ va_K D vwCl tys t ∧ va_D (va_A [(h0, .inr (ci, fs))] sz) (out q)) (va_A [(h0, .inr (ci, fs))] sz)) mc ms (va_A [(h0, .inr (ci, fs))] sz)
/-- the end of a constructor's walk -/
def RtN (X : XT) (D : va_G) (code : ByteArray) (mc ms : Nat) (out : (Nat → Nat) → va_W) (tys : List (ClassId × FieldType)) (h0 : Nat) : Prop := ∀ (nL pc : Nat) (lv : List (Nat × Value)) (q : Nat → Nat) (ws : va_W), q 0 = h0 → ws = out q → va_K D vwCl tys (xs X) → decode code pc = .ok (.return_, 1) → VN X D nL pc lv [] ws mc ms
set_option maxHeartbeats 4000000 in
theorem Cn_of {y : MethodName} {code : ByteArray} {ml ci : Nat} {fs : List Value} {out : (Nat → Nat) → va_W} {tys : List (ClassId × FieldType)} (hy : plainName y.cls = true) (hyn : y.name = "<init>") (hn : 1 ≤ ml) (body : ∀ (X : XT) (h0 : Nat), CN X D cc code ml y.cls fr lo mc ms → (xM X).name = "<init>" → RtN X D code mc ms out tys h0 → VN X D ml 0 [(0, .ref h0)] [] [(h0, .inr (ci, fs))] 0 0) : Cn D cc y code ml fr lo mc ms ci fs out tys := by
  intro l h0 sz
  refine Met.ofW (cc := code) (maxL := ml) (ret := none) hy rfl ?_
  intro p e s m args below meth c s₁ B hml hv
  obtain ⟨rfl, hsz, hP, hK⟩ := hv
  have hx := B.exec
  have hb := B.bytes
  have hr := B.returns
  have hlocks := B.notSynchronized
  have hts := atoms_spec (ws := .code y code ml none :: TB) B.pre
  have hown : s.vm.findClass y.cls = some m.cls := findClass_of_methodNamed B.named
  have hin : meth.name = "<init>" := ((name_of_methodNamed B.named B.method).1).trans hyn
  subst hsz
  have hl := lv_entry ([.ref h0]) (n := ml) (show 1 ≤ ml from hn)
  have hD : va_D (va_A [(h0, (.inr (ci, fs) : va_E))] s.heap.size) [(h0, .inr (ci, fs))] := ⟨fun i j p q hi hj _ => by
      have h1 : i < 1 := (List.getElem?_eq_some_iff.mp hi).1
      have h2 : j < 1 := (List.getElem?_eq_some_iff.mp hj).1
      omega, fun k q hk => va_A.in hk⟩
  rw [lg_entry_eq]
  generalize (lg_sl ([.ref h0]) ++ List.replicate (ml - (lg_sl ([.ref h0])).length) Slot.unset).toArray = ls at hl ⊢
  refine body ((p, l, e, (headSpec (.code y code ml none :: TB) { frames := fr, cells := mc, slots := ms, locals := lo }).room), (s, m, ([.ref h0] : List Value).toArray, below, meth, c), (MQ below (va_Qv (fun q : Nat → Nat => q 0 = h0) (fun q t => va_P D vwCl (out q) t.heap ∧ va_K D vwCl tys t ∧ va_D (va_A [(h0, .inr (ci, fs))] s.heap.size) (out q)) (va_A [(h0, .inr (ci, fs))] s.heap.size)) ([.ref h0] : List Value).toArray s mc ms (va_A [(h0, .inr (ci, fs))] s.heap.size), va_A [(h0, .inr (ci, fs))] s.heap.size, mc, ms)) h0
    ⟨hx, hb, hml, hown, fun w hw => hts w (List.mem_cons_of_mem _ hw), hK, fun q h => Or.inr h, Nat.le_refl _, Nat.le_refl _, Nat.le_refl _, Nat.le_refl _⟩ hin ?_ s.heap [] ls hP hD va_S.rf hl
  intro nL pc lv q ws hq hws hK1 hd H locs ls hP hD hS _
  exact W.vret hx hb hr (fun t ht hW => ⟨⟨q, rfl, hq, by rw [ht, ← hws]; exact hP, va_K.moved hW.alike hK1, by rw [← hws]; exact hD⟩, hS.F ht⟩) hS.2.2 hd hlocks
set_option maxHeartbeats 4000000 in
theorem N_callI (hC : CN X D cc bc nL own fr lo mc ms) {idx a ml fr' lo' mc' ms' ci : Nat} {y : MethodName} {code : ByteArray} {fs : List Value} {out : (Nat → Nat) → va_W} {tys : List (ClassId × FieldType)} (hct : Cn D cc y code ml fr' lo' mc' ms' ci fs out tys) (hk : Cond.methodLink own idx y ∈ TB ∧ Cond.instanceMethod y ∈ TB ∧ Cond.initialized y.cls ∈ TB ∧ Cond.code y code ml none ∈ TB) (hk2 : y.name = "<init>" ∧ y.cls ≠ "java/lang/invoke/MethodHandle" ∧ y.cls ≠ "java/lang/invoke/VarHandle" ∧ (parseMethodDescriptor y.desc).map (fun d => d.parameters.length) = some 0) (hw : (rest.map fun v => v.category).sum ≤ 8) (hR : fr' + 1 ≤ fr ∧ 8 + (ml + 11) + lo' ≤ lo) (hR2 : k + mc' ≤ mc ∧ n + ms' ≤ ms) (hd : decode bc pc = .ok (.invokespecial idx, 3))
    (kk : ∀ q : Nat → Nat, q 0 = a → va_K D vwCl tys (xs X) → VN X D nL (pc + 3) lv rest (ws ++ out q) (k + mc') (n + ms')) : VN X D nL pc lv (.ref a :: rest) (ws ++ [(a, .inr (ci, fs))]) k n := by
  obtain ⟨hx, hb, hml, hown, hts, hK, hA, g1, g2, g3, g4⟩ := hC
  obtain ⟨k1, k2, k3, k4⟩ := hk
  intro H locs ls hP hD hS hl
  have hF : ∀ q, va_A [(a, (.inr (ci, fs) : va_E))] H.size q → xA X q := va_free (wc := [(a, .inr (ci, fs))]) hD hS hA [ws.length] (by simp)
  have hPc : va_P D vwCl [(a, .inr (ci, fs))] H := hP.sub [ws.length] (by simp)
  refine va_callv (va_runI (As := []) (rest := rest) ⟨hx, hb, hml, hown, hts⟩ (hct (xl X) a H.size) (cwI 0 hts (gTB_code k4) rfl rfl rfl (hts _ k3) (hts _ k1) (hts _ k2) hk2.1 hk2.2 ⟨Nat.le_trans hR.1 g1, Nat.le_trans hR.2 g2⟩) ⟨fun a U g mk q => ⟨q.1, q.2.1, q.2.2.1, q.2.2.2.same rfl⟩, fun U hU hW => ⟨rfl, by rw [hU], by rw [hU]; exact hPc, hK.warm hW⟩⟩ rfl rfl hl.1 rfl (lv_room hw) hd ⟨Nat.le_trans hR2.1 g3, Nat.le_trans hR2.2 g4⟩) hS (fun q _ h => hF q h) hF (fun q t H1 locs1 ht hvm hq hB hz1 hk1 hS1 => ?_)
  obtain ⟨hP1, hK1, hD1⟩ := hB
  rw [ht] at hP1
  obtain ⟨hP2, hD2⟩ := vj hP hD hk1 hF hP1 hD1
  exact kk q hq (va_K.moved hvm.symm hK1) H1 locs1 ls hP2 hD2 hS1 hl
set_option maxHeartbeats 4000000 in
theorem N_callIN (hC : CN X D cc bc nL own fr lo mc ms) {idx a ml fr' lo' mc' ms' ci : Nat} {host : String} {y : MethodName} {code : ByteArray} {fs : List Value} {out : (Nat → Nat) → va_W} {tys : List (ClassId × FieldType)} (hct : Cn D cc y code ml fr' lo' mc' ms' ci fs out tys) (hk : Cond.methodLinkNest own idx y host ∈ nestWs ∧ Cond.instanceMethod y ∈ TB ∧ Cond.initialized y.cls ∈ TB ∧ Cond.code y code ml none ∈ TB) (hk2 : y.name = "<init>" ∧ y.cls ≠ "java/lang/invoke/MethodHandle" ∧ y.cls ≠ "java/lang/invoke/VarHandle" ∧ (parseMethodDescriptor y.desc).map (fun d => d.parameters.length) = some 0) (hw : (rest.map fun v => v.category).sum ≤ 8) (hR : fr' + 1 ≤ fr ∧ 8 + (ml + 11) + lo' ≤ lo) (hR2 : k + mc' ≤ mc ∧ n + ms' ≤ ms) (hd : decode bc pc = .ok (.invokespecial idx, 3))
    (kk : ∀ q : Nat → Nat, q 0 = a → va_K D vwCl tys (xs X) → VN X D nL (pc + 3) lv rest (ws ++ out q) (k + mc') (n + ms')) : VN X D nL pc lv (.ref a :: rest) (ws ++ [(a, .inr (ci, fs))]) k n := by
  obtain ⟨hx, hb, hml, hown, hts, hK, hA, g1, g2, g3, g4⟩ := hC
  obtain ⟨k1, k2, k3, k4⟩ := hk
  intro H locs ls hP hD hS hl
  have hF : ∀ q, va_A [(a, (.inr (ci, fs) : va_E))] H.size q → xA X q := va_free (wc := [(a, .inr (ci, fs))]) hD hS hA [ws.length] (by simp)
  have hPc : va_P D vwCl [(a, .inr (ci, fs))] H := hP.sub [ws.length] (by simp)
  refine va_callv (va_runIN (As := []) (rest := rest) (host := host) ⟨hx, hb, hml, hown, hts⟩ (hct (xl X) a H.size) ⟨va_cnB 0 hts (gTB_code k4) rfl rfl rfl (hK.2.2.2.2 _ k1) (hts _ k3) hk2.2 ⟨Nat.le_trans hR.1 g1, Nat.le_trans hR.2 g2⟩, hk2.1, hts _ k2⟩ ⟨fun a U g mk q => ⟨q.1, q.2.1, q.2.2.1, q.2.2.2.same rfl⟩, fun U hU hW => ⟨rfl, by rw [hU], by rw [hU]; exact hPc, hK.warm hW⟩⟩ rfl rfl hl.1 rfl (lv_room hw) hd ⟨Nat.le_trans hR2.1 g3, Nat.le_trans hR2.2 g4⟩) hS (fun q _ h => hF q h) hF (fun q t H1 locs1 ht hvm hq hB hz1 hk1 hS1 => ?_)
  obtain ⟨hP1, hK1, hD1⟩ := hB
  rw [ht] at hP1
  obtain ⟨hP2, hD2⟩ := vj hP hD hk1 hF hP1 hD1
  exact kk q hq (va_K.moved hvm.symm hK1) H1 locs1 ls hP2 hD2 hS1 hl
end RN
