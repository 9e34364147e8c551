/-! THE WORLD: 82 cells, numbered; what they hold is one table of ints (Mem). Cells 8s..8s+7: State s (s < 6: 0 the state, 1 the snapshot, 2..5 those of the history) with its rows, its Ballots and their rows; 48 SwingWeights, 49 History, 50 its row (holds numbers of states), 51 Text, 52 its row, 53 Power, 54..59 its rows, 60..70 the rows of winning; 71 the reference, 72..81 its rows. -/
abbrev Mem : Type := Nat → Nat → Int32
def upr (I : Mem) (a : Nat) (f : Nat → Int32) : Mem := fun k => if k = a then f else I k
def up2 (I : Mem) (a i : Nat) (x : Int32) : Mem := upr I a (upd (I a) i x)
/-- tables, addresses, numbers of array kinds (0 int, 1 char, 2 boolean, 3 State, 4 int rows) and at 5 the address of the static table -/
abbrev EN : Type := va_G × (Nat → Nat) × (Nat → Nat)
def cel (ad cc : Nat → Nat) (k : Nat) (f : Nat → Int32) : va_E :=
  if k < 48 then
    (if k % 8 = 0 then .inr (3, [.int (f 0), .int (f 1), .int (f 2), .ref (ad (k + 1)), .ref (ad (k + 2)), .ref (ad (k + 3)), .ref (ad (k + 4))])
     else if k % 8 = 4 then .inr (0, [.int (f 0), .int (f 1), .ref (ad (k + 1)), .ref (ad (k + 2)), .ref (ad (k + 3))])
     else if k % 8 < 4 then .inl (cc 0, 10, .inl f) else .inl (cc 0, 8, .inl f))
  else if k < 60 then
    (match k with
     | 48 => .inr (5, [.ref (ad (8 * 0)), .ref (ad (8 * 1)), .int (f 2), .ref (ad 49), .ref (ad 51), .ref (ad 53), .int (f 6)])
     | 49 => .inr (1, [.ref (ad 50), .int (f 1)])
     | 50 => .inl (cc 3, 4, .inr (.inr (.inr (.inr (fun i => some (ad (8 * (f i).toNatClampNeg)))))))
     | 51 => .inr (4, [.ref (ad 52), .int (f 1)])
     | 52 => .inl (cc 1, 60, .inl f)
     | 53 => .inr (2, [.int (f 0), .int (f 1), .int (f 2), .int (f 3), .int (f 4), .ref (ad 54), .ref (ad 55), .ref (ad 56), .ref (ad 57), .int (f 9), .ref (ad 58), .ref (ad 59), .int (f 12)])
     | 54 => .inl (cc 0, 10, .inl f)
     | 55 => .inl (cc 0, 10, .inl f)
     | 56 => .inl (cc 0, 1024, .inl f)
     | 57 => .inl (cc 0, 1024, .inl f)
     | 58 => .inl (cc 4, 11, .inr (.inr (.inr (.inr (fun i => some (ad (60 + i)))))))
     | _ => .inl (cc 0, 252, .inl f))
  else if k < 71 then .inl (cc 0, 501, .inl f)
  else
    (match k with
     | 71 => .inr (6, [.ref (ad 72), .ref (ad 73), .ref (ad 74), .int (f 3), .int (f 4), .ref (ad 75), .int (f 6), .int (f 7), .int (f 8), .ref (ad 76), .ref (ad 77), .ref (ad 78), .int (f 12), .ref (ad 79), .ref (ad 80), .int (f 15), .ref (ad 81), .int (f 17)])
     | 72 => .inl (cc 0, 69, .inl f)
     | 73 => .inl (cc 0, 276, .inl f)
     | 74 => .inl (cc 0, 69, .inl f)
     | 75 => .inl (cc 1, 60, .inl f)
     | 76 => .inl (cc 0, 10, .inl f)
     | 77 => .inl (cc 0, 10, .inl f)
     | 78 => .inl (cc 0, 10, .inl f)
     | 79 => .inl (cc 2, 1024, .inl f)
     | 80 => .inl (cc 0, 10, .inl f)
     | _ => .inl (cc 0, 1024, .inl f))
def mkW (E : EN) (I : Mem) : va_W := (List.range 82).map (fun k => (E.2.1 k, cel E.2.1 E.2.2 k (I k)))
def tyE (E : EN) : List (ClassId × FieldType) := [(E.2.2 0, .int), (E.2.2 1, .char), (E.2.2 2, .boolean), (E.2.2 3, .object "SwingWeights$State"), (E.2.2 4, .array .int)]
def Aw (E : EN) : Nat → Prop := fun q => ∃ k, k < 82 ∧ q = E.2.1 k
def EOk (E : EN) : Prop := ∀ i j, i < 82 → j < 82 → E.2.1 i = E.2.1 j → i = j
theorem mkW_get {E : EN} {I : Mem} {k : Nat} (h : k < 82) : (mkW E I)[k]? = some (E.2.1 k, cel E.2.1 E.2.2 k (I k)) := by
  unfold mkW
  rw [List.getElem?_map, List.getElem?_range h]
  rfl
theorem mkW_some {E : EN} {I : Mem} {k : Nat} {q : Nat × va_E} (h : (mkW E I)[k]? = some q) : k < 82 ∧ q = (E.2.1 k, cel E.2.1 E.2.2 k (I k)) := by
  rcases Nat.lt_or_ge k 82 with hk | hk
  · rw [mkW_get hk] at h
    exact ⟨hk, (Option.some.inj h).symm⟩
  · rw [List.getElem?_eq_none (by unfold mkW; rw [List.length_map, List.length_range]; exact hk)] at h
    cases h
theorem mkW_set {E : EN} {I : Mem} {a : Nat} (f : Nat → Int32) (ha : a < 82) : (mkW E I).set a (E.2.1 a, cel E.2.1 E.2.2 a f) = mkW E (upr I a f) := by
  apply List.ext_getElem?
  intro j
  have hlen : (mkW E I).length = 82 := by unfold mkW; rw [List.length_map, List.length_range]
  rcases Nat.lt_or_ge j 82 with hj | hj
  · rw [mkW_get hj, List.getElem?_set]
    by_cases h : a = j
    · subst h
      simp [hlen, ha, upr]
    · rw [if_neg h, mkW_get hj]
      unfold upr
      rw [if_neg (fun e => h e.symm)]
  · rw [List.getElem?_eq_none (by rw [List.length_set, hlen]; exact hj), List.getElem?_eq_none (by unfold mkW; rw [List.length_map, List.length_range]; exact hj)]
theorem mkW_D {E : EN} {I : Mem} (h : EOk E) : va_D (Aw E) (mkW E I) := by
  refine ⟨fun i j p q hi hj hpq => ?_, fun k q hk => ?_⟩
  · obtain ⟨h1, rfl⟩ := mkW_some hi
    obtain ⟨h2, rfl⟩ := mkW_some hj
    exact h i j h1 h2 hpq
  · obtain ⟨h1, rfl⟩ := mkW_some hk
    exact ⟨k, h1, rfl⟩
/-! the words of the tables that may be carried into a callee; the links between nest mates -/
def TB : List Cond := lw_tbl.filter goodWord
theorem tb_of {w : Cond} (h : w ∈ lw_tbl) (hg : goodWord w = true) : w ∈ TB := List.mem_filter.mpr ⟨h, hg⟩
theorem tb_at {w : Cond} (i : Nat) (h : tables_1[i]? = some w) (hg : goodWord w = true) : w ∈ TB := tb_of (List.mem_append_right _ (List.mem_of_getElem? h)) hg
theorem tb_sel {w : Cond} (i : Nat) (h : (k2_sels lw_privs)[i]? = some w) (hg : goodWord w = true) : w ∈ TB := tb_of (List.mem_append_left _ (List.mem_of_getElem? h)) hg
theorem gTB {l : List Cond} (h : ∀ w ∈ l, w ∈ TB) : GoodIn TB l := fun w hw => ⟨h w hw, good_of_word (List.mem_filter.mp (h w hw)).2⟩
def nestF : List (String × Nat × String × String × String × String) := [("SwingWeights", 213, "SwingWeights$Ballots", "held", "I", "SwingWeights"), ("SwingWeights", 106, "SwingWeights$Ballots", "passed", "I", "SwingWeights"), ("SwingWeights", 216, "SwingWeights$Ballots", "outcomes", "[I", "SwingWeights"), ("SwingWeights", 219, "SwingWeights$Ballots", "plusWeights", "[I", "SwingWeights"), ("SwingWeights", 222, "SwingWeights$Ballots", "dissenters", "[I", "SwingWeights"), ("SwingWeights$Power", 32, "SwingWeights$State", "members", "I", "SwingWeights"), ("SwingWeights", 44, "SwingWeights$State", "members", "I", "SwingWeights"), ("SwingWeights$Power", 39, "SwingWeights$State", "quota", "I", "SwingWeights"), ("SwingWeights", 80, "SwingWeights$State", "quota", "I", "SwingWeights"), ("SwingWeights$Power", 43, "SwingWeights$State", "vetoes", "I", "SwingWeights"), ("SwingWeights", 66, "SwingWeights$State", "vetoes", "I", "SwingWeights"), ("SwingWeights", 62, "SwingWeights$State", "weights", "[I", "SwingWeights"), ("SwingWeights$Power", 50, "SwingWeights$State", "blocs", "[I", "SwingWeights"), ("SwingWeights", 83, "SwingWeights$State", "blocs", "[I", "SwingWeights"), ("SwingWeights", 169, "SwingWeights$State", "swingBallots", "[I", "SwingWeights"), ("SwingWeights", 102, "SwingWeights$State", "ballots", "LSwingWeights$Ballots;", "SwingWeights"), ("SwingWeights", 115, "SwingWeights$History", "size", "I", "SwingWeights"), ("SwingWeights", 93, "SwingWeights$Text", "length", "I", "SwingWeights")]
def nestM : List (String × Nat × MethodName × String) := [("SwingWeights", 9, ⟨"SwingWeights$State", "<init>", "()V"⟩, "SwingWeights"), ("SwingWeights$State", 27, ⟨"SwingWeights$Ballots", "<init>", "()V"⟩, "SwingWeights"), ("SwingWeights$History", 17, ⟨"SwingWeights$State", "<init>", "()V"⟩, "SwingWeights"), ("SwingWeights", 28, ⟨"SwingWeights$Text", "<init>", "()V"⟩, "SwingWeights"), ("SwingWeights", 35, ⟨"SwingWeights$Power", "<init>", "()V"⟩, "SwingWeights"), ("SwingWeights$State", 48, ⟨"SwingWeights", "bit", "(I)I"⟩, "SwingWeights"), ("SwingWeights$State", 56, ⟨"SwingWeights", "holds", "(II)Z"⟩, "SwingWeights"), ("SwingWeights$Ballots", 34, ⟨"SwingWeights", "oneIf", "(Z)I"⟩, "SwingWeights"), ("SwingWeights$Power", 59, ⟨"SwingWeights", "bit", "(I)I"⟩, "SwingWeights"), ("SwingWeights$Power", 82, ⟨"SwingWeights", "holds", "(II)Z"⟩, "SwingWeights"), ("SwingWeights$Power", 119, ⟨"SwingWeights", "factorial", "(I)I"⟩, "SwingWeights")]
def nestWs : List Cond := nestF.map (fun q => .fieldLinkNest q.1 q.2.1 q.2.2.1 q.2.2.2.1 q.2.2.2.2.1 q.2.2.2.2.2) ++ nestM.map (fun q => .methodLinkNest q.1 q.2.1 q.2.2.1 q.2.2.2)
theorem nest_all {P : Cond → Prop} (hF : ∀ a i b n d h, P (.fieldLinkNest a i b n d h)) (hM : ∀ a i x h, P (.methodLinkNest a i x h)) : ∀ w ∈ nestWs, P w := by
  intro w hw
  rcases List.mem_append.mp hw with h | h
  · obtain ⟨q, -, rfl⟩ := List.mem_map.mp h
    exact hF _ _ _ _ _ _
  · obtain ⟨q, -, rfl⟩ := List.mem_map.mp h
    exact hM _ _ _ _
theorem nest_warm {s U : State} (hW : s.WarmedH U.vm) : ∀ w ∈ nestWs, va_Nw w s → va_Nw w U := nest_all (P := fun w => va_Nw w s → va_Nw w U) (fun _ _ _ _ _ _ h => va_Nw.warmF hW h) (fun _ _ _ _ h => va_Nw.warmM hW h)
theorem nest_same {u U : State} (h : u.vm = U.vm) : ∀ w ∈ nestWs, va_Nw w u → va_Nw w U := nest_all (P := fun w => va_Nw w u → va_Nw w U) (fun _ _ _ _ _ _ z => va_Nw.same rfl h z) (fun _ _ _ _ z => va_Nw.same rfl h z)
def facs : List Int32 := [1, 1, 2, 6, 24, 120, 720, 5040, 40320, 362880, 3628800]
def facI (j : Nat) : Int32 := facs.getD j 0
/-- what nobody writes: the static table, the links between nest mates -/
def Sx (E : EN) (U : State) : Prop := va_Z "SwingWeights" "FACTORIALS" "[I" (.ref (E.2.2 5)) (Aw E) U U.heap ∧ va_T .int (E.2.2 5) 11 (fun j => .int (facI j)) (Aw E) U U.heap ∧ ∀ w ∈ nestWs, va_Nw w U
theorem va_Z.at' {C n d : String} {v : Value} {A : Nat → Prop} {s U : State} {H1 : Heap} (h : va_Z C n d v A s s.heap) (hW : s.vm.Alike U.vm) (hk : ∀ a : Nat, a < s.heap.size → ¬ A a → H1[a]? = s.heap[a]?) : va_Z C n d v A U H1 := va_Z.moved hW (h.kept hk)
theorem va_T.at' {ty : FieldType} {t N : Nat} {f : Nat → Value} {A : Nat → Prop} {s U : State} {H1 : Heap} (h : va_T ty t N f A s s.heap) (hW : s.vm.Alike U.vm) (hk : ∀ a : Nat, a < s.heap.size → ¬ A a → H1[a]? = s.heap[a]?) : va_T ty t N f A U H1 := va_T.moved hW (h.kept hk)
theorem Sx.warm {E : EN} {s U : State} (h : Sx E s) (hW : s.WarmedH U.vm) (hk : ∀ a : Nat, a < s.heap.size → ¬ Aw E a → U.heap[a]? = s.heap[a]?) : Sx E U := ⟨h.1.at' hW.alike hk, h.2.1.at' hW.alike hk, fun w hw => nest_warm hW w hw (h.2.2 w hw)⟩
theorem Sx.same {E : EN} {u U : State} (h : Sx E u) (hv : u.vm = U.vm) (hh : U.heap = u.heap) : Sx E U := by
  have ha : u.vm.Alike U.vm := by rw [hv]; exact Vm.Alike.refl _
  have hk : ∀ a : Nat, a < u.heap.size → ¬ Aw E a → U.heap[a]? = u.heap[a]? := fun a _ _ => by rw [hh]
  exact ⟨h.1.at' ha hk, h.2.1.at' ha hk, fun w hw => nest_same hv w hw (h.2.2 w hw)⟩
def Wd (E : EN) (I : Mem) (U : State) : Prop := va_P E.1 vwCl (mkW E I) U.heap ∧ va_K E.1 vwCl (tyE E) U ∧ Sx E U
def QcOf (E : EN) (v : Option Value) (I' : Mem) : Array Value → State → Outcome → State → Prop := fun _ st oc t => oc = .returned v ∧ Wd E I' t ∧ va_F (Aw E) st t
/-- a method's contract: from the world I it returns v, the world is I' -/
def Ct (E : EN) (y : MethodName) (cc : ByteArray) (ml : Nat) (ret : Option FieldType) (fr lo : Nat) (As : List Value) (I : Mem) (v : Option Value) (I' : Mem) : Prop := ∀ l : Launch, EOk E → Met l y (.code y cc ml ret :: TB) { frames := fr, cells := 0, slots := 0, locals := lo } (va_Pc As (Wd E I)) (QcOf E v I') 0 0 (Aw E)
/-! where a walk stands -/
abbrev XT : Type := (Program × Launch × Env × Room) × (State × MethodId × Array Value × List Frame × Method × Code) × ((State → Prop) × (Nat → Prop) × Nat × Nat)
abbrev xp (X : XT) : Program := X.1.1
abbrev xl (X : XT) : Launch := X.1.2.1
abbrev xe (X : XT) : Env := X.1.2.2.1
abbrev xR (X : XT) : Room := X.1.2.2.2
abbrev xs (X : XT) : State := X.2.1.1
abbrev xm (X : XT) : MethodId := X.2.1.2.1
abbrev xa (X : XT) : Array Value := X.2.1.2.2.1
abbrev xb (X : XT) : List Frame := X.2.1.2.2.2.1
abbrev xM (X : XT) : Method := X.2.1.2.2.2.2.1
abbrev xc (X : XT) : Code := X.2.1.2.2.2.2.2
abbrev xQ (X : XT) : State → Prop := X.2.2.1
abbrev xA (X : XT) : Nat → Prop := X.2.2.2.1
abbrev xk (X : XT) : Nat := X.2.2.2.2.1
abbrev xn (X : XT) : Nat := X.2.2.2.2.2
def WX (X : XT) (H : Heap) (locs : List Loc) (g : JFrame) : Prop := W (xp X) (xl X) (xe X) (xR X) (xs X) (xm X) (xa X) (xb X) (xM X) (xc X) H locs (xk X) (xn X) (xQ X) g
def Cx (X : XT) (E : EN) (cc : ByteArray) (nL : Nat) (own : String) (fr lo : Nat) : Prop :=
  (xp X).tables.exec = Jvm.exec ∧ (xc X).code = cc ∧ (xc X).maxLocals = nL ∧ (xs X).vm.findClass own = some (xm X).cls ∧ (∀ w ∈ TB, w.before (xa X) (xs X) = true) ∧ va_K E.1 vwCl (tyE E) (xs X) ∧ Sx E (xs X) ∧ EOk E ∧ (∀ q, Aw E q → xA X q) ∧ (∀ q, q < (xs X).heap.size → xA X q → Aw E q) ∧ fr ≤ (xR X).frames ∧ lo ≤ (xR X).locals ∧ xk X ≤ (xR X).cells ∧ xn X ≤ (xR X).slots
def V (X : XT) (E : EN) (nL pc : Nat) (lv : List (Nat × Value)) (st : List Value) (I : Mem) : Prop := ∀ (H : Heap) (locs : List Loc) (ls : Array Slot), va_P E.1 vwCl (mkW E I) H → va_S (xA X) (xs X).heap H locs → lv_has ls nL lv → WX X H locs (F0 (xm X) pc ls st)
def retDec (cc : ByteArray) (pc : Nat) : Option Value → Prop
  | none => decode cc pc = .ok (.return_, 1)
  | some (.int _) => decode cc pc = .ok (.ireturn, 1)
  | some (.long _) => decode cc pc = .ok (.lreturn, 1)
  | some _ => decode cc pc = .ok (.areturn, 1)
def retOk : Option FieldType → Option Value → Prop
  | none, none => True
  | some ty, some (.int r) => narrow ty (.int r) = .int r
  | some ty, some (.long _) => ty = .long
  | some ty, some (.ref _) => ∃ n, ty = .object n
  | _, _ => False
def Rt (X : XT) (E : EN) (cc : ByteArray) (ret : Option FieldType) (v : Option Value) (I' : Mem) : Prop := ∀ (pc : Nat) (ls : Array Slot) (H : Heap) (locs : List Loc), va_P E.1 vwCl (mkW E I') H → va_S (xA X) (xs X).heap H locs → retOk ret v → retDec cc pc v → WX X H locs (F0 (xm X) pc ls v.toList)
set_option maxHeartbeats 4000000 in
set_option maxRecDepth 100000 in
theorem Ct_of {E : EN} {y : MethodName} {cc : ByteArray} {ml : Nat} {ret : Option FieldType} {fr lo : Nat} {As : List Value} {I : Mem} {v : Option Value} {I' : Mem} (hy : plainName y.cls = true) (hn : (lg_sl As).length ≤ ml)
    (body : ∀ X : XT, Cx X E cc ml y.cls fr lo → Rt X E cc ret v I' → V X E ml 0 (lv_args 0 As) [] I) : Ct E y cc ml ret fr lo As I v I' := by
  intro l hE
  refine Met.ofW (cc := cc) (maxL := ml) (ret := ret) hy rfl ?_
  intro p e s m args below meth c s₁ B hml hv
  obtain ⟨rfl, hP, hK, hSx⟩ := hv
  have hx := B.exec
  have hb := B.bytes
  have hr := B.returns
  have hlocks := B.notSynchronized
  have hts := atoms_spec (ws := .code y cc ml ret :: TB) B.pre
  have hown : s.vm.findClass y.cls = some m.cls := findClass_of_methodNamed B.named
  have hl := lv_entry As (n := ml) hn
  rw [lg_entry_eq]
  generalize (lg_sl As ++ List.replicate (ml - (lg_sl As).length) Slot.unset).toArray = ls at hl ⊢
  refine body ((p, l, e, (headSpec (.code y cc ml ret :: TB) { frames := fr, cells := 0, slots := 0, locals := lo }).room), (s, m, As.toArray, below, meth, c), (MQ below (QcOf E v I') As.toArray s 0 0 (Aw E), Aw E, 0, 0))
    ⟨hx, hb, hml, hown, fun w hw => hts w (List.mem_cons_of_mem _ hw), hK, hSx, hE, fun _ h => h, fun _ _ h => h, Nat.le_refl _, Nat.le_refl _, Nat.le_refl _, Nat.le_refl _⟩ ?_ s.heap [] ls hP va_S.rf hl
  intro pc ls H locs hP hS hret hd
  have fin : ∀ t : State, t.heap = H → s.WarmedH t.vm → QcOf E v I' As.toArray s (.returned v) t := fun t ht hW => ⟨rfl, ⟨by rw [ht]; exact hP, va_K.moved hW.alike hK, hSx.warm hW (fun a h1 h2 => by rw [ht]; exact hS.2.1 a h1 h2)⟩, hS.F ht⟩
  cases v with
  | none =>
    cases ret with
    | none => exact W.vret hx hb hr fin hS.2.2 hd hlocks
    | some ty => exact hret.elim
  | some w =>
    cases ret with
    | none => cases w <;> exact hret.elim
    | some ty =>
      cases w with
      | int r => exact W.zret hx hb hr hret fin hS.2.2 hd hlocks
      | long r =>
        cases hret
        exact W.lret hx hb hr fin hS.2.2 hd hlocks
      | ref a => exact W.aret hx hb hr (Or.inl hret) (Or.inr ⟨a, rfl⟩) fin hS.2.2 hd hlocks
      | _ => exact hret.elim
