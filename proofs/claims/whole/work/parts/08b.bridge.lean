/-! from the constructors' lists to the world of 82 cells; the law from its entry -/
def adOf (q q2 : Nat → Nat) : Nat → Nat := fun k => if k < 16 then q (1 + k) else if k < 48 then q (3 + k) else if k = 48 then q 0 else if k < 51 then q (k - 32) else if k < 59 then q k else if k = 59 then q 70 else if k < 71 then q (k - 1) else q2 (k - 71)
def plc : Nat → Nat := fun k => if k < 16 then 1 + k else if k < 48 then 3 + k else if k = 48 then 0 else if k < 51 then k - 32 else if k < 59 then k else if k = 59 then 70 else if k < 71 then k - 1 else k
def ccOf (cc : Nat → Nat) (t : Nat) : Nat → Nat := fun k => if k = 5 then t else cc k
def I0 : Mem := fun k => if k = 50 then (fun i => nI (2 + i)) else if k = 72 then upd (fun _ => 0) 1 1 else if k < 48 ∧ k % 8 = 0 then upd (fun _ => 0) 1 1 else (fun _ => 0)
theorem arrq_congr {c n : Nat} {f g : Nat → Option Nat} (h : ∀ i, i < n → f i = g i) : vp_cell c (n, .inr (.inr (.inr (.inr f)))) = vp_cell c (n, .inr (.inr (.inr (.inr g)))) := by
  rw [vp_cell_q, vp_cell_q]
  unfold arrV
  congr 1
  congr 1
  funext j
  show va_rf (f j.val) = va_rf (g j.val)
  rw [h j.val j.isLt]
set_option maxHeartbeats 4000000 in
set_option maxRecDepth 100000 in
theorem at_place {cc q q2 : Nat → Nat} : ∀ k, k < 82 → ∃ e, (swW cc q ++ moW cc q2)[plc k]? = some (adOf q q2 k, e) := by
  intro k hk
  match k, hk with
  | 0, _ => exact ⟨_, rfl⟩
  | 1, _ => exact ⟨_, rfl⟩
  | 2, _ => exact ⟨_, rfl⟩
  | 3, _ => exact ⟨_, rfl⟩
  | 4, _ => exact ⟨_, rfl⟩
  | 5, _ => exact ⟨_, rfl⟩
  | 6, _ => exact ⟨_, rfl⟩
  | 7, _ => exact ⟨_, rfl⟩
  | 8, _ => exact ⟨_, rfl⟩
  | 9, _ => exact ⟨_, rfl⟩
  | 10, _ => exact ⟨_, rfl⟩
  | 11, _ => exact ⟨_, rfl⟩
  | 12, _ => exact ⟨_, rfl⟩
  | 13, _ => exact ⟨_, rfl⟩
  | 14, _ => exact ⟨_, rfl⟩
  | 15, _ => exact ⟨_, rfl⟩
  | 16, _ => exact ⟨_, rfl⟩
  | 17, _ => exact ⟨_, rfl⟩
  | 18, _ => exact ⟨_, rfl⟩
  | 19, _ => exact ⟨_, rfl⟩
  | 20, _ => exact ⟨_, rfl⟩
  | 21, _ => exact ⟨_, rfl⟩
  | 22, _ => exact ⟨_, rfl⟩
  | 23, _ => exact ⟨_, rfl⟩
  | 24, _ => exact ⟨_, rfl⟩
  | 25, _ => exact ⟨_, rfl⟩
  | 26, _ => exact ⟨_, rfl⟩
  | 27, _ => exact ⟨_, rfl⟩
  | 28, _ => exact ⟨_, rfl⟩
  | 29, _ => exact ⟨_, rfl⟩
  | 30, _ => exact ⟨_, rfl⟩
  | 31, _ => exact ⟨_, rfl⟩
  | 32, _ => exact ⟨_, rfl⟩
  | 33, _ => exact ⟨_, rfl⟩
  | 34, _ => exact ⟨_, rfl⟩
  | 35, _ => exact ⟨_, rfl⟩
  | 36, _ => exact ⟨_, rfl⟩
  | 37, _ => exact ⟨_, rfl⟩
  | 38, _ => exact ⟨_, rfl⟩
  | 39, _ => exact ⟨_, rfl⟩
  | 40, _ => exact ⟨_, rfl⟩
  | 41, _ => exact ⟨_, rfl⟩
  | 42, _ => exact ⟨_, rfl⟩
  | 43, _ => exact ⟨_, rfl⟩
  | 44, _ => exact ⟨_, rfl⟩
  | 45, _ => exact ⟨_, rfl⟩
  | 46, _ => exact ⟨_, rfl⟩
  | 47, _ => exact ⟨_, rfl⟩
  | 48, _ => exact ⟨_, rfl⟩
  | 49, _ => exact ⟨_, rfl⟩
  | 50, _ => exact ⟨_, rfl⟩
  | 51, _ => exact ⟨_, rfl⟩
  | 52, _ => exact ⟨_, rfl⟩
  | 53, _ => exact ⟨_, rfl⟩
  | 54, _ => exact ⟨_, rfl⟩
  | 55, _ => exact ⟨_, rfl⟩
  | 56, _ => exact ⟨_, rfl⟩
  | 57, _ => exact ⟨_, rfl⟩
  | 58, _ => exact ⟨_, rfl⟩
  | 59, _ => exact ⟨_, rfl⟩
  | 60, _ => exact ⟨_, rfl⟩
  | 61, _ => exact ⟨_, rfl⟩
  | 62, _ => exact ⟨_, rfl⟩
  | 63, _ => exact ⟨_, rfl⟩
  | 64, _ => exact ⟨_, rfl⟩
  | 65, _ => exact ⟨_, rfl⟩
  | 66, _ => exact ⟨_, rfl⟩
  | 67, _ => exact ⟨_, rfl⟩
  | 68, _ => exact ⟨_, rfl⟩
  | 69, _ => exact ⟨_, rfl⟩
  | 70, _ => exact ⟨_, rfl⟩
  | 71, _ => exact ⟨_, rfl⟩
  | 72, _ => exact ⟨_, rfl⟩
  | 73, _ => exact ⟨_, rfl⟩
  | 74, _ => exact ⟨_, rfl⟩
  | 75, _ => exact ⟨_, rfl⟩
  | 76, _ => exact ⟨_, rfl⟩
  | 77, _ => exact ⟨_, rfl⟩
  | 78, _ => exact ⟨_, rfl⟩
  | 79, _ => exact ⟨_, rfl⟩
  | 80, _ => exact ⟨_, rfl⟩
  | 81, _ => exact ⟨_, rfl⟩
  | k + 82, h => exact absurd h (by omega)
theorem plc_inj {i j : Nat} (hi : i < 82) (hj : j < 82) (h : plc i = plc j) : i = j := by
  unfold plc at h
  repeat' split at h
  all_goals omega
theorem eok_of {A : Nat → Prop} {cc q q2 : Nat → Nat} {D : va_G} {cf : Nat → Nat} (hD : va_D A (swW cc q ++ moW cc q2)) : EOk (D, adOf q q2, cf) := by
  intro i j hi hj h
  obtain ⟨e1, h1⟩ := at_place (cc := cc) (q := q) (q2 := q2) i hi
  obtain ⟨e2, h2⟩ := at_place (cc := cc) (q := q) (q2 := q2) j hj
  exact plc_inj hi hj (hD.1 _ _ _ _ h1 h2 h)
theorem ain_of {A : Nat → Prop} {cc q q2 : Nat → Nat} {D : va_G} {cf : Nat → Nat} (hD : va_D A (swW cc q ++ moW cc q2)) : ∀ a, Aw (D, adOf q q2, cf) a → A a := by
  rintro a ⟨k, hk, rfl⟩
  obtain ⟨e1, h1⟩ := at_place (cc := cc) (q := q) (q2 := q2) k hk
  exact hD.2 _ _ h1
set_option maxHeartbeats 8000000 in
set_option maxRecDepth 100000 in
theorem bridge {D : va_G} {cc q q2 : Nat → Nat} {t : Nat} {H : Heap} (hP : va_P D vwCl (swW cc q ++ moW cc q2) H) : va_P D vwCl (mkW (D, adOf q q2, ccOf cc t) I0) H := by
  intro k x hx
  obtain ⟨hk, rfl⟩ := mkW_some hx
  clear hx
  match k, hk with
  | 0, _ => exact hP 1 _ rfl
  | 1, _ => exact hP 2 _ rfl
  | 2, _ => exact hP 3 _ rfl
  | 3, _ => exact hP 4 _ rfl
  | 4, _ => exact hP 5 _ rfl
  | 5, _ => exact hP 6 _ rfl
  | 6, _ => exact hP 7 _ rfl
  | 7, _ => exact hP 8 _ rfl
  | 8, _ => exact hP 9 _ rfl
  | 9, _ => exact hP 10 _ rfl
  | 10, _ => exact hP 11 _ rfl
  | 11, _ => exact hP 12 _ rfl
  | 12, _ => exact hP 13 _ rfl
  | 13, _ => exact hP 14 _ rfl
  | 14, _ => exact hP 15 _ rfl
  | 15, _ => exact hP 16 _ rfl
  | 16, _ => exact hP 19 _ rfl
  | 17, _ => exact hP 20 _ rfl
  | 18, _ => exact hP 21 _ rfl
  | 19, _ => exact hP 22 _ rfl
  | 20, _ => exact hP 23 _ rfl
  | 21, _ => exact hP 24 _ rfl
  | 22, _ => exact hP 25 _ rfl
  | 23, _ => exact hP 26 _ rfl
  | 24, _ => exact hP 27 _ rfl
  | 25, _ => exact hP 28 _ rfl
  | 26, _ => exact hP 29 _ rfl
  | 27, _ => exact hP 30 _ rfl
  | 28, _ => exact hP 31 _ rfl
  | 29, _ => exact hP 32 _ rfl
  | 30, _ => exact hP 33 _ rfl
  | 31, _ => exact hP 34 _ rfl
  | 32, _ => exact hP 35 _ rfl
  | 33, _ => exact hP 36 _ rfl
  | 34, _ => exact hP 37 _ rfl
  | 35, _ => exact hP 38 _ rfl
  | 36, _ => exact hP 39 _ rfl
  | 37, _ => exact hP 40 _ rfl
  | 38, _ => exact hP 41 _ rfl
  | 39, _ => exact hP 42 _ rfl
  | 40, _ => exact hP 43 _ rfl
  | 41, _ => exact hP 44 _ rfl
  | 42, _ => exact hP 45 _ rfl
  | 43, _ => exact hP 46 _ rfl
  | 44, _ => exact hP 47 _ rfl
  | 45, _ => exact hP 48 _ rfl
  | 46, _ => exact hP 49 _ rfl
  | 47, _ => exact hP 50 _ rfl
  | 48, _ => exact hP 0 _ rfl
  | 49, _ => exact hP 17 _ rfl
  | 50, _ =>
    have h := hP 18 _ rfl
    refine (show H[q 18]? = some (vp_cell (cc 3) (4, .inr (.inr (.inr (.inr (va_up (va_up (va_up (va_up (fun _ => none) 0 (some (q 19))) 1 (some (q 27))) 2 (some (q 35))) 3 (some (q 43)))))))) from h).trans (congrArg some (arrq_congr (fun i hi => ?_)))
    have h2 : (I0 50 i).toNatClampNeg = 2 + i := nI_clamp (by omega)
    rw [h2]
    match i, hi with
    | 0, _ => rfl
    | 1, _ => rfl
    | 2, _ => rfl
    | 3, _ => rfl
  | 51, _ => exact hP 51 _ rfl
  | 52, _ => exact hP 52 _ rfl
  | 53, _ => exact hP 53 _ rfl
  | 54, _ => exact hP 54 _ rfl
  | 55, _ => exact hP 55 _ rfl
  | 56, _ => exact hP 56 _ rfl
  | 57, _ => exact hP 57 _ rfl
  | 58, _ =>
    have h := hP 58 _ rfl
    refine (show H[q 58]? = some (vp_cell (cc 4) (11, .inr (.inr (.inr (.inr (fun i => if i < 11 then some (q (53 + (6 + i))) else none)))))) from h).trans (congrArg some (arrq_congr (fun i hi => ?_)))
    rw [if_pos hi]
    show _ = some (adOf q q2 (60 + i))
    unfold adOf
    rw [if_neg (by omega), if_neg (by omega), if_neg (by omega), if_neg (by omega), if_neg (by omega), if_neg (by omega), if_pos (by omega)]
    congr 2
    omega
  | 59, _ => exact hP 70 _ rfl
  | 60, _ => exact hP 59 _ rfl
  | 61, _ => exact hP 60 _ rfl
  | 62, _ => exact hP 61 _ rfl
  | 63, _ => exact hP 62 _ rfl
  | 64, _ => exact hP 63 _ rfl
  | 65, _ => exact hP 64 _ rfl
  | 66, _ => exact hP 65 _ rfl
  | 67, _ => exact hP 66 _ rfl
  | 68, _ => exact hP 67 _ rfl
  | 69, _ => exact hP 68 _ rfl
  | 70, _ => exact hP 69 _ rfl
  | 71, _ => exact hP 71 _ rfl
  | 72, _ => exact hP 72 _ rfl
  | 73, _ => exact hP 73 _ rfl
  | 74, _ => exact hP 74 _ rfl
  | 75, _ => exact hP 75 _ rfl
  | 76, _ => exact hP 76 _ rfl
  | 77, _ => exact hP 77 _ rfl
  | 78, _ => exact hP 78 _ rfl
  | 79, _ => exact hP 79 _ rfl
  | 80, _ => exact hP 80 _ rfl
  | 81, _ => exact hP 81 _ rfl
  | k + 82, h => exact absurd h (by omega)
