/-! the heap of the two objects, once they are made: where each cell lies is known; what it holds is a store of numbers -/
abbrev sU : Type := (Nat → Nat → Int32) × (Nat → Nat → Int64) × (Nat → Nat)
def sm_shape : List (Nat × Nat) := [(9, 0), (14, 8), (7, 0), (15, 8), (13, 12), (8, 0), (1, 0), (11, 12), (1, 0), (11, 12), (8, 0), (1, 0), (11, 12), (1, 0), (11, 12), (8, 0), (1, 0), (11, 12), (1, 0), (11, 12), (8, 0), (1, 0), (11, 12), (1, 0), (11, 12), (8, 0), (1, 0), (11, 12), (1, 0), (11, 12), (8, 0), (1, 0), (11, 12), (1, 0), (11, 12), (8, 0), (1, 0), (11, 12), (1, 0), (11, 12), (8, 0), (1, 0), (11, 12), (1, 0), (11, 12), (3, 0), (1, 0), (11, 12), (1, 0), (11, 12), (3, 0), (1, 0), (11, 12), (1, 0), (11, 12), (3, 0), (1, 0), (11, 12), (1, 0), (11, 12), (3, 0), (1, 0), (11, 12), (1, 0), (11, 12), (3, 0), (1, 0), (11, 12), (1, 0), (11, 12), (3, 0), (1, 0), (11, 12), (1, 0), (11, 12), (3, 0), (1, 0), (11, 12), (1, 0), (11, 12), (3, 0), (1, 0), (11, 12), (1, 0), (11, 12), (3, 0), (1, 0), (11, 12), (1, 0), (11, 12), (3, 0), (1, 0), (11, 12), (1, 0), (11, 12), (3, 0), (1, 0), (11, 12), (1, 0), (11, 12), (3, 0), (1, 0), (11, 12), (1, 0), (11, 12), (7, 0), (15, 8), (13, 12), (8, 0), (1, 0), (11, 12), (1, 0), (11, 12), (8, 0), (1, 0), (11, 12), (1, 0), (11, 12), (8, 0), (1, 0), (11, 12), (1, 0), (11, 12), (8, 0), (1, 0), (11, 12), (1, 0), (11, 12), (8, 0), (1, 0), (11, 12), (1, 0), (11, 12), (8, 0), (1, 0), (11, 12), (1, 0), (11, 12), (8, 0), (1, 0), (11, 12), (1, 0), (11, 12), (8, 0), (1, 0), (11, 12), (1, 0), (11, 12), (3, 0), (1, 0), (11, 12), (1, 0), (11, 12), (3, 0), (1, 0), (11, 12), (1, 0), (11, 12), (3, 0), (1, 0), (11, 12), (1, 0), (11, 12), (3, 0), (1, 0), (11, 12), (1, 0), (11, 12), (3, 0), (1, 0), (11, 12), (1, 0), (11, 12), (3, 0), (1, 0), (11, 12), (1, 0), (11, 12), (3, 0), (1, 0), (11, 12), (1, 0), (11, 12), (3, 0), (1, 0), (11, 12), (1, 0), (11, 12), (3, 0), (1, 0), (11, 12), (1, 0), (11, 12), (3, 0), (1, 0), (11, 12), (1, 0), (11, 12), (3, 0), (1, 0), (11, 12), (1, 0), (11, 12), (3, 0), (1, 0), (11, 12), (1, 0), (11, 12), (1, 0), (11, 8), (8, 0), (1, 0), (11, 12), (1, 0), (11, 12), (2, 0), (1, 0), (11, 64), (4, 0), (1, 0), (11, 12), (1, 0), (11, 12), (1, 0), (11, 12), (1, 0), (11, 12), (8, 0), (1, 0), (11, 12), (1, 0), (11, 12), (5, 0), (4, 0), (1, 0), (11, 12), (1, 0), (11, 12), (1, 0), (11, 12), (1, 0), (11, 12), (8, 0), (1, 0), (11, 12), (1, 0), (11, 12), (4, 0), (1, 0), (11, 12), (1, 0), (11, 12), (1, 0), (11, 12), (1, 0), (11, 12), (8, 0), (1, 0), (11, 12), (1, 0), (11, 12), (0, 0), (1, 0), (11, 20), (6, 0), (12, 64), (6, 0), (12, 64), (6, 0), (12, 64), (6, 0), (12, 64), (6, 0), (12, 64), (6, 0), (12, 64), (6, 0), (12, 64), (6, 0), (12, 64), (10, 0), (11, 8), (11, 8), (11, 8), (11, 8), (11, 8), (12, 512), (12, 64), (11, 8), (11, 8), (11, 8), (11, 8), (11, 8), (11, 8), (11, 8), (11, 8), (11, 96), (11, 96), (11, 12), (11, 12), (11, 12), (11, 144), (11, 144), (11, 12), (11, 12), (12, 12), (11, 12), (11, 12), (11, 12), (11, 12), (11, 7), (12, 12), (11, 20), (11, 724)]
def sh (a : Nat) : Nat := (sm_shape.getD a (99, 0)).1
def ln (a : Nat) : Nat := (sm_shape.getD a (99, 0)).2
def sI (U : sU) (a i : Nat) (v : Int32) : sU := (fun b j => if b = a then (if j = i then v else U.1 b j) else U.1 b j, U.2.1, U.2.2)
def sJ (U : sU) (a i : Nat) (v : Int64) : sU := (U.1, fun b j => if b = a then (if j = i then v else U.2.1 b j) else U.2.1 b j, U.2.2)
def sK (U : sU) (a t : Nat) : sU := (U.1, U.2.1, fun b => if b = a then t else U.2.2 b)
/-- the talk that a reading reads -/
def tk (U : sU) (a : Nat) : Nat := if sh (U.2.2 a) = 8 then U.2.2 a else 210
def fdU (U : sU) (a c : Nat) : List Value := match c with
  | 0 => [.ref (a + 1), .int (U.1 a 1), .int (U.1 a 2), .int (U.1 a 3), .int (U.1 a 4)]
  | 1 => [.ref (a + 1)]
  | 2 => [.ref (a + 1), .int (U.1 a 1), .int (U.1 a 2), .int (U.1 a 3), .int (U.1 a 4)]
  | 3 => [.ref (a + 1), .ref (a + 3), .int (U.1 a 2), .int (U.1 a 3), .int (U.1 a 4)]
  | 4 => [.ref (a + 1), .ref (a + 3), .ref (a + 5), .ref (a + 7), .int (U.1 a 4), .int (U.1 a 5), .ref (tk U a), .int (U.1 a 7), .int (U.1 a 8), .int (U.1 a 9), .int (U.1 a 10), .int (U.1 a 11), .int (U.1 a 12), .int (U.1 a 13), .int (U.1 a 14)]
  | 5 => [.ref (a + 1), .ref (a + 15), .long (U.2.1 a 2), .int (U.1 a 3), .int (U.1 a 4)]
  | 6 => [.ref (a + 1), .int (U.1 a 1), .int (U.1 a 2), .int (U.1 a 3), .int (U.1 a 4)]
  | 7 => [.ref (a + 1), .ref (a + 2), .int (U.1 a 2), .int (U.1 a 3)]
  | 8 => [.ref (a + 1), .ref (a + 3), .int (U.1 a 2), .int (U.1 a 3), .int (U.1 a 4), .int (U.1 a 5), .int (U.1 a 6), .int (U.1 a 7), .int (U.1 a 8), .int (U.1 a 9)]
  | 9 => [.ref (1), .ref (2), .ref (105), .int (U.1 a 3), .ref (208), .int (U.1 a 5), .ref (210), .ref (215), .ref (218), .ref (232), .ref (261)]
  | 10 => [.int (U.1 a 0), .int (U.1 a 1), .int (U.1 a 2), .ref (281), .ref (282), .ref (283), .ref (284), .ref (285), .ref (286), .ref (287), .ref (288), .ref (289), .ref (290), .ref (291), .ref (292), .ref (293), .ref (294), .ref (295), .ref (296), .ref (297), .ref (298), .ref (299), .ref (300), .ref (301), .ref (302), .int (U.1 a 25), .int (U.1 a 26), .int (U.1 a 27), .int (U.1 a 28), .int (U.1 a 29), .int (U.1 a 30), .int (U.1 a 31), .int (U.1 a 32), .int (U.1 a 33), .int (U.1 a 34), .int (U.1 a 35), .int (U.1 a 36), .int (U.1 a 37), .int (U.1 a 38), .ref (303), .ref (304), .ref (305), .ref (306), .int (U.1 a 43), .int (U.1 a 44), .ref (307), .ref (308), .ref (309), .int (U.1 a 48), .ref (310), .ref (311), .int (U.1 a 51), .ref (312), .int (U.1 a 53), .int (U.1 a 54), .int (U.1 a 55), .ref (313)]
  | _ => []
/-- the place of the i-th object in an array of references at a -/
def rfA (a c i : Nat) : Nat := match c with
  | 13 => a + 41 + 5 * i
  | 14 => 264 + 2 * i
  | _ => a + 2 + 5 * i
def ceU (U : sU) (a : Nat) (q : Nat × Nat) : va_E := match q.1 with
  | 11 => .inl (0, q.2, .inl (U.1 a))
  | 12 => .inl (1, q.2, .inr (.inl (U.2.1 a)))
  | 13 => .inl (2, q.2, .inr (.inr (.inr (.inr (fun i => if i < q.2 then some (rfA a 13 i) else none)))))
  | 14 => .inl (3, q.2, .inr (.inr (.inr (.inr (fun i => if i < q.2 then some (rfA a 14 i) else none)))))
  | 15 => .inl (4, q.2, .inr (.inr (.inr (.inr (fun i => if i < q.2 then some (rfA a 15 i) else none)))))
  | c => .inr (c, fdU U a c)
def lay (U : sU) : sm_H := sm_shape.mapIdx (fun a q => ceU U a q)
theorem lay_len (U : sU) : (lay U).length = 314 := by unfold lay; rw [List.length_mapIdx]; decide +kernel
theorem sh_at {a c : Nat} (h : sh a = c) (hc : c ≠ 99) : sm_shape[a]? = some (c, ln a) := by
  unfold sh at h
  unfold ln
  rw [List.getD_eq_getElem?_getD] at h ⊢
  cases hq : sm_shape[a]? with
  | none => rw [hq] at h; exact absurd h.symm hc
  | some q => rw [hq] at h; dsimp only [Option.getD_some] at h ⊢; rw [← h]
theorem lay_at {U : sU} {a c : Nat} (h : sh a = c) (hc : c ≠ 99) : (lay U)[a]? = some (ceU U a (c, ln a)) := by
  unfold lay
  rw [List.getElem?_mapIdx, sh_at h hc]
  rfl
theorem lay_o {U : sU} {a c : Nat} (h : sh a = c) (hc : c < 11) : (lay U)[a]? = some (.inr (c, fdU U a c)) := by
  rw [lay_at h (by omega)]
  unfold ceU
  dsimp only
  split <;> first | omega | rfl
theorem lay_set {U U1 : sU} {a c : Nat} {e : va_E} (h : sh a = c) (hc : c ≠ 99) (he : ceU U1 a (c, ln a) = e) (ho : ∀ b q, b ≠ a → ceU U1 b q = ceU U b q) : (lay U).set a e = lay U1 := by
  apply List.ext_getElem?
  intro i
  by_cases hi : i = a
  · subst hi
    rw [lay_at h hc, he, List.getElem?_set_self (by
      have := (List.getElem?_eq_some_iff.mp (lay_at (U := U) h hc)).1
      exact this)]
  · rw [List.getElem?_set_ne (fun q => hi q.symm)]
    unfold lay
    rw [List.getElem?_mapIdx, List.getElem?_mapIdx]
    cases sm_shape[i]? with
    | none => rfl
    | some q => dsimp only [Option.map_some]; rw [ho i q hi]
theorem fdU_sI {U : sU} {a b c i : Nat} {v : Int32} (h : b ≠ a) : fdU (sI U a i v) b c = fdU U b c := by
  have e : (sI U a i v).1 b = U.1 b := by funext j; exact if_neg h
  unfold fdU
  rw [e]
  rfl
theorem ceU_sI {U : sU} {a i : Nat} {v : Int32} (b : Nat) (q : Nat × Nat) (h : b ≠ a) : ceU (sI U a i v) b q = ceU U b q := by
  have e : (sI U a i v).1 b = U.1 b := by funext j; exact if_neg h
  unfold ceU
  rw [e]
  simp only [fdU_sI h]
  rfl
theorem fdU_sJ {U : sU} {a b c i : Nat} {v : Int64} (h : b ≠ a) : fdU (sJ U a i v) b c = fdU U b c := by
  have e : (sJ U a i v).2.1 b = U.2.1 b := by funext j; exact if_neg h
  unfold fdU
  rw [e]
  rfl
theorem ceU_sJ {U : sU} {a i : Nat} {v : Int64} (b : Nat) (q : Nat × Nat) (h : b ≠ a) : ceU (sJ U a i v) b q = ceU U b q := by
  have e : (sJ U a i v).2.1 b = U.2.1 b := by funext j; exact if_neg h
  unfold ceU
  rw [e]
  simp only [fdU_sJ h]
  rfl
theorem tk_sI (U : sU) (a i : Nat) (v : Int32) (b : Nat) : tk (sI U a i v) b = tk U b := rfl
theorem tk_sJ (U : sU) (a i : Nat) (v : Int64) (b : Nat) : tk (sJ U a i v) b = tk U b := rfl
theorem tk_sK {U : sU} {a b t : Nat} (h : b ≠ a) : tk (sK U a t) b = tk U b := by
  have e : (sK U a t).2.2 b = U.2.2 b := if_neg h
  unfold tk
  rw [e]
theorem tk_same {U : sU} {a t : Nat} (h : sh t = 8) : tk (sK U a t) a = t := by
  have e : (sK U a t).2.2 a = t := if_pos rfl
  unfold tk
  rw [e, if_pos h]
theorem tk_sh (U : sU) (a : Nat) : sh (tk U a) = 8 := by
  unfold tk
  split
  · assumption
  · decide +kernel
theorem fdU_sK {U : sU} {a b c t : Nat} (h : b ≠ a) : fdU (sK U a t) b c = fdU U b c := by
  unfold fdU
  rw [tk_sK h]
  rfl
theorem ceU_sK {U : sU} {a t : Nat} (b : Nat) (q : Nat × Nat) (h : b ≠ a) : ceU (sK U a t) b q = ceU U b q := by
  unfold ceU
  simp only [fdU_sK h]
  rfl
theorem fs_0_1 {U : sU} {a : Nat} {v : Int32} : fdU (sI U a 1 v) a 0 = (fdU U a 0).set 1 (.int v) := by simp only [fdU, tk_sI]; simp [sI]
theorem fs_0_2 {U : sU} {a : Nat} {v : Int32} : fdU (sI U a 2 v) a 0 = (fdU U a 0).set 2 (.int v) := by simp only [fdU, tk_sI]; simp [sI]
theorem fs_0_3 {U : sU} {a : Nat} {v : Int32} : fdU (sI U a 3 v) a 0 = (fdU U a 0).set 3 (.int v) := by simp only [fdU, tk_sI]; simp [sI]
theorem fs_0_4 {U : sU} {a : Nat} {v : Int32} : fdU (sI U a 4 v) a 0 = (fdU U a 0).set 4 (.int v) := by simp only [fdU, tk_sI]; simp [sI]
theorem fs_2_1 {U : sU} {a : Nat} {v : Int32} : fdU (sI U a 1 v) a 2 = (fdU U a 2).set 1 (.int v) := by simp only [fdU, tk_sI]; simp [sI]
theorem fs_2_2 {U : sU} {a : Nat} {v : Int32} : fdU (sI U a 2 v) a 2 = (fdU U a 2).set 2 (.int v) := by simp only [fdU, tk_sI]; simp [sI]
theorem fs_2_3 {U : sU} {a : Nat} {v : Int32} : fdU (sI U a 3 v) a 2 = (fdU U a 2).set 3 (.int v) := by simp only [fdU, tk_sI]; simp [sI]
theorem fs_2_4 {U : sU} {a : Nat} {v : Int32} : fdU (sI U a 4 v) a 2 = (fdU U a 2).set 4 (.int v) := by simp only [fdU, tk_sI]; simp [sI]
theorem fs_3_2 {U : sU} {a : Nat} {v : Int32} : fdU (sI U a 2 v) a 3 = (fdU U a 3).set 2 (.int v) := by simp only [fdU, tk_sI]; simp [sI]
theorem fs_3_3 {U : sU} {a : Nat} {v : Int32} : fdU (sI U a 3 v) a 3 = (fdU U a 3).set 3 (.int v) := by simp only [fdU, tk_sI]; simp [sI]
theorem fs_3_4 {U : sU} {a : Nat} {v : Int32} : fdU (sI U a 4 v) a 3 = (fdU U a 3).set 4 (.int v) := by simp only [fdU, tk_sI]; simp [sI]
theorem fs_4_4 {U : sU} {a : Nat} {v : Int32} : fdU (sI U a 4 v) a 4 = (fdU U a 4).set 4 (.int v) := by simp only [fdU, tk_sI]; simp [sI]
theorem fs_4_5 {U : sU} {a : Nat} {v : Int32} : fdU (sI U a 5 v) a 4 = (fdU U a 4).set 5 (.int v) := by simp only [fdU, tk_sI]; simp [sI]
theorem fs_4_7 {U : sU} {a : Nat} {v : Int32} : fdU (sI U a 7 v) a 4 = (fdU U a 4).set 7 (.int v) := by simp only [fdU, tk_sI]; simp [sI]
theorem fs_4_8 {U : sU} {a : Nat} {v : Int32} : fdU (sI U a 8 v) a 4 = (fdU U a 4).set 8 (.int v) := by simp only [fdU, tk_sI]; simp [sI]
theorem fs_4_9 {U : sU} {a : Nat} {v : Int32} : fdU (sI U a 9 v) a 4 = (fdU U a 4).set 9 (.int v) := by simp only [fdU, tk_sI]; simp [sI]
theorem fs_4_10 {U : sU} {a : Nat} {v : Int32} : fdU (sI U a 10 v) a 4 = (fdU U a 4).set 10 (.int v) := by simp only [fdU, tk_sI]; simp [sI]
theorem fs_4_11 {U : sU} {a : Nat} {v : Int32} : fdU (sI U a 11 v) a 4 = (fdU U a 4).set 11 (.int v) := by simp only [fdU, tk_sI]; simp [sI]
theorem fs_4_12 {U : sU} {a : Nat} {v : Int32} : fdU (sI U a 12 v) a 4 = (fdU U a 4).set 12 (.int v) := by simp only [fdU, tk_sI]; simp [sI]
theorem fs_4_13 {U : sU} {a : Nat} {v : Int32} : fdU (sI U a 13 v) a 4 = (fdU U a 4).set 13 (.int v) := by simp only [fdU, tk_sI]; simp [sI]
theorem fs_4_14 {U : sU} {a : Nat} {v : Int32} : fdU (sI U a 14 v) a 4 = (fdU U a 4).set 14 (.int v) := by simp only [fdU, tk_sI]; simp [sI]
theorem fs_5_2 {U : sU} {a : Nat} {v : Int64} : fdU (sJ U a 2 v) a 5 = (fdU U a 5).set 2 (.long v) := by simp only [fdU, tk_sJ]; simp [sJ]
theorem fs_5_3 {U : sU} {a : Nat} {v : Int32} : fdU (sI U a 3 v) a 5 = (fdU U a 5).set 3 (.int v) := by simp only [fdU, tk_sI]; simp [sI]
theorem fs_5_4 {U : sU} {a : Nat} {v : Int32} : fdU (sI U a 4 v) a 5 = (fdU U a 5).set 4 (.int v) := by simp only [fdU, tk_sI]; simp [sI]
theorem fs_6_1 {U : sU} {a : Nat} {v : Int32} : fdU (sI U a 1 v) a 6 = (fdU U a 6).set 1 (.int v) := by simp only [fdU, tk_sI]; simp [sI]
theorem fs_6_2 {U : sU} {a : Nat} {v : Int32} : fdU (sI U a 2 v) a 6 = (fdU U a 6).set 2 (.int v) := by simp only [fdU, tk_sI]; simp [sI]
theorem fs_6_3 {U : sU} {a : Nat} {v : Int32} : fdU (sI U a 3 v) a 6 = (fdU U a 6).set 3 (.int v) := by simp only [fdU, tk_sI]; simp [sI]
theorem fs_6_4 {U : sU} {a : Nat} {v : Int32} : fdU (sI U a 4 v) a 6 = (fdU U a 6).set 4 (.int v) := by simp only [fdU, tk_sI]; simp [sI]
theorem fs_7_2 {U : sU} {a : Nat} {v : Int32} : fdU (sI U a 2 v) a 7 = (fdU U a 7).set 2 (.int v) := by simp only [fdU, tk_sI]; simp [sI]
theorem fs_7_3 {U : sU} {a : Nat} {v : Int32} : fdU (sI U a 3 v) a 7 = (fdU U a 7).set 3 (.int v) := by simp only [fdU, tk_sI]; simp [sI]
theorem fs_8_2 {U : sU} {a : Nat} {v : Int32} : fdU (sI U a 2 v) a 8 = (fdU U a 8).set 2 (.int v) := by simp only [fdU, tk_sI]; simp [sI]
theorem fs_8_3 {U : sU} {a : Nat} {v : Int32} : fdU (sI U a 3 v) a 8 = (fdU U a 8).set 3 (.int v) := by simp only [fdU, tk_sI]; simp [sI]
theorem fs_8_4 {U : sU} {a : Nat} {v : Int32} : fdU (sI U a 4 v) a 8 = (fdU U a 8).set 4 (.int v) := by simp only [fdU, tk_sI]; simp [sI]
theorem fs_8_5 {U : sU} {a : Nat} {v : Int32} : fdU (sI U a 5 v) a 8 = (fdU U a 8).set 5 (.int v) := by simp only [fdU, tk_sI]; simp [sI]
theorem fs_8_6 {U : sU} {a : Nat} {v : Int32} : fdU (sI U a 6 v) a 8 = (fdU U a 8).set 6 (.int v) := by simp only [fdU, tk_sI]; simp [sI]
theorem fs_8_7 {U : sU} {a : Nat} {v : Int32} : fdU (sI U a 7 v) a 8 = (fdU U a 8).set 7 (.int v) := by simp only [fdU, tk_sI]; simp [sI]
theorem fs_8_8 {U : sU} {a : Nat} {v : Int32} : fdU (sI U a 8 v) a 8 = (fdU U a 8).set 8 (.int v) := by simp only [fdU, tk_sI]; simp [sI]
theorem fs_8_9 {U : sU} {a : Nat} {v : Int32} : fdU (sI U a 9 v) a 8 = (fdU U a 8).set 9 (.int v) := by simp only [fdU, tk_sI]; simp [sI]
theorem fs_9_3 {U : sU} {a : Nat} {v : Int32} : fdU (sI U a 3 v) a 9 = (fdU U a 9).set 3 (.int v) := by simp only [fdU, tk_sI]; simp [sI]
theorem fs_9_5 {U : sU} {a : Nat} {v : Int32} : fdU (sI U a 5 v) a 9 = (fdU U a 9).set 5 (.int v) := by simp only [fdU, tk_sI]; simp [sI]
theorem fs_10_0 {U : sU} {a : Nat} {v : Int32} : fdU (sI U a 0 v) a 10 = (fdU U a 10).set 0 (.int v) := by simp only [fdU, tk_sI]; simp [sI]
theorem fs_10_1 {U : sU} {a : Nat} {v : Int32} : fdU (sI U a 1 v) a 10 = (fdU U a 10).set 1 (.int v) := by simp only [fdU, tk_sI]; simp [sI]
theorem fs_10_2 {U : sU} {a : Nat} {v : Int32} : fdU (sI U a 2 v) a 10 = (fdU U a 10).set 2 (.int v) := by simp only [fdU, tk_sI]; simp [sI]
theorem fs_10_25 {U : sU} {a : Nat} {v : Int32} : fdU (sI U a 25 v) a 10 = (fdU U a 10).set 25 (.int v) := by simp only [fdU, tk_sI]; simp [sI]
theorem fs_10_26 {U : sU} {a : Nat} {v : Int32} : fdU (sI U a 26 v) a 10 = (fdU U a 10).set 26 (.int v) := by simp only [fdU, tk_sI]; simp [sI]
theorem fs_10_27 {U : sU} {a : Nat} {v : Int32} : fdU (sI U a 27 v) a 10 = (fdU U a 10).set 27 (.int v) := by simp only [fdU, tk_sI]; simp [sI]
theorem fs_10_28 {U : sU} {a : Nat} {v : Int32} : fdU (sI U a 28 v) a 10 = (fdU U a 10).set 28 (.int v) := by simp only [fdU, tk_sI]; simp [sI]
theorem fs_10_29 {U : sU} {a : Nat} {v : Int32} : fdU (sI U a 29 v) a 10 = (fdU U a 10).set 29 (.int v) := by simp only [fdU, tk_sI]; simp [sI]
theorem fs_10_30 {U : sU} {a : Nat} {v : Int32} : fdU (sI U a 30 v) a 10 = (fdU U a 10).set 30 (.int v) := by simp only [fdU, tk_sI]; simp [sI]
theorem fs_10_31 {U : sU} {a : Nat} {v : Int32} : fdU (sI U a 31 v) a 10 = (fdU U a 10).set 31 (.int v) := by simp only [fdU, tk_sI]; simp [sI]
theorem fs_10_32 {U : sU} {a : Nat} {v : Int32} : fdU (sI U a 32 v) a 10 = (fdU U a 10).set 32 (.int v) := by simp only [fdU, tk_sI]; simp [sI]
theorem fs_10_33 {U : sU} {a : Nat} {v : Int32} : fdU (sI U a 33 v) a 10 = (fdU U a 10).set 33 (.int v) := by simp only [fdU, tk_sI]; simp [sI]
theorem fs_10_34 {U : sU} {a : Nat} {v : Int32} : fdU (sI U a 34 v) a 10 = (fdU U a 10).set 34 (.int v) := by simp only [fdU, tk_sI]; simp [sI]
theorem fs_10_35 {U : sU} {a : Nat} {v : Int32} : fdU (sI U a 35 v) a 10 = (fdU U a 10).set 35 (.int v) := by simp only [fdU, tk_sI]; simp [sI]
theorem fs_10_36 {U : sU} {a : Nat} {v : Int32} : fdU (sI U a 36 v) a 10 = (fdU U a 10).set 36 (.int v) := by simp only [fdU, tk_sI]; simp [sI]
theorem fs_10_37 {U : sU} {a : Nat} {v : Int32} : fdU (sI U a 37 v) a 10 = (fdU U a 10).set 37 (.int v) := by simp only [fdU, tk_sI]; simp [sI]
theorem fs_10_38 {U : sU} {a : Nat} {v : Int32} : fdU (sI U a 38 v) a 10 = (fdU U a 10).set 38 (.int v) := by simp only [fdU, tk_sI]; simp [sI]
theorem fs_10_43 {U : sU} {a : Nat} {v : Int32} : fdU (sI U a 43 v) a 10 = (fdU U a 10).set 43 (.int v) := by simp only [fdU, tk_sI]; simp [sI]
theorem fs_10_44 {U : sU} {a : Nat} {v : Int32} : fdU (sI U a 44 v) a 10 = (fdU U a 10).set 44 (.int v) := by simp only [fdU, tk_sI]; simp [sI]
theorem fs_10_48 {U : sU} {a : Nat} {v : Int32} : fdU (sI U a 48 v) a 10 = (fdU U a 10).set 48 (.int v) := by simp only [fdU, tk_sI]; simp [sI]
theorem fs_10_51 {U : sU} {a : Nat} {v : Int32} : fdU (sI U a 51 v) a 10 = (fdU U a 10).set 51 (.int v) := by simp only [fdU, tk_sI]; simp [sI]
theorem fs_10_53 {U : sU} {a : Nat} {v : Int32} : fdU (sI U a 53 v) a 10 = (fdU U a 10).set 53 (.int v) := by simp only [fdU, tk_sI]; simp [sI]
theorem fs_10_54 {U : sU} {a : Nat} {v : Int32} : fdU (sI U a 54 v) a 10 = (fdU U a 10).set 54 (.int v) := by simp only [fdU, tk_sI]; simp [sI]
theorem fs_10_55 {U : sU} {a : Nat} {v : Int32} : fdU (sI U a 55 v) a 10 = (fdU U a 10).set 55 (.int v) := by simp only [fdU, tk_sI]; simp [sI]
theorem fs_4_6 {U : sU} {a t : Nat} (h : sh t = 8) : fdU (sK U a t) a 4 = (fdU U a 4).set 6 (.ref t) := by
  have e := tk_same (U := U) (a := a) h
  simp [fdU, e]
  simp [sK]
theorem sm_shape_len : sm_shape.length = 314 := by decide +kernel
theorem sh_lt {a c : Nat} (h : sh a = c) (hc : c ≠ 99) : a < 314 := by
  have := (List.getElem?_eq_some_iff.mp (sh_at h hc)).1
  rw [sm_shape_len] at this
  exact this
theorem sh_0_1 {a : Nat} (h : sh a = 0) : sh (a + 1) = 1 := (by decide +kernel : ∀ a, a < 314 → sh a = 0 → sh (a + 1) = 1) a (sh_lt h (by decide)) h
theorem sh_1_1 {a : Nat} (h : sh a = 1) : sh (a + 1) = 11 := (by decide +kernel : ∀ a, a < 314 → sh a = 1 → sh (a + 1) = 11) a (sh_lt h (by decide)) h
theorem sh_2_1 {a : Nat} (h : sh a = 2) : sh (a + 1) = 1 := (by decide +kernel : ∀ a, a < 314 → sh a = 2 → sh (a + 1) = 1) a (sh_lt h (by decide)) h
theorem sh_3_1 {a : Nat} (h : sh a = 3) : sh (a + 1) = 1 := (by decide +kernel : ∀ a, a < 314 → sh a = 3 → sh (a + 1) = 1) a (sh_lt h (by decide)) h
theorem sh_3_3 {a : Nat} (h : sh a = 3) : sh (a + 3) = 1 := (by decide +kernel : ∀ a, a < 314 → sh a = 3 → sh (a + 3) = 1) a (sh_lt h (by decide)) h
theorem sh_4_1 {a : Nat} (h : sh a = 4) : sh (a + 1) = 1 := (by decide +kernel : ∀ a, a < 314 → sh a = 4 → sh (a + 1) = 1) a (sh_lt h (by decide)) h
theorem sh_4_3 {a : Nat} (h : sh a = 4) : sh (a + 3) = 1 := (by decide +kernel : ∀ a, a < 314 → sh a = 4 → sh (a + 3) = 1) a (sh_lt h (by decide)) h
theorem sh_4_5 {a : Nat} (h : sh a = 4) : sh (a + 5) = 1 := (by decide +kernel : ∀ a, a < 314 → sh a = 4 → sh (a + 5) = 1) a (sh_lt h (by decide)) h
theorem sh_4_7 {a : Nat} (h : sh a = 4) : sh (a + 7) = 1 := (by decide +kernel : ∀ a, a < 314 → sh a = 4 → sh (a + 7) = 1) a (sh_lt h (by decide)) h
theorem sh_5_1 {a : Nat} (h : sh a = 5) : sh (a + 1) = 4 := (by decide +kernel : ∀ a, a < 314 → sh a = 5 → sh (a + 1) = 4) a (sh_lt h (by decide)) h
theorem sh_5_15 {a : Nat} (h : sh a = 5) : sh (a + 15) = 4 := (by decide +kernel : ∀ a, a < 314 → sh a = 5 → sh (a + 15) = 4) a (sh_lt h (by decide)) h
theorem sh_6_1 {a : Nat} (h : sh a = 6) : sh (a + 1) = 12 := (by decide +kernel : ∀ a, a < 314 → sh a = 6 → sh (a + 1) = 12) a (sh_lt h (by decide)) h
theorem sh_7_1 {a : Nat} (h : sh a = 7) : sh (a + 1) = 15 := (by decide +kernel : ∀ a, a < 314 → sh a = 7 → sh (a + 1) = 15) a (sh_lt h (by decide)) h
theorem sh_7_2 {a : Nat} (h : sh a = 7) : sh (a + 2) = 13 := (by decide +kernel : ∀ a, a < 314 → sh a = 7 → sh (a + 2) = 13) a (sh_lt h (by decide)) h
theorem sh_8_1 {a : Nat} (h : sh a = 8) : sh (a + 1) = 1 := (by decide +kernel : ∀ a, a < 314 → sh a = 8 → sh (a + 1) = 1) a (sh_lt h (by decide)) h
theorem sh_8_3 {a : Nat} (h : sh a = 8) : sh (a + 3) = 1 := (by decide +kernel : ∀ a, a < 314 → sh a = 8 → sh (a + 3) = 1) a (sh_lt h (by decide)) h
