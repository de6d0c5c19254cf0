/-! the small machine's heap and the real one -/
def sm_ce (B : Nat → Nat) (dA : Nat → ClassId) : va_E → va_E
  | .inr o => .inr (o.1, o.2.map (sm_cv B))
  | .inl (t, n, .inr (.inr (.inr (.inr f)))) => .inl (dA t, n, .inr (.inr (.inr (.inr (fun i => (f i).map B)))))
  | .inl (t, x) => .inl (dA t, x)
def sm_ws (B : Nat → Nat) (dA : Nat → ClassId) : Nat → sm_H → va_W
  | _, [] => []
  | k, c :: r => (B k, sm_ce B dA c) :: sm_ws B dA (k + 1) r
theorem sm_ws_get (B : Nat → Nat) (dA : Nat → ClassId) : ∀ (h : sm_H) (k i : Nat), (sm_ws B dA k h)[i]? = (h[i]?).map (fun c => (B (k + i), sm_ce B dA c)) := by
  intro h
  induction h with
  | nil => intro k i; simp [sm_ws]
  | cons c r ih =>
    intro k i
    cases i with
    | zero => simp [sm_ws]
    | succ i =>
      simp only [sm_ws, List.getElem?_cons_succ]
      rw [ih (k + 1) i, show k + 1 + i = k + (i + 1) by omega]
theorem sm_ws_at {B : Nat → Nat} {dA : Nat → ClassId} {h : sm_H} {i : Nat} {c : va_E} (hc : h[i]? = some c) : (sm_ws B dA 0 h)[i]? = some (B i, sm_ce B dA c) := by
  rw [sm_ws_get, hc, Nat.zero_add]; rfl
theorem sm_ws_len (B : Nat → Nat) (dA : Nat → ClassId) : ∀ (h : sm_H) (k : Nat), (sm_ws B dA k h).length = h.length := by
  intro h
  induction h with
  | nil => intro k; rfl
  | cons c r ih => intro k; simp [sm_ws, ih]
theorem sm_ws_set (B : Nat → Nat) (dA : Nat → ClassId) (c : va_E) : ∀ (h : sm_H) (k i : Nat), sm_ws B dA k (h.set i c) = (sm_ws B dA k h).set i (B (k + i), sm_ce B dA c) := by
  intro h
  induction h with
  | nil => intro k i; rfl
  | cons x r ih =>
    intro k i
    cases i with
    | zero => simp [sm_ws]
    | succ i =>
      simp only [sm_ws, List.set_cons_succ]
      rw [ih (k + 1) i, show k + 1 + i = k + (i + 1) by omega]
theorem sm_ws_app (B : Nat → Nat) (dA : Nat → ClassId) (c : va_E) : ∀ (h : sm_H) (k : Nat), sm_ws B dA k (h ++ [c]) = sm_ws B dA k h ++ [(B (k + h.length), sm_ce B dA c)] := by
  intro h
  induction h with
  | nil => intro k; simp [sm_ws]
  | cons x r ih =>
    intro k
    simp only [sm_ws, List.cons_append]
    rw [ih (k + 1), List.length_cons, show k + 1 + r.length = k + (r.length + 1) by omega]
/-- the types of arrays -/
def sm_TY (dA : Nat → ClassId) : List (ClassId × FieldType) := [(dA 0, .int), (dA 1, .long), (dA 2, .object RX3), (dA 3, .object RX6), (dA 4, .object RX8)]
/-- kinds of fields -/
def sm_fk : FieldType → Nat
  | .int => 0
  | .boolean => 1
  | .long => 2
  | .object _ => 3
  | .array _ => 3
  | _ => 9
theorem sm_fok_narrow {ty : FieldType} {B : Nat → Nat} {v : Value} (h : sm_fok (sm_fk ty) v = true) : narrow ty (sm_cv B v) = sm_cv B v ∧ fits ty (sm_cv B v) = true := by
  cases ty <;> cases v <;> simp [sm_fok, sm_fk, sm_cv] at h ⊢ <;> first
    | (constructor <;> rfl)
    | (rcases h with h | h <;> subst h <;> constructor <;> decide)
/-- what the tables must say of an instruction -/
def sm_lk (own : String) (init : Bool) (w : sm_E) : Prop := match w.1 with
  | .getfield idx => ∃ q, vwCl[w.2.1]? = some q ∧ w.2.2.1 < q.2.2 ∧ Cond.fieldLink own idx (q.2.1 w.2.2.1).1 (q.2.1 w.2.2.1).2.1 (q.2.1 w.2.2.1).2.2.1 ∈ lw_tbl
  | .putfield idx => ∃ q ty, vwCl[w.2.1]? = some q ∧ w.2.2.1 < q.2.2 ∧ Cond.fieldLink own idx (q.2.1 w.2.2.1).1 (q.2.1 w.2.2.1).2.1 (q.2.1 w.2.2.1).2.2.1 ∈ lw_tbl ∧ parseFieldDescriptor (q.2.1 w.2.2.1).2.2.1 = some ty ∧ w.2.2.2 % 10 = sm_fk ty ∧ ((q.2.1 w.2.2.1).2.2.2 = false ∨ ((q.2.1 w.2.2.1).2.2.2 = true ∧ init = true ∧ (q.2.1 w.2.2.1).1 = own))
  | .new idx => ∃ q, vwCl[w.2.1]? = some q ∧ Cond.classLink own idx q.1 ∈ lw_tbl ∧ Cond.instantiable q.1 q.2.2 ∈ lw_tbl ∧ Cond.initialized q.1 ∈ lw_tbl
  | .newarray .int => Cond.arrayClass .int ∈ lw_tbl
  | .newarray .long => Cond.arrayClass .long ∈ lw_tbl
  | .anewarray idx => ∃ q, vwCl[sm_ek w.2.1]? = some q ∧ Cond.classLink own idx q.1 ∈ lw_tbl ∧ Cond.arrayOver (.object q.1) ∈ lw_tbl
  | .ldc idx => (w.2.2.2 = 0 ∧ Cond.constant own idx (Int32.ofNat w.2.1) ∈ lw_tbl) ∨ (w.2.2.2 = 1 ∧ own = RX2 ∧ [42, 106, 108, 110, 112, 114][w.2.1]? = some idx)
  | .ldc_w idx => Cond.constant own idx (Int32.ofNat w.2.1) ∈ lw_tbl
  | .ldc2_w idx => Cond.constantLong own idx (Int64.ofNat w.2.1) ∈ lw_tbl
  | _ => True
/-- the tables' words that hold in every later state too -/
def sm_G : List Cond := lw_tbl.filter goodWord
theorem sm_Gin {w : Cond} (h : w ∈ lw_tbl) (g : goodWord w = true) : w ∈ sm_G := List.mem_filter.mpr ⟨h, g⟩
theorem sm_Glay (C : String) (T : u_T) (N : Nat) (h : ∀ w ∈ u_ws C T N, w ∈ lw_tbl) : ∀ w ∈ u_ws C T N, w ∈ sm_G := by
  intro w hw
  refine sm_Gin (h w hw) ?_
  obtain ⟨k, -, rfl⟩ := List.mem_map.mp hw
  unfold u_lay
  split <;> rfl
theorem sm_cl_in : ∀ (k : Nat) (q : vw_C), vwCl[k]? = some q → (∀ w ∈ u_ws q.1 q.2.1 q.2.2, w ∈ sm_G) ∧ (∀ a, a < q.2.2 → ∀ b, b < q.2.2 → a ≠ b → (q.2.1 a).2.1 ≠ (q.2.1 b).2.1) ∧ ∃ ty : Nat → FieldType, (∀ k, k < q.2.2 → parseFieldDescriptor (q.2.1 k).2.2.1 = some (ty k)) := by
  intro k q h
  match k, h with
  | 0, h => cases h; exact ⟨sm_Glay _ _ _ in_X0, nmX0, tyX0, tyX0_ok⟩
  | 1, h => cases h; exact ⟨sm_Glay _ _ _ in_X1, nmX1, tyX1, tyX1_ok⟩
  | 2, h => cases h; exact ⟨sm_Glay _ _ _ in_X2, nmX2, tyX2, tyX2_ok⟩
  | 3, h => cases h; exact ⟨sm_Glay _ _ _ in_X3, nmX3, tyX3, tyX3_ok⟩
  | 4, h => cases h; exact ⟨sm_Glay _ _ _ in_X4, nmX4, tyX4, tyX4_ok⟩
  | 5, h => cases h; exact ⟨sm_Glay _ _ _ in_X5, nmX5, tyX5, tyX5_ok⟩
  | 6, h => cases h; exact ⟨sm_Glay _ _ _ in_X6, nmX6, tyX6, tyX6_ok⟩
  | 7, h => cases h; exact ⟨sm_Glay _ _ _ in_X7, nmX7, tyX7, tyX7_ok⟩
  | 8, h => cases h; exact ⟨sm_Glay _ _ _ in_X8, nmX8, tyX8, tyX8_ok⟩
  | 9, h => cases h; exact ⟨sm_Glay _ _ _ in_X9, nmX9, tyX9, tyX9_ok⟩
  | 10, h => cases h; exact ⟨sm_Glay _ _ _ in_X10, nmX10, tyX10, tyX10_ok⟩
  | k + 11, h => simp [vwCl] at h
theorem sm_ce_arr (B : Nat → Nat) (dA : Nat → ClassId) (t n : Nat) (x : (Nat → Int32) ⊕ (Nat → Int64) ⊕ (Nat → UInt32) ⊕ (Nat → UInt64) ⊕ (Nat → Option Nat)) : ∃ y : (Nat → Int32) ⊕ (Nat → Int64) ⊕ (Nat → UInt32) ⊕ (Nat → UInt64) ⊕ (Nat → Option Nat), sm_ce B dA (.inl (t, n, x)) = .inl (dA t, n, y) := by
  rcases x with f | f | f | f | f <;> exact ⟨_, rfl⟩
section SMH
variable {p : Program} {l : Launch} {e : Env} {R : Room} {s : State} {m : MethodId} {args : Array Value} {below : List Frame} {meth : Method} {c : Code} {H : Heap} {locs : List Loc} {cells slots : Nat} {Q : State → Prop}
variable {cc : ByteArray} {pc : Nat} {ls : Array Slot} {dC : Nat → ClassId} {dI : Nat → Nat → Nat} {dA : Nat → ClassId} {A : Nat → Prop} {B : Nat → Nat}
set_option maxHeartbeats 4000000 in
theorem sm_h_ok {own : String} {init : Bool} {w : sm_E} {st : List Value} {h : sm_H} {g : Nat × List Value × sm_H} (hx : p.tables.exec = Jvm.exec) (hb : c.code = cc) (hts : ∀ w ∈ sm_G, w.before args s = true) (hown : s.vm.findClass own = some m.cls) (hinit : init = true → meth.name = "<init>")
    (hK : va_K (dC, dI) vwCl (sm_TY dA) s) (hP : va_P (dC, dI) vwCl (sm_ws B dA 0 h) H) (hD : va_D A (sm_ws B dA 0 h)) (hS : va_S A s.heap H locs) (hd : sm_dc cc pc w) (hlk : sm_lk own init w) (hg : sm_h w st h = some g)
    (k : ∀ (H1 : Heap) (locs1 : List Loc), va_P (dC, dI) vwCl (sm_ws B dA 0 g.2.2) H1 → va_D A (sm_ws B dA 0 g.2.2) → va_S A s.heap H1 locs1 → W p l e R s m args below meth c H1 locs1 cells slots Q (F0 m (pc + g.1) ls (sm_cS B g.2.1))) : W p l e R s m args below meth c H locs cells slots Q (F0 m pc ls (sm_cS B st)) := by
  obtain ⟨ins, wa, wb, wc⟩ := w
  have hd1 := fun h => sm_dc1 (cc := cc) (pc := pc) (e := (ins, wa, wb, wc)) hd h
  cases ins <;> first | (cases hg; done) | skip
  case getfield idx =>
    have hd2 := hd1 rfl
    obtain ⟨q, hq, hlt, hw⟩ := hlk
    obtain ⟨hin, -, -⟩ := sm_cl_in _ _ hq
    unfold sm_h at hg
    dsimp only at hg
    split at hg
    · rename_i a r
      split at hg
      · rename_i ci fs hc
        split at hg
        · rename_i hci
          subst hci
          split at hg
          · rename_i v hv
            cases hg
            refine va_get (D := (dC, dI)) (ci := ci) (v := sm_cv B v) (C := q.1) (T := q.2.1) (N := q.2.2) hx hb hts hin hown hK hP a (fs := fs.map (sm_cv B)) (sm_ws_at hc) hq wb hlt (hts _ (sm_Gin hw rfl)) (fun _ h => h) (by rw [List.getElem?_map, hv]; rfl) hd2 ?_
            exact k H locs hP hD hS
          · cases hg
        · cases hg
      · cases hg
    · cases hg
  case putfield idx =>
    have hd2 := hd1 rfl
    obtain ⟨q, ty, hq, hlt, hw, hty, hk2, hfin⟩ := hlk
    obtain ⟨hin, hnm, tys, htys⟩ := sm_cl_in _ _ hq
    unfold sm_h at hg
    dsimp only at hg
    split at hg
    · rename_i v a r
      split at hg
      · rename_i ci fs hc
        split at hg
        · rename_i hci
          obtain ⟨hci, hlen, hfo⟩ := hci
          subst hci
          cases hg
          dsimp only at hk2
          rw [hk2] at hfo
          obtain ⟨hn, hf⟩ := sm_fok_narrow (B := B) hfo
          have hk : ∀ (H1 : Heap) (locs1 : List Loc), va_P (dC, dI) vwCl ((sm_ws B dA 0 h).set a (B a, .inr (ci, (fs.map (sm_cv B)).set wb (sm_cv B v)))) H1 → va_D A ((sm_ws B dA 0 h).set a (B a, .inr (ci, (fs.map (sm_cv B)).set wb (sm_cv B v)))) → va_S A s.heap H1 locs1 → W p l e R s m args below meth c H1 locs1 cells slots Q (F0 m (pc + 3) ls (sm_cS B r)) := by
            intro H1 locs1 a1 a2 a3
            have he : (sm_ws B dA 0 (h.set a (.inr (ci, fs.set wb v)))) = (sm_ws B dA 0 h).set a (B a, .inr (ci, (fs.map (sm_cv B)).set wb (sm_cv B v))) := by
              rw [sm_ws_set, Nat.zero_add]
              simp only [sm_ce, List.map_set]
            exact k H1 locs1 (by rw [he]; exact a1) (by rw [he]; exact a2) a3
          rcases hfin with hfin | ⟨hfin, hi, ho⟩
          · exact va_put (D := (dC, dI)) (ci := ci) (v := sm_cv B v) (ty := ty) (C := q.1) (T := q.2.1) (N := q.2.2) hx hb hts hin tys htys hnm hown hK hP hD hS a (fs := fs.map (sm_cv B)) (sm_ws_at hc) hq wb hlt (hts _ (sm_Gin hw rfl)) (fun _ h => h) hfin hty hn hf (by rw [List.length_map]; exact hlen) hd2 hk
          · exact va_putF (D := (dC, dI)) (ci := ci) (v := sm_cv B v) (ty := ty) (C := q.1) (T := q.2.1) (N := q.2.2) hx hb hts hin tys htys hnm hown hK hP hD hS a (fs := fs.map (sm_cv B)) (sm_ws_at hc) hq wb hlt (hts _ (sm_Gin hw rfl)) (fun _ h => h) hfin (hinit hi) ho hty hn hf (by rw [List.length_map]; exact hlen) hd2 hk
        · cases hg
      · cases hg
    · cases hg
  case arraylength =>
    have hd2 := hd1 rfl
    unfold sm_h at hg
    dsimp only at hg
    split at hg
    · rename_i a r
      split at hg
      · rename_i t n x hc
        split at hg
        · rename_i ht
          cases hg
          obtain ⟨y, hy⟩ := sm_ce_arr B dA t n x
          have hw := sm_ws_at (B := B) (dA := dA) hc
          rw [hy] at hw
          have hk := k H locs hP hD hS
          match t, ht with
          | 0, _ => exact va_alen hx hb hK hP a 0 hw rfl rfl hd2 hk
          | 1, _ => exact va_alen hx hb hK hP a 1 hw rfl rfl hd2 hk
          | 2, _ => exact va_alen hx hb hK hP a 2 hw rfl rfl hd2 hk
          | 3, _ => exact va_alen hx hb hK hP a 3 hw rfl rfl hd2 hk
          | 4, _ => exact va_alen hx hb hK hP a 4 hw rfl rfl hd2 hk
          | t + 5, ht => exact absurd ht (Nat.not_lt.mpr (Nat.le_add_left 5 t))
        · cases hg
      · cases hg
    · cases hg
  case iaload =>
    have hd2 := hd1 rfl
    unfold sm_h at hg
    dsimp only at hg
    split at hg
    · rename_i i a r
      split at hg
      · rename_i t n f hc
        split at hg
        · rename_i hh
          obtain ⟨ht, hin⟩ := hh
          subst ht
          cases hg
          exact va_iald hx hb hK hP a 0 (sm_ws_at hc) rfl hin hd2 (k H locs hP hD hS)
        · cases hg
      · cases hg
    · cases hg
  case laload =>
    have hd2 := hd1 rfl
    unfold sm_h at hg
    dsimp only at hg
    split at hg
    · rename_i i a r
      split at hg
      · rename_i t n f hc
        split at hg
        · rename_i hh
          obtain ⟨ht, hin⟩ := hh
          subst ht
          cases hg
          exact va_lald hx hb hK hP a 1 (sm_ws_at hc) rfl hin hd2 (k H locs hP hD hS)
        · cases hg
      · cases hg
    · cases hg
  case iastore =>
    have hd2 := hd1 rfl
    unfold sm_h at hg
    dsimp only at hg
    split at hg
    · rename_i x i a r
      split at hg
      · rename_i t n f hc
        split at hg
        · rename_i hh
          obtain ⟨ht, hin⟩ := hh
          subst ht
          cases hg
          refine va_iast hx hb hK hP hD hS a 0 (sm_ws_at hc) rfl hin hd2 (fun H1 locs1 a1 a2 a3 => ?_)
          have he := sm_ws_set B dA (.inl (0, n, .inl (upd f i.toNatClampNeg x))) h 0 a
          rw [Nat.zero_add] at he
          exact k H1 locs1 (by rw [he]; exact a1) (by rw [he]; exact a2) a3
        · cases hg
      · cases hg
    · cases hg
  case lastore =>
    have hd2 := hd1 rfl
    unfold sm_h at hg
    dsimp only at hg
    split at hg
    · rename_i x i a r
      split at hg
      · rename_i t n f hc
        split at hg
        · rename_i hh
          obtain ⟨ht, hin⟩ := hh
          subst ht
          cases hg
          refine va_last hx hb hK hP hD hS a 1 (sm_ws_at hc) rfl hin hd2 (fun H1 locs1 a1 a2 a3 => ?_)
          have he := sm_ws_set B dA (.inl (1, n, .inr (.inl (vp_updL f i.toNatClampNeg x)))) h 0 a
          rw [Nat.zero_add] at he
          exact k H1 locs1 (by rw [he]; exact a1) (by rw [he]; exact a2) a3
        · cases hg
      · cases hg
    · cases hg
  case aaload =>
    have hd2 := hd1 rfl
    unfold sm_h at hg
    dsimp only at hg
    split at hg
    · rename_i i a r
      split at hg
      · rename_i t n f hc
        split at hg
        · rename_i hh
          obtain ⟨ht, hin⟩ := hh
          cases hg
          have hv : sm_cv B (va_rf (f i.toNatClampNeg)) = va_rf ((f i.toNatClampNeg).map B) := by cases f i.toNatClampNeg <;> rfl
          have hk := k H locs hP hD hS
          unfold sm_cS at hk
          rw [List.map_cons, hv] at hk
          rcases ht with ht | ht | ht
          · subst ht; exact va_aldq (C := RX3) hx hb hK hP a 2 (sm_ws_at hc) rfl hin hd2 hk
          · subst ht; exact va_aldq (C := RX6) hx hb hK hP a 3 (sm_ws_at hc) rfl hin hd2 hk
          · subst ht; exact va_aldq (C := RX8) hx hb hK hP a 4 (sm_ws_at hc) rfl hin hd2 hk
        · cases hg
      · cases hg
    · cases hg
end SMH
