/-! the law, from its entry -/
theorem lw_w9 : Cond.classLink R_law 7 RX9 ∈ lw_tbl ∧ Cond.instantiable RX9 11 ∈ lw_tbl ∧ Cond.initialized RX9 ∈ lw_tbl := by decide +kernel
theorem lw_w10 : Cond.classLink R_law 10 RX10 ∈ lw_tbl ∧ Cond.instantiable RX10 57 ∈ lw_tbl ∧ Cond.initialized RX10 ∈ lw_tbl := by decide +kernel
theorem lw_wi : (sm_par sm_I112.1 = some 0 ∧ Cond.methodLink R_law 9 sm_I112.1 ∈ lw_tbl ∧ Cond.instanceMethod sm_I112.1 ∈ lw_tbl ∧ sm_I112.1.name = "<init>") ∧ (sm_par sm_I173.1 = some 0 ∧ Cond.methodLink R_law 12 sm_I173.1 ∈ lw_tbl ∧ Cond.instanceMethod sm_I173.1 ∈ lw_tbl ∧ sm_I173.1.name = "<init>") := by decide +kernel
section LWI
variable {p : Program} {l : Launch} {e : Env} {s : State} {m : MethodId} {below : List Frame} {meth : Method} {c : Code} {H : Heap} {locs : List Loc} {Q : State → Prop} {cells slots : Nat}
variable {pc : Nat} {ls : Array Slot} {dC : Nat → ClassId} {dI : Nat → Nat → Nat} {dA : Nat → ClassId} {B : Nat → Nat} {adK adV : Nat → Nat} {b L : Nat} {xs : Nat → Int32}
theorem lw_begin (C : lw_At p s m meth c b L xs) (K : lw_K s dC dI dA B adK adV) {h1 hE : sm_H} (r1 : sm_run sm_M 4000 9 sm_I112 0 (lv_args 0 [.ref 0]) [] [.inr (9, sm_df 9)] = some (none, h1)) (l1 : h1.length = 280) (r2 : sm_run sm_M 1000 9 sm_I173 0 (lv_args 0 [.ref 280]) [] (h1 ++ [.inr (10, sm_df 10)]) = some (none, hE)) (lE : hE.length = 314) (sE : sm_sl hE = lwS) (hl : lv_has ls 4 [(0, .ref b)])
    (kk : ∀ (H1 : Heap) (locs1 : List Loc) (ls1 : Array Slot), va_P (dC, dI) vwCl (sm_ws B dA 0 hE) H1 → va_D (fun q => s.heap.size ≤ q) (sm_ws B dA 0 hE) → va_S (fun q => s.heap.size ≤ q) s.heap H1 locs1 → lv_has ls1 4 [(0, .ref b), (1, .ref (B 0)), (2, .ref (B 280)), (3, .int (Int32.ofNat 0))] → W p l e room_1 s m #[Value.ref b] below meth c H1 locs1 314 lwS Q (F0 m 18 ls1 [])) :
    W p l e room_1 s m #[Value.ref b] below meth c s.heap [] 0 0 Q (F0 m 0 ls []) := by
  obtain ⟨hx, hb, -⟩ := id C
  have z1 : ([.inr (9, sm_df 9)] : sm_H).length ≤ h1.length := (sm_run_size sm_M _ _ _ _ _ _ _ _ r1).1
  have z2 : sm_sl ([.inr (9, sm_df 9)] : sm_H) ≤ sm_sl h1 := (sm_run_size sm_M _ _ _ _ _ _ _ _ r1).2
  have y1 : (h1 ++ [.inr (10, sm_df 10)] : sm_H).length ≤ hE.length := (sm_run_size sm_M _ _ _ _ _ _ _ _ r2).1
  have y2 : sm_sl (h1 ++ [.inr (10, sm_df 10)]) ≤ sm_sl hE := (sm_run_size sm_M _ _ _ _ _ _ _ _ r2).2
  have le := lwS_le
  have sc : sm_sl h1 ≤ sm_sl (h1 ++ [.inr (10, sm_df 10)]) := by
    unfold sm_sl
    rw [List.map_append, List.sum_append]
    omega
  have hP : va_P (dC, dI) vwCl (sm_ws B dA 0 []) s.heap := fun k q h => by cases h
  have hD : va_D (fun q => s.heap.size ≤ q) (sm_ws B dA 0 []) := ⟨fun i j p q h => (by cases h), fun k q h => (by cases h)⟩
  refine lw_new C K (ci := 9) (idx := 7) (st := []) (h := []) (qc := (RX9, TX9, 11)) rfl (by omega) lw_w9 (lw_d1 (i := .new 7) (by decide +kernel)) hl.1 (by decide) rfl rfl (Nat.le_trans z2 (by omega)) hP hD va_S.rf (fun H1 locs1 a1 a2 a3 => ?_)
  refine lv_dup hx hb (lw_d1 (i := .dup) (by decide +kernel)) rfl ?_
  refine lw_ctor C K (J := sm_I112) (n := 4000) (jn := 112) (idx := 9) (a := 0) (rest := [.ref 0]) (h := [.inr (9, sm_df 9)]) (q := (none, h1)) rfl rfl lw_wi.1.1 lw_wi.1.2 (by decide +kernel) r1 rfl z1 (by show h1.length ≤ 999; omega) z2 (by show sm_sl h1 ≤ 100000; omega) rfl rfl (by decide) (lw_d1 (i := .invokespecial 9) (by decide +kernel)) hl.1 a1 a2 a3 (fun H2 locs2 b1 b2 b3 => ?_)
  refine lv_astore_n (x := B 0) (lv' := [(1, .ref (B 0)), (0, .ref b)]) hx hb (lw_d1 (i := .astore_n 1) (by decide +kernel)) rfl hl (by decide) rfl (fun ls hl => ?_)
  refine lw_new C K (ci := 10) (idx := 10) (st := []) (h := h1) (qc := (RX10, TX10, 57)) rfl (by omega) lw_w10 (lw_d1 (i := .new 10) (by decide +kernel)) hl.1 (by omega) rfl rfl (by omega) b1 b2 b3 (fun H3 locs3 c1 c2 c3 => ?_)
  rw [l1]
  refine lv_dup hx hb (lw_d1 (i := .dup) (by decide +kernel)) rfl ?_
  refine lw_ctor C K (J := sm_I173) (n := 1000) (jn := 173) (idx := 12) (a := 280) (rest := [.ref 280]) (h := h1 ++ [.inr (10, sm_df 10)]) (q := (none, hE)) rfl rfl lw_wi.2.1 lw_wi.2.2 (by decide +kernel) r2 rfl y1 (by show hE.length ≤ 999; omega) y2 (by show sm_sl hE ≤ 100000; omega) (by rw [List.length_append, l1]; rfl) rfl (by decide) (lw_d1 (i := .invokespecial 12) (by decide +kernel)) hl.1 c1 c2 c3 (fun H4 locs4 d1 d2 d3 => ?_)
  refine lv_astore_n (x := B 280) (lv' := [(2, .ref (B 280)), (1, .ref (B 0)), (0, .ref b)]) hx hb (lw_d1 (i := .astore_n 2) (by decide +kernel)) rfl hl (by decide) rfl (fun ls hl => ?_)
  refine lv_iconst (v := 0) hx hb (lw_d1 (i := .iconst 0) (by decide +kernel)) (by decide) ?_
  refine lv_istore_n (lv' := [(3, .int 0), (2, .ref (B 280)), (1, .ref (B 0)), (0, .ref b)]) hx hb (lw_d1 (i := .istore_n 3) (by decide +kernel)) rfl hl (by decide) rfl (fun ls hl => ?_)
  have g := kk H4 locs4 ls d1 d2 d3 (lv_sub hl [3, 2, 1, 0] rfl)
  rw [← lE, ← sE] at g
  exact g
end LWI
theorem whole_start {p : Program} {e : Env} {s : State} {m : MethodId} {below : List Frame} {meth : Method} {c : Code} (l : Launch) (hflags : l.flags = flags0) {b L : Nat} {xs : Nat → Int32} (hL : L ≤ 3072) (C0 : lw_At p s m meth c b L xs) : W p l e room_1 s m #[Value.ref b] below meth c s.heap [] 0 0 (lw_Z below #[Value.ref b] s) (entryFrame m ([Value.ref b] : List Value).toArray 4) := by
  obtain ⟨dC, dI, dA, B, adK, adV, K⟩ := lw_start_K C0
  have hl := lv_entry ([.ref b]) (n := 4) (Nat.le_of_ble_eq_true rfl)
  rw [lg_entry_eq]
  generalize (lg_sl ([.ref b]) ++ List.replicate (4 - (lg_sl ([.ref b])).length) Slot.unset).toArray = ls at hl ⊢
  have hl : lv_has ls 4 [(0, .ref b)] := hl
  have r1 := cR1_def.symm.trans cR1_eq
  have r2 := cR2_def.symm.trans cR2_eq
  have l1 := cH1_len
  have inv := Inv_U0
  rw [cHE_lay] at r2
  unfold cH0 at r1
  unfold cH2 at r2
  generalize cH1 = h1 at r1 r2 l1
  generalize U0 = V at r2 inv
  have sV : sm_sl (lay V) = lwS := by unfold lwS; exact sl_lay V Ud
  exact lw_begin C0 K r1 l1 r2 (lay_len V) sV hl (fun H1 locs1 ls1 a1 a2 a3 hl1 => lw_loop C0 K hL (L + 1) 0 V H1 locs1 ls1 (Nat.zero_le _) (by omega) inv ⟨a1, a2, a3⟩ hl1)
