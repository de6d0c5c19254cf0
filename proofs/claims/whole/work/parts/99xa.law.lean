/-! the law: one case of its switch -/
theorem sh_0 : sh 0 = 9 ∧ sh 280 = 10 := by decide +kernel
def lw_wd (idx : Nat) (y : MethodName) : Prop := Cond.methodLink R_law idx y ∈ lw_tbl ∧ Cond.instanceMethod y ∈ lw_tbl ∧ Cond.selects y.cls y y ∈ lw_tbl
section LWD
variable {p : Program} {l : Launch} {e : Env} {s : State} {m : MethodId} {below : List Frame} {meth : Method} {c : Code} {H : Heap} {locs : List Loc} {Q : State → Prop} {cells slots : Nat}
variable {pc : Nat} {ls : Array Slot} {dC : Nat → ClassId} {dI : Nat → Nat → Nat} {dA : Nat → ClassId} {B : Nat → Nat} {adK adV : Nat → Nat} {b L : Nat} {xs : Nat → Int32}
theorem lw_two (C : lw_At p s m meth c b L xs) (K : lw_K s dC dI dA B adK adV) {as : List Value} {n i jc jm idxC idxM : Nat} {JC JM : sm_I} {v1 v2 : Value} {U U1 V : sU} (hl : lv_has ls 4 [(0, .ref b), (1, .ref (B 0)), (2, .ref (B 280)), (3, .int (Int32.ofNat i))]) (has : as.map (sm_cv B) = as)
    (p1 : ∀ (H : Heap) (locs : List Loc) (st : List Value), va_S (fun q => s.heap.size ≤ q) s.heap H locs → W p l e room_1 s m #[Value.ref b] below meth c H locs 314 lwS Q (F0 m (pc + 1 + n) ls (as.reverse ++ st)) → W p l e room_1 s m #[Value.ref b] below meth c H locs 314 lwS Q (F0 m (pc + 1) ls st))
    (p2 : ∀ (H : Heap) (locs : List Loc) (st : List Value), va_S (fun q => s.heap.size ≤ q) s.heap H locs → W p l e room_1 s m #[Value.ref b] below meth c H locs 314 lwS Q (F0 m (pc + 1 + n + 3 + 1 + n) ls (as.reverse ++ st)) → W p l e room_1 s m #[Value.ref b] below meth c H locs 314 lwS Q (F0 m (pc + 1 + n + 3 + 1) ls st))
    (d0 : decode code pc = .ok (.aload_n 1, 1)) (d1 : decode code (pc + 1 + n) = .ok (.invokevirtual idxC, 3)) (d2 : decode code (pc + 1 + n + 3) = .ok (.aload_n 2, 1)) (d3 : decode code (pc + 1 + n + 3 + 1 + n) = .ok (.invokevirtual idxM, 3))
    (hC : sm_M jc = some JC ∧ JC.1.cls = RX9 ∧ sm_par JC.1 = some as.length ∧ lw_wd idxC JC.1) (hM : sm_M jm = some JM ∧ JM.1.cls = RX10 ∧ sm_par JM.1 = some as.length ∧ lw_wd idxM JM.1) (hv1 : sm_cat [v1] ≤ 8)
    (r1 : Rn 10 JC (.ref 0 :: as) U (some v1) U1) (r2 : Rn 10 JM (.ref 280 :: as) U1 (some v2) V) (T : lw_St dC dI dA B s U H locs)
    (k : ∀ (H1 : Heap) (locs1 : List Loc), lw_St dC dI dA B s V H1 locs1 → W p l e room_1 s m #[Value.ref b] below meth c H1 locs1 314 lwS Q (F0 m (pc + 1 + n + 3 + 1 + n + 3) ls [sm_cv B v2, sm_cv B v1])) :
    W p l e room_1 s m #[Value.ref b] below meth c H locs 314 lwS Q (F0 m pc ls []) := by
  obtain ⟨hx, hb, hr, hml, hown, hts, hXs, hbl, hlocks, hgv⟩ := id C
  obtain ⟨c1, c2, c3, c4⟩ := hC
  obtain ⟨m1, m2, m3, m4⟩ := hM
  refine lv_aload_n hx hb d0 rfl (lv_at hl 1 rfl) ?_
  refine p1 H locs _ T.2.2 ?_
  have g1 := lw_call C K (l := l) (e := e) (below := below) (Q := Q) (ls := ls) (rest := []) (qc := (RX9, TX9, 11)) c1 sh_0.1 (by omega) rfl c2.symm c3 c4 r1 (by decide) d1 hl.1 T
  rw [has] at g1
  refine g1 (fun H1 locs1 T1 => ?_)
  refine lv_aload_n hx hb d2 rfl (lv_at hl 2 rfl) ?_
  refine p2 H1 locs1 _ T1.2.2 ?_
  have g2 := lw_call C K (l := l) (e := e) (below := below) (Q := Q) (ls := ls) (rest := [v1]) (qc := (RX10, TX10, 57)) m1 sh_0.2 (by omega) rfl m2.symm m3 m4 r2 hv1 d3 hl.1 T1
  rw [has] at g2
  exact g2 k
/-- the arguments of a call, as many as ks says -/
abbrev lw_as (xs : Nat → Int32) (i : Nat) (ks : List Nat) : List Value := ks.map (fun k => Value.int (xs (i + k)))
theorem lw_as_cv (ks : List Nat) (i : Nat) : (lw_as xs i ks).map (sm_cv B) = lw_as xs i ks := by
  unfold lw_as
  rw [List.map_map]
  rfl
abbrev lw_cs (ks : List Nat) (idxC idxM : Nat) (tl : List ClassFile.Instr) : List ClassFile.Instr := .aload_n 1 :: (lw_pu ks ++ (.invokevirtual idxC :: .aload_n 2 :: (lw_pu ks ++ (.invokevirtual idxM :: tl))))
theorem lw_case (C : lw_At p s m meth c b L xs) (K : lw_K s dC dI dA B adK adV) {ks : List Nat} {tl : List ClassFile.Instr} {i jc jm idxC idxM : Nat} {JC JM : sm_I} {v1 v2 : Value} {U U1 V : sU} (hL : L ≤ 3072) (hi : i + 5 < L) (hl : lv_has ls 4 [(0, .ref b), (1, .ref (B 0)), (2, .ref (B 280)), (3, .int (Int32.ofNat i))]) (hks : ∀ k ∈ ks, k < 6) (D : lw_D pc (lw_cs ks idxC idxM tl))
    (hC : sm_M jc = some JC ∧ JC.1.cls = RX9 ∧ sm_par JC.1 = some (lw_as xs i ks).length ∧ lw_wd idxC JC.1) (hM : sm_M jm = some JM ∧ JM.1.cls = RX10 ∧ sm_par JM.1 = some (lw_as xs i ks).length ∧ lw_wd idxM JM.1) (hv1 : sm_cat [v1] ≤ 8)
    (r1 : Rn 10 JC (.ref 0 :: lw_as xs i ks) U (some v1) U1) (r2 : Rn 10 JM (.ref 280 :: lw_as xs i ks) U1 (some v2) V) (T : lw_St dC dI dA B s U H locs)
    (k : lw_D (pc + 1 + 5 * ks.length + 3 + 1 + 5 * ks.length + 3) tl → ∀ (H1 : Heap) (locs1 : List Loc), lw_St dC dI dA B s V H1 locs1 → W p l e room_1 s m #[Value.ref b] below meth c H1 locs1 314 lwS Q (F0 m (pc + 1 + 5 * ks.length + 3 + 1 + 5 * ks.length + 3) ls [sm_cv B v2, sm_cv B v1])) :
    W p l e room_1 s m #[Value.ref b] below meth c H locs 314 lwS Q (F0 m pc ls []) := by
  obtain ⟨d0, D1⟩ := D
  have D1 : lw_D (pc + 1) (lw_pu ks ++ (.invokevirtual idxC :: .aload_n 2 :: (lw_pu ks ++ (.invokevirtual idxM :: tl)))) := D1
  obtain ⟨q1, d1, d2, D2⟩ := lw_D_pu ks _ _ D1
  have D2 : lw_D (pc + 1 + 5 * ks.length + 3 + 1) (lw_pu ks ++ (.invokevirtual idxM :: tl)) := D2
  obtain ⟨q2, d3, D3⟩ := lw_D_pu ks _ _ D2
  exact lw_two C K (n := 5 * ks.length) hl (lw_as_cv ks i) (fun H locs st hS kk => lw_push C hl hi hL hS ks _ st hks q1 kk) (fun H locs st hS kk => lw_push C hl hi hL hS ks _ st hks q2 kk) d0 d1 d2 d3 hC hM hv1 r1 r2 T (k D3)
theorem lw_case_i (C : lw_At p s m meth c b L xs) (K : lw_K s dC dI dA B adK adV) {ks : List Nat} {off : Int} {i jc jm idxC idxM : Nat} {JC JM : sm_I} {U : sU} (hL : L ≤ 3072) (hi : i + 5 < L) (hl : lv_has ls 4 [(0, .ref b), (1, .ref (B 0)), (2, .ref (B 280)), (3, .int (Int32.ofNat i))]) (hks : ∀ k ∈ ks, k < 6) (D : lw_sq (lw_cs ks idxC idxM [.if_icmp .eq off]) (code.data.toList.drop pc) = true) (ho : ((pc + 1 + 5 * ks.length + 3 + 1 + 5 * ks.length + 3 : Nat) : Int) + off = ((1662 : Nat) : Int))
    (hC : sm_M jc = some JC ∧ JC.1.cls = RX9 ∧ sm_par JC.1 = some (lw_as xs i ks).length ∧ lw_wd idxC JC.1) (hM : sm_M jm = some JM ∧ JM.1.cls = RX10 ∧ sm_par JM.1 = some (lw_as xs i ks).length ∧ lw_wd idxM JM.1)
    (two : ∃ (r : Int32) (U1 V : sU), Rn 10 JC (.ref 0 :: lw_as xs i ks) U (some (.int r)) U1 ∧ Rn 10 JM (.ref 280 :: lw_as xs i ks) U1 (some (.int r)) V ∧ Inv V) (T : lw_St dC dI dA B s U H locs)
    (k : ∀ (V : sU) (H1 : Heap) (locs1 : List Loc), Inv V → lw_St dC dI dA B s V H1 locs1 → W p l e room_1 s m #[Value.ref b] below meth c H1 locs1 314 lwS Q (F0 m 1662 ls [])) :
    W p l e room_1 s m #[Value.ref b] below meth c H locs 314 lwS Q (F0 m pc ls []) := by
  obtain ⟨hx, hb, -⟩ := id C
  obtain ⟨r, U1, V, r1, r2, hV⟩ := two
  refine lw_case C K hL hi hl hks (lw_D_of _ _ D) hC hM (v1 := .int r) (v2 := .int r) (Nat.le_of_ble_eq_true rfl) r1 r2 T (fun D3 H1 locs1 T1 => ?_)
  obtain ⟨d4, -⟩ := D3
  exact lv_icmp_eq (tgt := 1662) hx hb d4 ho (fun _ => k V H1 locs1 hV T1) (fun q => absurd rfl q)
theorem lw_case_l (C : lw_At p s m meth c b L xs) (K : lw_K s dC dI dA B adK adV) {ks : List Nat} {off : Int} {i jc jm idxC idxM : Nat} {JC JM : sm_I} {U : sU} (hL : L ≤ 3072) (hi : i + 5 < L) (hl : lv_has ls 4 [(0, .ref b), (1, .ref (B 0)), (2, .ref (B 280)), (3, .int (Int32.ofNat i))]) (hks : ∀ k ∈ ks, k < 6) (D : lw_sq (lw_cs ks idxC idxM [.lcmp, .ifCond .eq off]) (code.data.toList.drop pc) = true) (ho : ((pc + 1 + 5 * ks.length + 3 + 1 + 5 * ks.length + 3 + 1 : Nat) : Int) + off = ((1662 : Nat) : Int))
    (hC : sm_M jc = some JC ∧ JC.1.cls = RX9 ∧ sm_par JC.1 = some (lw_as xs i ks).length ∧ lw_wd idxC JC.1) (hM : sm_M jm = some JM ∧ JM.1.cls = RX10 ∧ sm_par JM.1 = some (lw_as xs i ks).length ∧ lw_wd idxM JM.1)
    (two : ∃ (r : Int64) (U1 V : sU), Rn 10 JC (.ref 0 :: lw_as xs i ks) U (some (.long r)) U1 ∧ Rn 10 JM (.ref 280 :: lw_as xs i ks) U1 (some (.long r)) V ∧ Inv V) (T : lw_St dC dI dA B s U H locs)
    (k : ∀ (V : sU) (H1 : Heap) (locs1 : List Loc), Inv V → lw_St dC dI dA B s V H1 locs1 → W p l e room_1 s m #[Value.ref b] below meth c H1 locs1 314 lwS Q (F0 m 1662 ls [])) :
    W p l e room_1 s m #[Value.ref b] below meth c H locs 314 lwS Q (F0 m pc ls []) := by
  obtain ⟨hx, hb, -⟩ := id C
  obtain ⟨r, U1, V, r1, r2, hV⟩ := two
  refine lw_case C K hL hi hl hks (lw_D_of _ _ D) hC hM (v1 := .long r) (v2 := .long r) (Nat.le_of_ble_eq_true rfl) r1 r2 T (fun D3 H1 locs1 T1 => ?_)
  obtain ⟨d4, d5, -⟩ := D3
  refine W.lcmp hx hb d4 ?_
  have e : lg_cmp r r = 0 := by
    unfold lg_cmp
    rw [if_neg (fun q => Int64.lt_irrefl q), if_pos rfl]
  exact lv_if_eq (tgt := 1662) hx hb d5 ho (fun _ => k V H1 locs1 hV T1) (fun q => absurd e q)
end LWD
