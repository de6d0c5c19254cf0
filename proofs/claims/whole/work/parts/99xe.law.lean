/-! the law: set, whose third argument is two ints -/
section LWS
variable {p : Program} {l : Launch} {e : Env} {s : State} {m : MethodId} {below : List Frame} {meth : Method} {c : Code} {H : Heap} {locs : List Loc} {Q : State → Prop} {cells slots : Nat}
variable {pc : Nat} {ls : Array Slot} {dC : Nat → ClassId} {dI : Nat → Nat → Nat} {dA : Nat → ClassId} {B : Nat → Nat} {adK adV : Nat → Nat} {b L : Nat} {xs : Nat → Int32}
abbrev lw_ps : List ClassFile.Instr := lw_pu [1, 2] ++ (lw_pu [3] ++ (.i2l :: .bipush 32 :: .lshl :: (lw_pu [4] ++ [.i2l, .ldc2_w 18, .land, .lor])))
def lw_v (x y : Int32) : Int64 := x.toInt64 <<< ((32 : Int32).toInt64 &&& 63) ||| (y.toInt64 &&& 4294967295)
theorem lw_18 : Cond.constantLong R_law 18 4294967295 ∈ lw_tbl := by decide +kernel
theorem lw_pset (C : lw_At p s m meth c b L xs) {i o1 o2 : Nat} (hl : lv_has ls 4 [(0, .ref b), (1, .ref o1), (2, .ref o2), (3, .int (Int32.ofNat i))]) (hi : i + 5 < L) (hL : L ≤ 3072) (hS : va_S (fun q => s.heap.size ≤ q) s.heap H locs) {st : List Value} (D : lw_D pc lw_ps) (kk : W p l e room_1 s m #[Value.ref b] below meth c H locs cells slots Q (F0 m (pc + 30) ls ([.int (xs (i + 1)), .int (xs (i + 2)), .long (lw_v (xs (i + 3)) (xs (i + 4)))].reverse ++ st))) : W p l e room_1 s m #[Value.ref b] below meth c H locs cells slots Q (F0 m pc ls st) := by
  obtain ⟨hx, hb, hr, hml, hown, hts, -⟩ := id C
  obtain ⟨q1, D1⟩ := lw_D_pu [1, 2] _ _ D
  obtain ⟨q2, d2, d3, d4, D2⟩ := lw_D_pu [3] _ _ D1
  obtain ⟨q3, d5, d6, d7, d8, -⟩ := lw_D_pu [4] _ _ D2
  refine lw_push C hl hi hL hS [1, 2] pc st (by decide) q1 ?_
  refine lw_push C hl hi hL hS [3] _ _ (by decide) q2 ?_
  show W p l e room_1 s m #[Value.ref b] below meth c H locs cells slots Q (F0 m _ ls (.int (xs (i + 3)) :: .int (xs (i + 2)) :: .int (xs (i + 1)) :: st))
  refine lv_i2l hx hb d2 rfl ?_
  refine lv_bipush (v := 32) hx hb d3 (by decide) ?_
  refine lv_lshl hx hb d4 rfl ?_
  refine lw_push C hl hi hL hS [4] _ _ (by decide) q3 ?_
  show W p l e room_1 s m #[Value.ref b] below meth c H locs cells slots Q (F0 m _ ls (.int (xs (i + 4)) :: .long ((xs (i + 3)).toInt64 <<< ((32 : Int32).toInt64 &&& 63)) :: .int (xs (i + 2)) :: .int (xs (i + 1)) :: st))
  refine lv_i2l hx hb d5 rfl ?_
  refine lv_ldc2 hx hb hown (hts _ lw_18) d6 ?_
  refine lv_land hx hb d7 ?_
  refine lv_lor hx hb d8 ?_
  have e : pc + 5 * [1, 2].length + 5 * [3].length + 1 + 2 + 1 + 5 * [4].length + 1 + 3 + 1 + 1 = pc + 30 := by
    simp only [List.length_cons, List.length_nil]
  rw [← e] at kk
  exact kk
theorem lw_d1 {i : ClassFile.Instr} {pc : Nat} (h : lw_sq [i] (code.data.toList.drop pc) = true) : decode code pc = .ok (i, sm_len i) := (lw_D_of _ _ h).1
theorem lk_set (C : lw_At p s m meth c b L xs) (K : lw_K s dC dI dA B adK adV) {i : Nat} {U : sU} (hL : L ≤ 3072) (hi : i + 5 < L) (hl : lv_has ls 4 [(0, .ref b), (1, .ref (B 0)), (2, .ref (B 280)), (3, .int (Int32.ofNat i))]) (hU : Inv U) (T : lw_St dC dI dA B s U H locs) (k : ∀ (V : sU) (H1 : Heap) (locs1 : List Loc), Inv V → lw_St dC dI dA B s V H1 locs1 → W p l e room_1 s m #[Value.ref b] below meth c H1 locs1 314 lwS Q (F0 m 1662 ls [])) : W p l e room_1 s m #[Value.ref b] below meth c H locs 314 lwS Q (F0 m 267 ls []) := by
  obtain ⟨hx, hb, -⟩ := id C
  obtain ⟨r, U1, V, r1, r2, hV⟩ := tw_set hU (xs (i + 1)) (xs (i + 2)) (lw_v (xs (i + 3)) (xs (i + 4)))
  refine lw_two C K (pc := 267) (n := 30) (as := [.int (xs (i + 1)), .int (xs (i + 2)), .long (lw_v (xs (i + 3)) (xs (i + 4)))]) (jc := 114) (jm := 182) (idxC := 20) (idxM := 24) (v1 := .int r) (v2 := .int r) hl rfl (fun H locs st hS kk => lw_pset C hl hi hL hS (lw_D_of _ _ (by decide +kernel)) kk) (fun H locs st hS kk => lw_pset C hl hi hL hS (lw_D_of _ _ (by decide +kernel)) kk) (lw_d1 (by decide +kernel)) (lw_d1 (by decide +kernel)) (lw_d1 (by decide +kernel)) (lw_d1 (by decide +kernel)) lv_114 lv_182 (Nat.le_of_ble_eq_true rfl) r1 r2 T (fun H1 locs1 T1 => ?_)
  exact lv_icmp_eq (tgt := 1662) (off := 1327) hx hb (lw_d1 (i := .if_icmp .eq 1327) (by decide +kernel)) (by decide) (fun _ => k V H1 locs1 hV T1) (fun q => absurd rfl q)
end LWS
