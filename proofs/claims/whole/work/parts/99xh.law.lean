/-! the law: its switch and its loop -/
section LWL
variable {p : Program} {l : Launch} {e : Env} {s : State} {m : MethodId} {below : List Frame} {meth : Method} {c : Code} {H : Heap} {locs : List Loc} {Q : State → Prop} {cells slots : Nat}
variable {pc : Nat} {ls : Array Slot} {dC : Nat → ClassId} {dI : Nat → Nat → Nat} {dA : Nat → ClassId} {B : Nat → Nat} {adK adV : Nat → Nat} {b L : Nat} {xs : Nat → Int32}
theorem lw_d33 : decode code 33 = .ok (.tableswitch 1629 0 43 #[191, 234, 307, 370, 404, 437, 460, 493, 516, 529, 562, 605, 638, 681, 724, 777, 820, 853, 886, 919, 952, 975, 1019, 1053, 1087, 1110, 1133, 1156, 1189, 1212, 1245, 1268, 1291, 1334, 1378, 1401, 1424, 1457, 1470, 1514, 1557, 1580, 1593, 1606], 191) := by decide +kernel
theorem lw_sw (C : lw_At p s m meth c b L xs) (K : lw_K s dC dI dA B adK adV) {i : Nat} {U : sU} (hL : L ≤ 3072) (hi : i + 5 < L) (hl : lv_has ls 4 [(0, .ref b), (1, .ref (B 0)), (2, .ref (B 280)), (3, .int (Int32.ofNat i))]) (hU : Inv U) (T : lw_St dC dI dA B s U H locs) (k : ∀ (V : sU) (H1 : Heap) (locs1 : List Loc), Inv V → lw_St dC dI dA B s V H1 locs1 → W p l e room_1 s m #[Value.ref b] below meth c H1 locs1 314 lwS Q (F0 m 1662 ls [])) {x : Int32} : ∀ j : Nat, j < 44 → x.toInt = (j : Int) → W p l e room_1 s m #[Value.ref b] below meth c H locs 314 lwS Q (F0 m 33 ls [.int x]) := by
  obtain ⟨hx, hb, -⟩ := id C
  intro j hj hxj
  match j, hj, hxj with
  | 0, _, q => exact lv_tableIn (off := 191) (tgt := 224) hx hb lw_d33 (by rw [q]; decide) (by rw [q]; decide) (by rw [q]; rfl) (by decide) (lk_row C K hL hi hl hU T k)
  | 1, _, q => exact lv_tableIn (off := 234) (tgt := 267) hx hb lw_d33 (by rw [q]; decide) (by rw [q]; decide) (by rw [q]; rfl) (by decide) (lk_set C K hL hi hl hU T k)
  | 2, _, q => exact lv_tableIn (off := 307) (tgt := 340) hx hb lw_d33 (by rw [q]; decide) (by rw [q]; decide) (by rw [q]; rfl) (by decide) (lk_copy C K hL hi hl hU T k)
  | 3, _, q => exact lv_tableIn (off := 370) (tgt := 403) hx hb lw_d33 (by rw [q]; decide) (by rw [q]; decide) (by rw [q]; rfl) (by decide) (lk_element C K hL hi hl hU T k)
  | 4, _, q => exact lv_tableIn (off := 404) (tgt := 437) hx hb lw_d33 (by rw [q]; decide) (by rw [q]; decide) (by rw [q]; rfl) (by decide) (lk_show C K hL hi hl hU T k)
  | 5, _, q => exact lv_tableIn (off := 437) (tgt := 470) hx hb lw_d33 (by rw [q]; decide) (by rw [q]; decide) (by rw [q]; rfl) (by decide) (lk_holds C K hL hi hl hU T k)
  | 6, _, q => exact lv_tableIn (off := 460) (tgt := 493) hx hb lw_d33 (by rw [q]; decide) (by rw [q]; decide) (by rw [q]; rfl) (by decide) (lk_saysS C K hL hi hl hU T k)
  | 7, _, q => exact lv_tableIn (off := 493) (tgt := 526) hx hb lw_d33 (by rw [q]; decide) (by rw [q]; decide) (by rw [q]; rfl) (by decide) (lk_talk C K hL hi hl hU T k)
  | 8, _, q => exact lv_tableIn (off := 516) (tgt := 549) hx hb lw_d33 (by rw [q]; decide) (by rw [q]; decide) (by rw [q]; rfl) (by decide) (lk_fault C K hL hi hl hU T k)
  | 9, _, q => exact lv_tableIn (off := 529) (tgt := 562) hx hb lw_d33 (by rw [q]; decide) (by rw [q]; decide) (by rw [q]; rfl) (by decide) (lk_talkOf C K hL hi hl hU T k)
  | 10, _, q => exact lv_tableIn (off := 562) (tgt := 595) hx hb lw_d33 (by rw [q]; decide) (by rw [q]; decide) (by rw [q]; rfl) (by decide) (lk_truth C K hL hi hl hU T k)
  | 11, _, q => exact lv_tableIn (off := 605) (tgt := 638) hx hb lw_d33 (by rw [q]; decide) (by rw [q]; decide) (by rw [q]; rfl) (by decide) (lk_done C K hL hi hl hU T k)
  | 12, _, q => exact lv_tableIn (off := 638) (tgt := 671) hx hb lw_d33 (by rw [q]; decide) (by rw [q]; decide) (by rw [q]; rfl) (by decide) (lk_change C K hL hi hl hU T k)
  | 13, _, q => exact lv_tableIn (off := 681) (tgt := 714) hx hb lw_d33 (by rw [q]; decide) (by rw [q]; decide) (by rw [q]; rfl) (by decide) (lk_chance C K hL hi hl hU T k)
  | 14, _, q => exact lv_tableIn (off := 724) (tgt := 757) hx hb lw_d33 (by rw [q]; decide) (by rw [q]; decide) (by rw [q]; rfl) (by decide) (lk_meaning C K hL hi hl hU T k)
  | 15, _, q => exact lv_tableIn (off := 777) (tgt := 810) hx hb lw_d33 (by rw [q]; decide) (by rw [q]; decide) (by rw [q]; rfl) (by decide) (lk_tell C K hL hi hl hU T k)
  | 16, _, q => exact lv_tableIn (off := 820) (tgt := 853) hx hb lw_d33 (by rw [q]; decide) (by rw [q]; decide) (by rw [q]; rfl) (by decide) (lk_meaningOf C K hL hi hl hU T k)
  | 17, _, q => exact lv_tableIn (off := 853) (tgt := 886) hx hb lw_d33 (by rw [q]; decide) (by rw [q]; decide) (by rw [q]; rfl) (by decide) (lk_word C K hL hi hl hU T k)
  | 18, _, q => exact lv_tableIn (off := 886) (tgt := 919) hx hb lw_d33 (by rw [q]; decide) (by rw [q]; decide) (by rw [q]; rfl) (by decide) (lk_thought C K hL hi hl hU T k)
  | 19, _, q => exact lv_tableIn (off := 919) (tgt := 952) hx hb lw_d33 (by rw [q]; decide) (by rw [q]; decide) (by rw [q]; rfl) (by decide) (lk_does C K hL hi hl hU T k)
  | 20, _, q => exact lv_tableIn (off := 952) (tgt := 985) hx hb lw_d33 (by rw [q]; decide) (by rw [q]; decide) (by rw [q]; rfl) (by decide) (lk_judge C K hL hi hl hU T k)
  | 21, _, q => exact lv_tableIn (off := 975) (tgt := 1008) hx hb lw_d33 (by rw [q]; decide) (by rw [q]; decide) (by rw [q]; rfl) (by decide) (lk_regret C K hL hi hl hU T k)
  | 22, _, q => exact lv_tableIn (off := 1019) (tgt := 1052) hx hb lw_d33 (by rw [q]; decide) (by rw [q]; decide) (by rw [q]; rfl) (by decide) (lk_worth C K hL hi hl hU T k)
  | 23, _, q => exact lv_tableIn (off := 1053) (tgt := 1086) hx hb lw_d33 (by rw [q]; decide) (by rw [q]; decide) (by rw [q]; rfl) (by decide) (lk_beside C K hL hi hl hU T k)
  | 24, _, q => exact lv_tableIn (off := 1087) (tgt := 1120) hx hb lw_d33 (by rw [q]; decide) (by rw [q]; decide) (by rw [q]; rfl) (by decide) (lk_runs C K hL hi hl hU T k)
  | 25, _, q => exact lv_tableIn (off := 1110) (tgt := 1143) hx hb lw_d33 (by rw [q]; decide) (by rw [q]; decide) (by rw [q]; rfl) (by decide) (lk_finest C K hL hi hl hU T k)
  | 26, _, q => exact lv_tableIn (off := 1133) (tgt := 1166) hx hb lw_d33 (by rw [q]; decide) (by rw [q]; decide) (by rw [q]; rfl) (by decide) (lk_bound C K hL hi hl hU T k)
  | 27, _, q => exact lv_tableIn (off := 1156) (tgt := 1189) hx hb lw_d33 (by rw [q]; decide) (by rw [q]; decide) (by rw [q]; rfl) (by decide) (lk_best C K hL hi hl hU T k)
  | 28, _, q => exact lv_tableIn (off := 1189) (tgt := 1222) hx hb lw_d33 (by rw [q]; decide) (by rw [q]; decide) (by rw [q]; rfl) (by decide) (lk_any C K hL hi hl hU T k)
  | 29, _, q => exact lv_tableIn (off := 1212) (tgt := 1245) hx hb lw_d33 (by rw [q]; decide) (by rw [q]; decide) (by rw [q]; rfl) (by decide) (lk_edge C K hL hi hl hU T k)
  | 30, _, q => exact lv_tableIn (off := 1245) (tgt := 1278) hx hb lw_d33 (by rw [q]; decide) (by rw [q]; decide) (by rw [q]; rfl) (by decide) (lk_room C K hL hi hl hU T k)
  | 31, _, q => exact lv_tableIn (off := 1268) (tgt := 1301) hx hb lw_d33 (by rw [q]; decide) (by rw [q]; decide) (by rw [q]; rfl) (by decide) (lk_doors C K hL hi hl hU T k)
  | 32, _, q => exact lv_tableIn (off := 1291) (tgt := 1324) hx hb lw_d33 (by rw [q]; decide) (by rw [q]; decide) (by rw [q]; rfl) (by decide) (lk_middle C K hL hi hl hU T k)
  | 33, _, q => exact lv_tableIn (off := 1334) (tgt := 1367) hx hb lw_d33 (by rw [q]; decide) (by rw [q]; decide) (by rw [q]; rfl) (by decide) (lk_ends C K hL hi hl hU T k)
  | 34, _, q => exact lv_tableIn (off := 1378) (tgt := 1411) hx hb lw_d33 (by rw [q]; decide) (by rw [q]; decide) (by rw [q]; rfl) (by decide) (lk_bestEnds C K hL hi hl hU T k)
  | 35, _, q => exact lv_tableIn (off := 1401) (tgt := 1434) hx hb lw_d33 (by rw [q]; decide) (by rw [q]; decide) (by rw [q]; rfl) (by decide) (lk_leave C K hL hi hl hU T k)
  | 36, _, q => exact lv_tableIn (off := 1424) (tgt := 1457) hx hb lw_d33 (by rw [q]; decide) (by rw [q]; decide) (by rw [q]; rfl) (by decide) (lk_agree C K hL hi hl hU T k)
  | 37, _, q => exact lv_tableIn (off := 1457) (tgt := 1490) hx hb lw_d33 (by rw [q]; decide) (by rw [q]; decide) (by rw [q]; rfl) (by decide) (lk_still C K hL hi hl hU T k)
  | 38, _, q => exact lv_tableIn (off := 1470) (tgt := 1503) hx hb lw_d33 (by rw [q]; decide) (by rw [q]; decide) (by rw [q]; rfl) (by decide) (lk_draw C K hL hi hl hU T k)
  | 39, _, q => exact lv_tableIn (off := 1514) (tgt := 1547) hx hb lw_d33 (by rw [q]; decide) (by rw [q]; decide) (by rw [q]; rfl) (by decide) (lk_act C K hL hi hl hU T k)
  | 40, _, q => exact lv_tableIn (off := 1557) (tgt := 1590) hx hb lw_d33 (by rw [q]; decide) (by rw [q]; decide) (by rw [q]; rfl) (by decide) (lk_trace C K hL hi hl hU T k)
  | 41, _, q => exact lv_tableIn (off := 1580) (tgt := 1613) hx hb lw_d33 (by rw [q]; decide) (by rw [q]; decide) (by rw [q]; rfl) (by decide) (lk_image C K hL hi hl hU T k)
  | 42, _, q => exact lv_tableIn (off := 1593) (tgt := 1626) hx hb lw_d33 (by rw [q]; decide) (by rw [q]; decide) (by rw [q]; rfl) (by decide) (lk_restore C K hL hi hl hU T k)
  | 43, _, q => exact lv_tableIn (off := 1606) (tgt := 1639) hx hb lw_d33 (by rw [q]; decide) (by rw [q]; decide) (by rw [q]; rfl) (by decide) (lk_status C K hL hi hl hU T k)
  | j + 44, hj, _ => exact absurd hj (by omega)
theorem lw_loop (C : lw_At p s m meth c b L xs) (K : lw_K s dC dI dA B adK adV) (hL : L ≤ 3072) : ∀ (n i : Nat) (U : sU) (H : Heap) (locs : List Loc) (ls : Array Slot), i ≤ L → L < i + 6 * n → Inv U → lw_St dC dI dA B s U H locs → lv_has ls 4 [(0, .ref b), (1, .ref (B 0)), (2, .ref (B 280)), (3, .int (Int32.ofNat i))] → W p l e room_1 s m #[Value.ref b] below meth c H locs 314 lwS (lw_Z below #[Value.ref b] s) (F0 m 18 ls []) := by
  obtain ⟨hx, hb, hr, hml, hown, hts, hXs, hbl, hlocks, hgv⟩ := id C
  have hbA : ¬ s.heap.size ≤ b := Nat.not_le.mpr hbl
  intro n
  induction n with
  | zero => intro i U H locs ls h1 h2; omega
  | succ n ih =>
    intro i U H locs ls h1 h2 hU T hl
    have eL : (Int32.ofNat L).toInt = L := ofNat_int (by omega)
    have ei : (Int32.ofNat i).toInt = i := ofNat_int (by omega)
    have e6 : (6 : Int32).toInt = 6 := rfl
    have eL6 : (Int32.ofNat L - 6).toInt = L - 6 := by rw [s32 (by omega) (by omega), eL, e6]
    refine lv_iload_n hx hb (lw_d1 (i := .iload_n 3) (by decide +kernel)) rfl (lv_at hl 3 rfl) ?_
    refine lv_aload_n hx hb (lw_d1 (i := .aload_n 0) (by decide +kernel)) rfl (lv_at hl 0 rfl) ?_
    refine va_slen hx hb hXs hbl hbA T.2.2 (lw_d1 (i := .arraylength) (by decide +kernel)) ?_
    refine lv_bipush (v := 6) hx hb (lw_d1 (i := .bipush 6) (by decide +kernel)) (by decide) ?_
    refine lv_isub hx hb (lw_d1 (i := .isub) (by decide +kernel)) ?_
    refine lv_icmp_gt (off := 1644) (tgt := 1668) hx hb (lw_d1 (i := .if_icmp .gt 1644) (by decide +kernel)) (by decide) (fun q => ?_) (fun q => ?_)
    · refine lv_iconst (v := 1) hx hb (lw_d1 (i := .iconst 1) (by decide +kernel)) (by decide) ?_
      refine va_forget (fun q hq => T.2.2.2.2 q hq) ?_
      refine W.widen (k := 600000) (n := 7302250) (Nat.le_of_ble_eq_true rfl) (Nat.le_trans lwS_le (Nat.le_of_ble_eq_true rfl)) ?_
      exact lw_ret hx hb hr hlocks (lw_d1 (i := .ireturn) (by decide +kernel))
    have hi : i + 5 < L := by
      rw [i32_lt, eL6, ei] at q
      omega
    have hin : vp_in (Int32.ofNat i) L := fun q => q.elim (fun z => by rw [i32_lt0, ei] at z; omega) (fun z => by rw [clamp_int, ei] at z; omega)
    refine lv_aload_n hx hb (lw_d1 (i := .aload_n 0) (by decide +kernel)) rfl (lv_at hl 0 rfl) ?_
    refine lv_iload_n hx hb (lw_d1 (i := .iload_n 3) (by decide +kernel)) rfl (lv_at hl 3 rfl) ?_
    refine va_sld hx hb hXs hbl hbA T.2.2 hin (lw_d1 (i := .iaload) (by decide +kernel)) ?_
    refine lv_bipush (v := 63) hx hb (lw_d1 (i := .bipush 63) (by decide +kernel)) (by decide) ?_
    refine lv_iand hx hb (lw_d1 (i := .iand) (by decide +kernel)) ?_
    generalize xs (Int32.ofNat i).toNatClampNeg &&& 63 = x
    have next : ∀ (V : sU) (H1 : Heap) (locs1 : List Loc), Inv V → lw_St dC dI dA B s V H1 locs1 → W p l e room_1 s m #[Value.ref b] below meth c H1 locs1 314 lwS (lw_Z below #[Value.ref b] s) (F0 m 1662 ls []) := by
      intro V H1 locs1 hV T1
      have e : Int32.ofNat i + Int32.ofInt 6 = Int32.ofNat (i + 6) := by rw [Int32.ofNat_add]; rfl
      refine lv_iinc (v := Int32.ofNat (i + 6)) (lv' := [(3, .int (Int32.ofNat (i + 6))), (0, .ref b), (1, .ref (B 0)), (2, .ref (B 280))]) hx hb (lw_d1 (i := .iinc 3 6) (by decide +kernel)) hl (k := 3) rfl e (by decide) rfl (fun ls1 hl1 => ?_)
      refine lv_goto (off := -1647) (tgt := 18) hx hb (lw_d1 (i := .goto (-1647)) (by decide +kernel)) (by decide) ?_
      exact ih (i + 6) V H1 locs1 ls1 (by omega) (by omega) hV T1 (lv_sub hl1 [1, 2, 3, 0] rfl)
    by_cases hxo : x.toInt < 0 ∨ 43 < x.toInt
    · exact lv_tableOut (tgt := 1662) hx hb lw_d33 hxo (by decide) (next U H locs hU T)
    · exact lw_sw C K hL hi hl hU T next x.toInt.toNat (by omega) (by omega)
end LWL
