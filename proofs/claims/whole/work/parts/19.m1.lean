/-! methods turned -/
def f_282 (x0 : Int32) (U : sU) : Int32 :=
  (((((((x0 - (((x0.toUInt32 >>> ((1 : Int32).toUInt32 &&& Int32.toUInt32 31)).toInt32) &&& 1431655765)) &&& 858993459) + ((((x0 - (((x0.toUInt32 >>> ((1 : Int32).toUInt32 &&& Int32.toUInt32 31)).toInt32) &&& 1431655765)).toUInt32 >>> ((2 : Int32).toUInt32 &&& Int32.toUInt32 31)).toInt32) &&& 858993459)) + (((((x0 - (((x0.toUInt32 >>> ((1 : Int32).toUInt32 &&& Int32.toUInt32 31)).toInt32) &&& 1431655765)) &&& 858993459) + ((((x0 - (((x0.toUInt32 >>> ((1 : Int32).toUInt32 &&& Int32.toUInt32 31)).toInt32) &&& 1431655765)).toUInt32 >>> ((2 : Int32).toUInt32 &&& Int32.toUInt32 31)).toInt32) &&& 858993459)).toUInt32 >>> ((4 : Int32).toUInt32 &&& Int32.toUInt32 31)).toInt32)) &&& 252645135) + (((((((x0 - (((x0.toUInt32 >>> ((1 : Int32).toUInt32 &&& Int32.toUInt32 31)).toInt32) &&& 1431655765)) &&& 858993459) + ((((x0 - (((x0.toUInt32 >>> ((1 : Int32).toUInt32 &&& Int32.toUInt32 31)).toInt32) &&& 1431655765)).toUInt32 >>> ((2 : Int32).toUInt32 &&& Int32.toUInt32 31)).toInt32) &&& 858993459)) + (((((x0 - (((x0.toUInt32 >>> ((1 : Int32).toUInt32 &&& Int32.toUInt32 31)).toInt32) &&& 1431655765)) &&& 858993459) + ((((x0 - (((x0.toUInt32 >>> ((1 : Int32).toUInt32 &&& Int32.toUInt32 31)).toInt32) &&& 1431655765)).toUInt32 >>> ((2 : Int32).toUInt32 &&& Int32.toUInt32 31)).toInt32) &&& 858993459)).toUInt32 >>> ((4 : Int32).toUInt32 &&& Int32.toUInt32 31)).toInt32)) &&& 252645135).toUInt32 >>> ((8 : Int32).toUInt32 &&& Int32.toUInt32 31)).toInt32)) + ((((((((x0 - (((x0.toUInt32 >>> ((1 : Int32).toUInt32 &&& Int32.toUInt32 31)).toInt32) &&& 1431655765)) &&& 858993459) + ((((x0 - (((x0.toUInt32 >>> ((1 : Int32).toUInt32 &&& Int32.toUInt32 31)).toInt32) &&& 1431655765)).toUInt32 >>> ((2 : Int32).toUInt32 &&& Int32.toUInt32 31)).toInt32) &&& 858993459)) + (((((x0 - (((x0.toUInt32 >>> ((1 : Int32).toUInt32 &&& Int32.toUInt32 31)).toInt32) &&& 1431655765)) &&& 858993459) + ((((x0 - (((x0.toUInt32 >>> ((1 : Int32).toUInt32 &&& Int32.toUInt32 31)).toInt32) &&& 1431655765)).toUInt32 >>> ((2 : Int32).toUInt32 &&& Int32.toUInt32 31)).toInt32) &&& 858993459)).toUInt32 >>> ((4 : Int32).toUInt32 &&& Int32.toUInt32 31)).toInt32)) &&& 252645135) + (((((((x0 - (((x0.toUInt32 >>> ((1 : Int32).toUInt32 &&& Int32.toUInt32 31)).toInt32) &&& 1431655765)) &&& 858993459) + ((((x0 - (((x0.toUInt32 >>> ((1 : Int32).toUInt32 &&& Int32.toUInt32 31)).toInt32) &&& 1431655765)).toUInt32 >>> ((2 : Int32).toUInt32 &&& Int32.toUInt32 31)).toInt32) &&& 858993459)) + (((((x0 - (((x0.toUInt32 >>> ((1 : Int32).toUInt32 &&& Int32.toUInt32 31)).toInt32) &&& 1431655765)) &&& 858993459) + ((((x0 - (((x0.toUInt32 >>> ((1 : Int32).toUInt32 &&& Int32.toUInt32 31)).toInt32) &&& 1431655765)).toUInt32 >>> ((2 : Int32).toUInt32 &&& Int32.toUInt32 31)).toInt32) &&& 858993459)).toUInt32 >>> ((4 : Int32).toUInt32 &&& Int32.toUInt32 31)).toInt32)) &&& 252645135).toUInt32 >>> ((8 : Int32).toUInt32 &&& Int32.toUInt32 31)).toInt32)).toUInt32 >>> ((16 : Int32).toUInt32 &&& Int32.toUInt32 31)).toInt32)) &&& 63
set_option maxRecDepth 10000 in
set_option maxHeartbeats 2000000 in
theorem F_282 (d : Nat) (x0 : Int32) (U : sU) : Rn (d + 0) sm_I282 [.int x0] U (some (.int (f_282 x0 U))) U := by
  refine Rn_of [(0, .int x0)] (Nat.le_of_ble_eq_true rfl) (Sc rfl (Sn _)) ?_
  generalize h : f_282 x0 U = r
  first | rw [f_282] at h | rw [f_282.eq_def] at h
  refine g_iload_n 1 rfl rfl rfl ?_
  refine g_iload_n 2 rfl rfl rfl ?_
  refine g_iconst (v := 1) 3 rfl rfl rfl ?_
  refine g_iushr 4 rfl rfl ?_
  refine g_ldc_w (v := 1431655765) 7 rfl (by decide) rfl ?_
  refine g_iand 8 rfl rfl ?_
  refine g_isub 9 rfl rfl ?_
  refine g_istore_n 10 [(0, .int (x0 - (((x0.toUInt32 >>> ((1 : Int32).toUInt32 &&& Int32.toUInt32 31)).toInt32) &&& 1431655765)))] rfl (Nat.le_of_ble_eq_true rfl) rfl rfl ?_
  refine g_iload_n 11 rfl rfl rfl ?_
  refine g_ldc_w (v := 858993459) 14 rfl (by decide) rfl ?_
  refine g_iand 15 rfl rfl ?_
  refine g_iload_n 16 rfl rfl rfl ?_
  refine g_iconst (v := 2) 17 rfl rfl rfl ?_
  refine g_iushr 18 rfl rfl ?_
  refine g_ldc_w (v := 858993459) 21 rfl (by decide) rfl ?_
  refine g_iand 22 rfl rfl ?_
  refine g_iadd 23 rfl rfl ?_
  refine g_istore_n 24 [(0, .int (((x0 - (((x0.toUInt32 >>> ((1 : Int32).toUInt32 &&& Int32.toUInt32 31)).toInt32) &&& 1431655765)) &&& 858993459) + ((((x0 - (((x0.toUInt32 >>> ((1 : Int32).toUInt32 &&& Int32.toUInt32 31)).toInt32) &&& 1431655765)).toUInt32 >>> ((2 : Int32).toUInt32 &&& Int32.toUInt32 31)).toInt32) &&& 858993459)))] rfl (Nat.le_of_ble_eq_true rfl) rfl rfl ?_
  refine g_iload_n 25 rfl rfl rfl ?_
  refine g_iload_n 26 rfl rfl rfl ?_
  refine g_iconst (v := 4) 27 rfl rfl rfl ?_
  refine g_iushr 28 rfl rfl ?_
  refine g_iadd 29 rfl rfl ?_
  refine g_ldc_w (v := 252645135) 32 rfl (by decide) rfl ?_
  refine g_iand 33 rfl rfl ?_
  refine g_istore_n 34 [(0, .int (((((x0 - (((x0.toUInt32 >>> ((1 : Int32).toUInt32 &&& Int32.toUInt32 31)).toInt32) &&& 1431655765)) &&& 858993459) + ((((x0 - (((x0.toUInt32 >>> ((1 : Int32).toUInt32 &&& Int32.toUInt32 31)).toInt32) &&& 1431655765)).toUInt32 >>> ((2 : Int32).toUInt32 &&& Int32.toUInt32 31)).toInt32) &&& 858993459)) + (((((x0 - (((x0.toUInt32 >>> ((1 : Int32).toUInt32 &&& Int32.toUInt32 31)).toInt32) &&& 1431655765)) &&& 858993459) + ((((x0 - (((x0.toUInt32 >>> ((1 : Int32).toUInt32 &&& Int32.toUInt32 31)).toInt32) &&& 1431655765)).toUInt32 >>> ((2 : Int32).toUInt32 &&& Int32.toUInt32 31)).toInt32) &&& 858993459)).toUInt32 >>> ((4 : Int32).toUInt32 &&& Int32.toUInt32 31)).toInt32)) &&& 252645135))] rfl (Nat.le_of_ble_eq_true rfl) rfl rfl ?_
  refine g_iload_n 35 rfl rfl rfl ?_
  refine g_iload_n 36 rfl rfl rfl ?_
  refine g_bipush (v := 8) 38 rfl (by decide) rfl ?_
  refine g_iushr 39 rfl rfl ?_
  refine g_iadd 40 rfl rfl ?_
  refine g_istore_n 41 [(0, .int ((((((x0 - (((x0.toUInt32 >>> ((1 : Int32).toUInt32 &&& Int32.toUInt32 31)).toInt32) &&& 1431655765)) &&& 858993459) + ((((x0 - (((x0.toUInt32 >>> ((1 : Int32).toUInt32 &&& Int32.toUInt32 31)).toInt32) &&& 1431655765)).toUInt32 >>> ((2 : Int32).toUInt32 &&& Int32.toUInt32 31)).toInt32) &&& 858993459)) + (((((x0 - (((x0.toUInt32 >>> ((1 : Int32).toUInt32 &&& Int32.toUInt32 31)).toInt32) &&& 1431655765)) &&& 858993459) + ((((x0 - (((x0.toUInt32 >>> ((1 : Int32).toUInt32 &&& Int32.toUInt32 31)).toInt32) &&& 1431655765)).toUInt32 >>> ((2 : Int32).toUInt32 &&& Int32.toUInt32 31)).toInt32) &&& 858993459)).toUInt32 >>> ((4 : Int32).toUInt32 &&& Int32.toUInt32 31)).toInt32)) &&& 252645135) + (((((((x0 - (((x0.toUInt32 >>> ((1 : Int32).toUInt32 &&& Int32.toUInt32 31)).toInt32) &&& 1431655765)) &&& 858993459) + ((((x0 - (((x0.toUInt32 >>> ((1 : Int32).toUInt32 &&& Int32.toUInt32 31)).toInt32) &&& 1431655765)).toUInt32 >>> ((2 : Int32).toUInt32 &&& Int32.toUInt32 31)).toInt32) &&& 858993459)) + (((((x0 - (((x0.toUInt32 >>> ((1 : Int32).toUInt32 &&& Int32.toUInt32 31)).toInt32) &&& 1431655765)) &&& 858993459) + ((((x0 - (((x0.toUInt32 >>> ((1 : Int32).toUInt32 &&& Int32.toUInt32 31)).toInt32) &&& 1431655765)).toUInt32 >>> ((2 : Int32).toUInt32 &&& Int32.toUInt32 31)).toInt32) &&& 858993459)).toUInt32 >>> ((4 : Int32).toUInt32 &&& Int32.toUInt32 31)).toInt32)) &&& 252645135).toUInt32 >>> ((8 : Int32).toUInt32 &&& Int32.toUInt32 31)).toInt32)))] rfl (Nat.le_of_ble_eq_true rfl) rfl rfl ?_
  refine g_iload_n 42 rfl rfl rfl ?_
  refine g_iload_n 43 rfl rfl rfl ?_
  refine g_bipush (v := 16) 45 rfl (by decide) rfl ?_
  refine g_iushr 46 rfl rfl ?_
  refine g_iadd 47 rfl rfl ?_
  refine g_istore_n 48 [(0, .int (((((((x0 - (((x0.toUInt32 >>> ((1 : Int32).toUInt32 &&& Int32.toUInt32 31)).toInt32) &&& 1431655765)) &&& 858993459) + ((((x0 - (((x0.toUInt32 >>> ((1 : Int32).toUInt32 &&& Int32.toUInt32 31)).toInt32) &&& 1431655765)).toUInt32 >>> ((2 : Int32).toUInt32 &&& Int32.toUInt32 31)).toInt32) &&& 858993459)) + (((((x0 - (((x0.toUInt32 >>> ((1 : Int32).toUInt32 &&& Int32.toUInt32 31)).toInt32) &&& 1431655765)) &&& 858993459) + ((((x0 - (((x0.toUInt32 >>> ((1 : Int32).toUInt32 &&& Int32.toUInt32 31)).toInt32) &&& 1431655765)).toUInt32 >>> ((2 : Int32).toUInt32 &&& Int32.toUInt32 31)).toInt32) &&& 858993459)).toUInt32 >>> ((4 : Int32).toUInt32 &&& Int32.toUInt32 31)).toInt32)) &&& 252645135) + (((((((x0 - (((x0.toUInt32 >>> ((1 : Int32).toUInt32 &&& Int32.toUInt32 31)).toInt32) &&& 1431655765)) &&& 858993459) + ((((x0 - (((x0.toUInt32 >>> ((1 : Int32).toUInt32 &&& Int32.toUInt32 31)).toInt32) &&& 1431655765)).toUInt32 >>> ((2 : Int32).toUInt32 &&& Int32.toUInt32 31)).toInt32) &&& 858993459)) + (((((x0 - (((x0.toUInt32 >>> ((1 : Int32).toUInt32 &&& Int32.toUInt32 31)).toInt32) &&& 1431655765)) &&& 858993459) + ((((x0 - (((x0.toUInt32 >>> ((1 : Int32).toUInt32 &&& Int32.toUInt32 31)).toInt32) &&& 1431655765)).toUInt32 >>> ((2 : Int32).toUInt32 &&& Int32.toUInt32 31)).toInt32) &&& 858993459)).toUInt32 >>> ((4 : Int32).toUInt32 &&& Int32.toUInt32 31)).toInt32)) &&& 252645135).toUInt32 >>> ((8 : Int32).toUInt32 &&& Int32.toUInt32 31)).toInt32)) + ((((((((x0 - (((x0.toUInt32 >>> ((1 : Int32).toUInt32 &&& Int32.toUInt32 31)).toInt32) &&& 1431655765)) &&& 858993459) + ((((x0 - (((x0.toUInt32 >>> ((1 : Int32).toUInt32 &&& Int32.toUInt32 31)).toInt32) &&& 1431655765)).toUInt32 >>> ((2 : Int32).toUInt32 &&& Int32.toUInt32 31)).toInt32) &&& 858993459)) + (((((x0 - (((x0.toUInt32 >>> ((1 : Int32).toUInt32 &&& Int32.toUInt32 31)).toInt32) &&& 1431655765)) &&& 858993459) + ((((x0 - (((x0.toUInt32 >>> ((1 : Int32).toUInt32 &&& Int32.toUInt32 31)).toInt32) &&& 1431655765)).toUInt32 >>> ((2 : Int32).toUInt32 &&& Int32.toUInt32 31)).toInt32) &&& 858993459)).toUInt32 >>> ((4 : Int32).toUInt32 &&& Int32.toUInt32 31)).toInt32)) &&& 252645135) + (((((((x0 - (((x0.toUInt32 >>> ((1 : Int32).toUInt32 &&& Int32.toUInt32 31)).toInt32) &&& 1431655765)) &&& 858993459) + ((((x0 - (((x0.toUInt32 >>> ((1 : Int32).toUInt32 &&& Int32.toUInt32 31)).toInt32) &&& 1431655765)).toUInt32 >>> ((2 : Int32).toUInt32 &&& Int32.toUInt32 31)).toInt32) &&& 858993459)) + (((((x0 - (((x0.toUInt32 >>> ((1 : Int32).toUInt32 &&& Int32.toUInt32 31)).toInt32) &&& 1431655765)) &&& 858993459) + ((((x0 - (((x0.toUInt32 >>> ((1 : Int32).toUInt32 &&& Int32.toUInt32 31)).toInt32) &&& 1431655765)).toUInt32 >>> ((2 : Int32).toUInt32 &&& Int32.toUInt32 31)).toInt32) &&& 858993459)).toUInt32 >>> ((4 : Int32).toUInt32 &&& Int32.toUInt32 31)).toInt32)) &&& 252645135).toUInt32 >>> ((8 : Int32).toUInt32 &&& Int32.toUInt32 31)).toInt32)).toUInt32 >>> ((16 : Int32).toUInt32 &&& Int32.toUInt32 31)).toInt32)))] rfl (Nat.le_of_ble_eq_true rfl) rfl rfl ?_
  refine g_iload_n 49 rfl rfl rfl ?_
  refine g_bipush (v := 63) 51 rfl (by decide) rfl ?_
  refine g_iand 52 rfl rfl ?_
  subst h
  exact g_iret rfl rfl

def f_283 (x0 : Int32) (x1 : Int32) (U : sU) : Option Int32 :=
  if ¬ x1 = 0 then
  if 0 ≤ (x0 ^^^ x1) then
    some (x0 / x1)
  else
    if ((x0 / x1) * x1) = x0 then
      some (x0 / x1)
    else
      some ((x0 / x1) - 1)
  else none
set_option maxRecDepth 10000 in
set_option maxHeartbeats 2000000 in
theorem F_283 (d : Nat) (x0 : Int32) (x1 : Int32) {U : sU} {r : Int32} (h : f_283 x0 x1 U = some r) : Rn (d + 0) sm_I283 [.int x0, .int x1] U (some (.int r)) U := by
  refine Rn_of [(0, .int x0), (1, .int x1)] (Nat.le_of_ble_eq_true rfl) (Sc rfl (Sc rfl (Sn _))) ?_
  first | rw [f_283] at h | rw [f_283.eq_def] at h
  refine g_iload_n 1 rfl rfl rfl ?_
  refine g_iload_n 2 rfl rfl rfl ?_
  by_cases n1 : ¬ x1 = 0
  case neg => rw [if_neg n1] at h; cases h
  rw [if_pos n1] at h
  refine g_idiv 3 rfl n1 rfl ?_
  refine g_istore_n 4 [(2, .int (x0 / x1)), (0, .int x0), (1, .int x1)] rfl (Nat.le_of_ble_eq_true rfl) rfl rfl ?_
  refine g_iload_n 5 rfl rfl rfl ?_
  refine g_iload_n 6 rfl rfl rfl ?_
  refine g_ixor 7 rfl rfl ?_
  refine g_if_ge 21 10 rfl rfl (fun c2 => ?_) (fun c2 => ?_)
  · rw [if_pos c2] at h
    refine g_iload_n 22 rfl rfl rfl ?_
    cases h
    exact g_iret rfl rfl
  · rw [if_neg c2] at h
    refine g_iload_n 11 rfl rfl rfl ?_
    refine g_iload_n 12 rfl rfl rfl ?_
    refine g_imul 13 rfl rfl ?_
    refine g_iload_n 14 rfl rfl rfl ?_
    refine g_icmp_eq 21 17 rfl rfl (fun c3 => ?_) (fun c3 => ?_)
    · rw [if_pos c3] at h
      refine g_iload_n 22 rfl rfl rfl ?_
      cases h
      exact g_iret rfl rfl
    · rw [if_neg c3] at h
      refine g_iload_n 18 rfl rfl rfl ?_
      refine g_iconst (v := 1) 19 rfl rfl rfl ?_
      refine g_isub 20 rfl rfl ?_
      cases h
      exact g_iret rfl rfl

def f_284 (x0 : Int64) (x2 : Int64) (U : sU) : Option Int64 :=
  if ¬ x2 = 0 then
  if 0 ≤ (lg_cmp (x0 ^^^ x2) 0) then
    some (x0 / x2)
  else
    if (lg_cmp ((x0 / x2) * x2) x0) = 0 then
      some (x0 / x2)
    else
      some ((x0 / x2) - 1)
  else none
set_option maxRecDepth 10000 in
set_option maxHeartbeats 2000000 in
theorem F_284 (d : Nat) (x0 : Int64) (x2 : Int64) {U : sU} {r : Int64} (h : f_284 x0 x2 U = some r) : Rn (d + 0) sm_I284 [.long x0, .long x2] U (some (.long r)) U := by
  refine Rn_of [(0, .long x0), (2, .long x2)] (Nat.le_of_ble_eq_true rfl) (Sc rfl (Sc rfl (Sn _))) ?_
  first | rw [f_284] at h | rw [f_284.eq_def] at h
  refine g_lload_n 1 rfl rfl rfl ?_
  refine g_lload_n 2 rfl rfl rfl ?_
  by_cases n1 : ¬ x2 = 0
  case neg => rw [if_neg n1] at h; cases h
  rw [if_pos n1] at h
  refine g_ldiv 3 rfl n1 rfl ?_
  refine g_lstore 5 [(4, .long (x0 / x2)), (0, .long x0), (2, .long x2)] rfl (Nat.le_of_ble_eq_true rfl) rfl rfl ?_
  refine g_lload_n 6 rfl rfl rfl ?_
  refine g_lload_n 7 rfl rfl rfl ?_
  refine g_lxor 8 rfl rfl ?_
  refine g_lconst (v := 0) 9 rfl rfl rfl ?_
  refine g_lcmp 10 rfl rfl ?_
  refine g_if_ge 27 13 rfl rfl (fun c2 => ?_) (fun c2 => ?_)
  · rw [if_pos c2] at h
    refine g_lload 29 rfl rfl rfl ?_
    cases h
    exact g_lret rfl rfl
  · rw [if_neg c2] at h
    refine g_lload 15 rfl rfl rfl ?_
    refine g_lload_n 16 rfl rfl rfl ?_
    refine g_lmul 17 rfl rfl ?_
    refine g_lload_n 18 rfl rfl rfl ?_
    refine g_lcmp 19 rfl rfl ?_
    refine g_if_eq 27 22 rfl rfl (fun c3 => ?_) (fun c3 => ?_)
    · rw [if_pos c3] at h
      refine g_lload 29 rfl rfl rfl ?_
      cases h
      exact g_lret rfl rfl
    · rw [if_neg c3] at h
      refine g_lload 24 rfl rfl rfl ?_
      refine g_lconst (v := 1) 25 rfl rfl rfl ?_
      refine g_lsub 26 rfl rfl ?_
      cases h
      exact g_lret rfl rfl

def f_285 (x0 : Int32) (U : sU) : Int32 :=
  if 0 ≤ x0 then
    x0
  else
    -x0
set_option maxRecDepth 10000 in
set_option maxHeartbeats 2000000 in
theorem F_285 (d : Nat) (x0 : Int32) (U : sU) : Rn (d + 0) sm_I285 [.int x0] U (some (.int (f_285 x0 U))) U := by
  refine Rn_of [(0, .int x0)] (Nat.le_of_ble_eq_true rfl) (Sc rfl (Sn _)) ?_
  generalize h : f_285 x0 U = r
  first | rw [f_285] at h | rw [f_285.eq_def] at h
  refine g_iload_n 1 rfl rfl rfl ?_
  refine g_if_ge 9 4 rfl rfl (fun c1 => ?_) (fun c1 => ?_)
  · rw [if_pos c1] at h
    refine g_iload_n 10 rfl rfl rfl ?_
    subst h
    exact g_iret rfl rfl
  · rw [if_neg c1] at h
    refine g_iload_n 5 rfl rfl rfl ?_
    refine g_ineg 6 rfl rfl ?_
    refine g_goto 10 rfl ?_
    subst h
    exact g_iret rfl rfl

def f_286 (x0 : Int32) (x1 : Int32) (U : sU) : Int32 :=
  if x0 < x1 then
    x1
  else
    x0
set_option maxRecDepth 10000 in
set_option maxHeartbeats 2000000 in
theorem F_286 (d : Nat) (x0 : Int32) (x1 : Int32) (U : sU) : Rn (d + 0) sm_I286 [.int x0, .int x1] U (some (.int (f_286 x0 x1 U))) U := by
  refine Rn_of [(0, .int x0), (1, .int x1)] (Nat.le_of_ble_eq_true rfl) (Sc rfl (Sc rfl (Sn _))) ?_
  generalize h : f_286 x0 x1 U = r
  first | rw [f_286] at h | rw [f_286.eq_def] at h
  refine g_iload_n 1 rfl rfl rfl ?_
  refine g_iload_n 2 rfl rfl rfl ?_
  refine g_icmp_lt 9 5 rfl rfl (fun c1 => ?_) (fun c1 => ?_)
  · rw [if_pos c1] at h
    refine g_iload_n 10 rfl rfl rfl ?_
    subst h
    exact g_iret rfl rfl
  · rw [if_neg c1] at h
    refine g_iload_n 6 rfl rfl rfl ?_
    refine g_goto 10 rfl ?_
    subst h
    exact g_iret rfl rfl

def f_287 (x0 : Int32) (x1 : Int32) (U : sU) : Int32 :=
  if x1 < x0 then
    x1
  else
    x0
set_option maxRecDepth 10000 in
set_option maxHeartbeats 2000000 in
theorem F_287 (d : Nat) (x0 : Int32) (x1 : Int32) (U : sU) : Rn (d + 0) sm_I287 [.int x0, .int x1] U (some (.int (f_287 x0 x1 U))) U := by
  refine Rn_of [(0, .int x0), (1, .int x1)] (Nat.le_of_ble_eq_true rfl) (Sc rfl (Sc rfl (Sn _))) ?_
  generalize h : f_287 x0 x1 U = r
  first | rw [f_287] at h | rw [f_287.eq_def] at h
  refine g_iload_n 1 rfl rfl rfl ?_
  refine g_iload_n 2 rfl rfl rfl ?_
  refine g_icmp_gt 9 5 rfl rfl (fun c1 => ?_) (fun c1 => ?_)
  · rw [if_pos c1] at h
    refine g_iload_n 10 rfl rfl rfl ?_
    subst h
    exact g_iret rfl rfl
  · rw [if_neg c1] at h
    refine g_iload_n 6 rfl rfl rfl ?_
    refine g_goto 10 rfl ?_
    subst h
    exact g_iret rfl rfl

def f_1 (a : Nat) (U : sU) : sU :=
  sI U a 4 0
set_option maxRecDepth 10000 in
set_option maxHeartbeats 2000000 in
theorem F_1 (d : Nat) (a : Nat) (ha : sh a = 0) (U : sU) : Rn (d + 0) sm_I1 [.ref a] U none (f_1 a U) := by
  refine Rn_of [(0, .ref a)] (Nat.le_of_ble_eq_true rfl) (Sc rfl (Sn _)) ?_
  generalize h : f_1 a U = U'
  first | rw [f_1] at h | rw [f_1.eq_def] at h
  refine g_aload_n 1 rfl rfl rfl ?_
  refine g_iconst (v := 0) 2 rfl rfl rfl ?_
  refine g_putI 5 rfl ha (Nat.le_of_ble_eq_true rfl) (Nat.le_of_ble_eq_true rfl) rfl fs_0_4 rfl ?_
  subst h
  exact g_vret rfl rfl

def f_2 (a : Nat) (x1 : Int32) (x2 : Int32) (x3 : Int32) (U : sU) : sU :=
  sI (sI (sI (f_1 a U) a 1 x1) a 2 x2) a 3 x3
set_option maxRecDepth 10000 in
set_option maxHeartbeats 2000000 in
theorem F_2 (d : Nat) (a : Nat) (ha : sh a = 0) (x1 : Int32) (x2 : Int32) (x3 : Int32) (U : sU) : Rn (d + 1) sm_I2 [.ref a, .int x1, .int x2, .int x3] U none (f_2 a x1 x2 x3 U) := by
  refine Rn_of [(0, .ref a), (1, .int x1), (2, .int x2), (3, .int x3)] (Nat.le_of_ble_eq_true rfl) (Sc rfl (Sc rfl (Sc rfl (Sc rfl (Sn _))))) ?_
  generalize h : f_2 a x1 x2 x3 U = U'
  first | rw [f_2] at h | rw [f_2.eq_def] at h
  refine g_aload_n 1 rfl rfl rfl ?_
  refine g_callV (J := sm_I1) 4 rfl (Nat.le_of_ble_eq_true rfl) rfl rfl (Nat.le_of_ble_eq_true rfl) ha (Nat.le_of_ble_eq_true rfl) (Nat.le_of_ble_eq_true rfl) rfl rfl (F_1 d a ha U) ?_
  refine g_aload_n 5 rfl rfl rfl ?_
  refine g_iload_n 6 rfl rfl rfl ?_
  refine g_putI 9 rfl ha (Nat.le_of_ble_eq_true rfl) (Nat.le_of_ble_eq_true rfl) rfl fs_0_1 rfl ?_
  refine g_aload_n 10 rfl rfl rfl ?_
  refine g_iload_n 11 rfl rfl rfl ?_
  refine g_putI 14 rfl ha (Nat.le_of_ble_eq_true rfl) (Nat.le_of_ble_eq_true rfl) rfl fs_0_2 rfl ?_
  refine g_aload_n 15 rfl rfl rfl ?_
  refine g_iload_n 16 rfl rfl rfl ?_
  refine g_putI 19 rfl ha (Nat.le_of_ble_eq_true rfl) (Nat.le_of_ble_eq_true rfl) rfl fs_0_3 rfl ?_
  subst h
  exact g_vret rfl rfl

def f_3 (a : Nat) (x1 : Int32) (U : sU) : sU :=
  sI (iput (a + 1) (U.1 a 4) x1 U) a 4 (((iput (a + 1) (U.1 a 4) x1 U).1 a 4) + 1)
set_option maxRecDepth 10000 in
set_option maxHeartbeats 2000000 in
theorem F_3 (d : Nat) (a : Nat) (ha : sh a = 0) (x1 : Int32) (U : sU) : Rn (d + 1) sm_I3 [.ref a, .int x1] U none (f_3 a x1 U) := by
  refine Rn_of [(0, .ref a), (1, .int x1)] (Nat.le_of_ble_eq_true rfl) (Sc rfl (Sc rfl (Sn _))) ?_
  generalize h : f_3 a x1 U = U'
  first | rw [f_3] at h | rw [f_3.eq_def] at h
  refine g_aload_n 1 rfl rfl rfl ?_
  refine g_get 4 rfl ha (Nat.le_of_ble_eq_true rfl) rfl rfl ?_
  refine g_aload_n 5 rfl rfl rfl ?_
  refine g_get 8 rfl ha (Nat.le_of_ble_eq_true rfl) rfl rfl ?_
  refine g_iload_n 9 rfl rfl rfl ?_
  refine g_callV (J := sm_I10) 12 rfl (Nat.le_of_ble_eq_true rfl) rfl rfl (Nat.le_of_ble_eq_true rfl) (sh_0_1 ha) (Nat.le_of_ble_eq_true rfl) (Nat.le_of_ble_eq_true rfl) rfl rfl (U_10 d (a + 1) (sh_0_1 ha) (U.1 a 4) x1 U) ?_
  refine g_aload_n 13 rfl rfl rfl ?_
  refine g_dup 14 rfl rfl rfl ?_
  refine g_get 17 rfl ha (Nat.le_of_ble_eq_true rfl) rfl rfl ?_
  refine g_iconst (v := 1) 18 rfl rfl rfl ?_
  refine g_iadd 19 rfl rfl ?_
  refine g_putI 22 rfl ha (Nat.le_of_ble_eq_true rfl) (Nat.le_of_ble_eq_true rfl) rfl fs_0_4 rfl ?_
  subst h
  exact g_vret rfl rfl

def f_4 (a : Nat) (x1 : Int32) (U : sU) : Int32 :=
  if x1 < 0 then
    (-1)
  else
    if (U.1 a 4) ≤ x1 then
      (-1)
    else
      if 20 ≤ x1 then
        (-1)
      else
        iget (a + 1) x1 U
set_option maxRecDepth 10000 in
set_option maxHeartbeats 2000000 in
theorem F_4 (d : Nat) (a : Nat) (ha : sh a = 0) (x1 : Int32) (U : sU) : Rn (d + 1) sm_I4 [.ref a, .int x1] U (some (.int (f_4 a x1 U))) U := by
  refine Rn_of [(0, .ref a), (1, .int x1)] (Nat.le_of_ble_eq_true rfl) (Sc rfl (Sc rfl (Sn _))) ?_
  generalize h : f_4 a x1 U = r
  first | rw [f_4] at h | rw [f_4.eq_def] at h
  refine g_iload_n 1 rfl rfl rfl ?_
  refine g_if_lt 29 4 rfl rfl (fun c1 => ?_) (fun c1 => ?_)
  · rw [if_pos c1] at h
    refine g_iconst (v := (-1)) 30 rfl rfl rfl ?_
    subst h
    exact g_iret rfl rfl
  · rw [if_neg c1] at h
    refine g_iload_n 5 rfl rfl rfl ?_
    refine g_aload_n 6 rfl rfl rfl ?_
    refine g_get 9 rfl ha (Nat.le_of_ble_eq_true rfl) rfl rfl ?_
    refine g_icmp_ge 29 12 rfl rfl (fun c2 => ?_) (fun c2 => ?_)
    · rw [if_pos c2] at h
      refine g_iconst (v := (-1)) 30 rfl rfl rfl ?_
      subst h
      exact g_iret rfl rfl
    · rw [if_neg c2] at h
      refine g_iload_n 13 rfl rfl rfl ?_
      refine g_bipush (v := 20) 15 rfl (by decide) rfl ?_
      refine g_icmp_ge 29 18 rfl rfl (fun c3 => ?_) (fun c3 => ?_)
      · rw [if_pos c3] at h
        refine g_iconst (v := (-1)) 30 rfl rfl rfl ?_
        subst h
        exact g_iret rfl rfl
      · rw [if_neg c3] at h
        refine g_aload_n 19 rfl rfl rfl ?_
        refine g_get 22 rfl ha (Nat.le_of_ble_eq_true rfl) rfl rfl ?_
        refine g_iload_n 23 rfl rfl rfl ?_
        refine g_callV (J := sm_I9) 26 rfl (Nat.le_of_ble_eq_true rfl) rfl rfl (Nat.le_of_ble_eq_true rfl) (sh_0_1 ha) (Nat.le_of_ble_eq_true rfl) (Nat.le_of_ble_eq_true rfl) rfl rfl (U_9 d (a + 1) (sh_0_1 ha) x1 U) ?_
        refine g_goto 30 rfl ?_
        subst h
        exact g_iret rfl rfl

def f_167_20 (v0 : Int32) (v1 : Int32) (z0 : Int32) (U : sU) : Int32 :=
  if v1 = 0 then
    1
  else
    if v1 = v0 then
      1
    else
      if v1 = 1 then
        if z0 = 0 then
          0
        else
          1
      else
        0
set_option maxRecDepth 10000 in
set_option maxHeartbeats 2000000 in
theorem F_167_20 (d : Nat)   (v0 : Int32) (v1 : Int32) (z0 : Int32) {U : sU} {r : Int32} (h : f_167_20 v0 v1 z0 U = r) : G (d + 0) sm_I167 20 [(0, .int v0), (1, .int v1)] [.int z0] U (some (.int r)) U := by
  first | rw [f_167_20] at h | rw [f_167_20.eq_def] at h
  refine g_istore_n 21 [(2, .int z0), (0, .int v0), (1, .int v1)] rfl (Nat.le_of_ble_eq_true rfl) rfl rfl ?_
  refine g_iload_n 22 rfl rfl rfl ?_
  refine g_if_eq 39 25 rfl rfl (fun c1 => ?_) (fun c1 => ?_)
  · rw [if_pos c1] at h
    refine g_iconst (v := 1) 40 rfl rfl rfl ?_
    refine g_goto 44 rfl ?_
    subst h
    exact g_zret rfl rfl (Or.inr rfl)
  · rw [if_neg c1] at h
    refine g_iload_n 26 rfl rfl rfl ?_
    refine g_iload_n 27 rfl rfl rfl ?_
    refine g_icmp_eq 39 30 rfl rfl (fun c2 => ?_) (fun c2 => ?_)
    · rw [if_pos c2] at h
      refine g_iconst (v := 1) 40 rfl rfl rfl ?_
      refine g_goto 44 rfl ?_
      subst h
      exact g_zret rfl rfl (Or.inr rfl)
    · rw [if_neg c2] at h
      refine g_iload_n 31 rfl rfl rfl ?_
      refine g_iconst (v := 1) 32 rfl rfl rfl ?_
      refine g_icmp_ne 43 35 rfl rfl (fun c3 => ?_) (fun c3 => ?_)
      · rw [if_neg c3] at h
        refine g_iconst (v := 0) 44 rfl rfl rfl ?_
        subst h
        exact g_zret rfl rfl (Or.inl rfl)
      · rw [if_pos c3] at h
        refine g_iload_n 36 rfl rfl rfl ?_
        refine g_if_eq 43 39 rfl rfl (fun c4 => ?_) (fun c4 => ?_)
        · rw [if_pos c4] at h
          refine g_iconst (v := 0) 44 rfl rfl rfl ?_
          subst h
          exact g_zret rfl rfl (Or.inl rfl)
        · rw [if_neg c4] at h
          refine g_iconst (v := 1) 40 rfl rfl rfl ?_
          refine g_goto 44 rfl ?_
          subst h
          exact g_zret rfl rfl (Or.inr rfl)
def f_167_15 (v0 : Int32) (v1 : Int32) (U : sU) : Int32 :=
  f_167_20 v0 v1 1 U
set_option maxRecDepth 10000 in
set_option maxHeartbeats 2000000 in
theorem F_167_15 (d : Nat)   (v0 : Int32) (v1 : Int32) {U : sU} {r : Int32} (h : f_167_15 v0 v1 U = r) : G (d + 0) sm_I167 15 [(0, .int v0), (1, .int v1)] [] U (some (.int r)) U := by
  first | rw [f_167_15] at h | rw [f_167_15.eq_def] at h
  refine g_iconst (v := 1) 16 rfl rfl rfl ?_
  refine g_goto 20 rfl ?_
  exact g_sub (Sc rfl (Sc rfl (Sn _))) (F_167_20 d v0 v1 1 h)
def f_167 (x0 : Int32) (x1 : Int32) (U : sU) : Int32 :=
  if x0 = 1 then
    f_167_15 x0 x1 U
  else
    if x0 = 3 then
      f_167_15 x0 x1 U
    else
      if x0 = 4 then
        f_167_15 x0 x1 U
      else
        f_167_20 x0 x1 0 U
set_option maxRecDepth 10000 in
set_option maxHeartbeats 2000000 in
theorem F_167 (d : Nat) (x0 : Int32) (x1 : Int32) (U : sU) : Rn (d + 0) sm_I167 [.int x0, .int x1] U (some (.int (f_167 x0 x1 U))) U := by
  refine Rn_of [(0, .int x0), (1, .int x1)] (Nat.le_of_ble_eq_true rfl) (Sc rfl (Sc rfl (Sn _))) ?_
  generalize h : f_167 x0 x1 U = r
  first | rw [f_167] at h | rw [f_167.eq_def] at h
  refine g_iload_n 1 rfl rfl rfl ?_
  refine g_iconst (v := 1) 2 rfl rfl rfl ?_
  refine g_icmp_eq 15 5 rfl rfl (fun c5 => ?_) (fun c5 => ?_)
  · rw [if_pos c5] at h
    exact g_sub (Sc rfl (Sc rfl (Sn _))) (F_167_15 d x0 x1 h)
  · rw [if_neg c5] at h
    refine g_iload_n 6 rfl rfl rfl ?_
    refine g_iconst (v := 3) 7 rfl rfl rfl ?_
    refine g_icmp_eq 15 10 rfl rfl (fun c6 => ?_) (fun c6 => ?_)
    · rw [if_pos c6] at h
      exact g_sub (Sc rfl (Sc rfl (Sn _))) (F_167_15 d x0 x1 h)
    · rw [if_neg c6] at h
      refine g_iload_n 11 rfl rfl rfl ?_
      refine g_iconst (v := 4) 12 rfl rfl rfl ?_
      refine g_icmp_ne 19 15 rfl rfl (fun c7 => ?_) (fun c7 => ?_)
      · rw [if_neg c7] at h
        refine g_iconst (v := 0) 20 rfl rfl rfl ?_
        exact g_sub (Sc rfl (Sc rfl (Sn _))) (F_167_20 d x0 x1 0 h)
      · rw [if_pos c7] at h
        exact g_sub (Sc rfl (Sc rfl (Sn _))) (F_167_15 d x0 x1 h)

def f_5_36 (a : Nat) (v1 : Int32) (v2 : Int32) (U : sU) : Int32 × sU :=
  if v2 = 0 then
    if ((f_3 a 10 U).1 a 1) = 5 then
      ((v1 + ((f_3 a 10 U).1 a 2)) ^^^ 5, f_3 a 10 U)
    else
      (v1 + ((f_3 a 10 U).1 a 2), f_3 a 10 U)
  else
    ((v1 + ((f_3 a 10 U).1 a 2)) * 3, f_3 a 10 U)
set_option maxRecDepth 10000 in
set_option maxHeartbeats 2000000 in
theorem F_5_36 (d : Nat)   (a : Nat) (ha : sh a = 0) (v1 : Int32) (v2 : Int32) {U : sU} {r : Int32} {U' : sU} (h : f_5_36 a v1 v2 U = (r, U')) : G (d + 2) sm_I5 36 [(0, .ref a), (1, .int v1), (2, .int v2)] [] U (some (.int r)) U' := by
  first | rw [f_5_36] at h | rw [f_5_36.eq_def] at h
  refine g_aload_n 37 rfl rfl rfl ?_
  refine g_bipush (v := 10) 39 rfl (by decide) rfl ?_
  refine g_callV (J := sm_I3) 42 rfl (Nat.le_of_ble_eq_true rfl) rfl rfl (Nat.le_of_ble_eq_true rfl) ha (Nat.le_of_ble_eq_true rfl) (Nat.le_of_ble_eq_true rfl) rfl rfl (F_3 d a ha 10 U) ?_
  refine g_iload_n 43 rfl rfl rfl ?_
  refine g_aload_n 44 rfl rfl rfl ?_
  refine g_get 47 rfl ha (Nat.le_of_ble_eq_true rfl) rfl rfl ?_
  refine g_iadd 48 rfl rfl ?_
  refine g_istore_n 49 [(3, .int (v1 + ((f_3 a 10 U).1 a 2))), (0, .ref a), (1, .int v1), (2, .int v2)] rfl (Nat.le_of_ble_eq_true rfl) rfl rfl ?_
  refine g_iload_n 50 rfl rfl rfl ?_
  refine g_if_eq 59 53 rfl rfl (fun c1 => ?_) (fun c1 => ?_)
  · rw [if_pos c1] at h
    refine g_aload_n 60 rfl rfl rfl ?_
    refine g_get 63 rfl ha (Nat.le_of_ble_eq_true rfl) rfl rfl ?_
    refine g_iconst (v := 5) 64 rfl rfl rfl ?_
    refine g_icmp_ne 73 67 rfl rfl (fun c2 => ?_) (fun c2 => ?_)
    · rw [if_neg c2] at h
      refine g_iload_n 74 rfl rfl rfl ?_
      cases h
      exact g_iret rfl rfl
    · rw [if_pos c2] at h
      refine g_iload_n 68 rfl rfl rfl ?_
      refine g_iconst (v := 5) 69 rfl rfl rfl ?_
      refine g_ixor 70 rfl rfl ?_
      refine g_goto 74 rfl ?_
      cases h
      exact g_iret rfl rfl
  · rw [if_neg c1] at h
    refine g_iload_n 54 rfl rfl rfl ?_
    refine g_iconst (v := 3) 55 rfl rfl rfl ?_
    refine g_imul 56 rfl rfl ?_
    refine g_goto 74 rfl ?_
    cases h
    exact g_iret rfl rfl
def f_5 (a : Nat) (x1 : Int32) (U : sU) : Int32 × sU :=
  if (f_167 (U.1 a 1) 1 U) = 0 then
    if (U.1 a 1) = 5 then
      f_5_36 a x1 (f_167 (U.1 a 1) 1 U) (f_3 a 60 U)
    else
      f_5_36 a x1 (f_167 (U.1 a 1) 1 U) U
  else
    f_5_36 a x1 (f_167 (U.1 a 1) 1 U) (f_3 a 20 U)
set_option maxRecDepth 10000 in
set_option maxHeartbeats 2000000 in
theorem F_5 (d : Nat) (a : Nat) (ha : sh a = 0) (x1 : Int32) (U : sU) : Rn (d + 2) sm_I5 [.ref a, .int x1] U (some (.int (f_5 a x1 U).1)) (f_5 a x1 U).2 := by
  refine Rn_of [(0, .ref a), (1, .int x1)] (Nat.le_of_ble_eq_true rfl) (Sc rfl (Sc rfl (Sn _))) ?_
  rcases h : f_5 a x1 U with ⟨r, U'⟩
  dsimp only
  first | rw [f_5] at h | rw [f_5.eq_def] at h
  refine g_aload_n 1 rfl rfl rfl ?_
  refine g_get 4 rfl ha (Nat.le_of_ble_eq_true rfl) rfl rfl ?_
  refine g_iconst (v := 1) 5 rfl rfl rfl ?_
  have r3 := F_167 (d + 1) (U.1 a 1) 1 U
  refine g_callS (J := sm_I167) 8 rfl (by decide) rfl rfl (Nat.le_of_ble_eq_true rfl) (Nat.le_of_ble_eq_true rfl) rfl rfl r3 ?_
  refine g_istore_n 9 [(2, .int (f_167 (U.1 a 1) 1 U)), (0, .ref a), (1, .int x1)] rfl (Nat.le_of_ble_eq_true rfl) rfl rfl ?_
  refine g_iload_n 10 rfl rfl rfl ?_
  refine g_if_eq 22 13 rfl rfl (fun c4 => ?_) (fun c4 => ?_)
  · rw [if_pos c4] at h
    refine g_aload_n 23 rfl rfl rfl ?_
    refine g_get 26 rfl ha (Nat.le_of_ble_eq_true rfl) rfl rfl ?_
    refine g_iconst (v := 5) 27 rfl rfl rfl ?_
    refine g_icmp_ne 36 30 rfl rfl (fun c5 => ?_) (fun c5 => ?_)
    · rw [if_neg c5] at h
      exact g_sub (Sc rfl (Sc rfl (Sc rfl (Sn _)))) (F_5_36 d a ha x1 (f_167 (U.1 a 1) 1 U) h)
    · rw [if_pos c5] at h
      refine g_aload_n 31 rfl rfl rfl ?_
      refine g_bipush (v := 60) 33 rfl (by decide) rfl ?_
      refine g_callV (J := sm_I3) 36 rfl (Nat.le_of_ble_eq_true rfl) rfl rfl (Nat.le_of_ble_eq_true rfl) ha (Nat.le_of_ble_eq_true rfl) (Nat.le_of_ble_eq_true rfl) rfl rfl (F_3 d a ha 60 U) ?_
      exact g_sub (Sc rfl (Sc rfl (Sc rfl (Sn _)))) (F_5_36 d a ha x1 (f_167 (U.1 a 1) 1 U) h)
  · rw [if_neg c4] at h
    refine g_aload_n 14 rfl rfl rfl ?_
    refine g_bipush (v := 20) 16 rfl (by decide) rfl ?_
    refine g_callV (J := sm_I3) 19 rfl (Nat.le_of_ble_eq_true rfl) rfl rfl (Nat.le_of_ble_eq_true rfl) ha (Nat.le_of_ble_eq_true rfl) (Nat.le_of_ble_eq_true rfl) rfl rfl (F_3 d a ha 20 U) ?_
    refine g_goto 36 rfl ?_
    exact g_sub (Sc rfl (Sc rfl (Sc rfl (Sn _)))) (F_5_36 d a ha x1 (f_167 (U.1 a 1) 1 U) h)

def f_6_31 (a : Nat) (v1 : Int32) (U : sU) : Int32 × sU :=
  match f_5 a v1 (f_3 a 11 U) with
  | (q1, W2) =>
  if (W2.1 a 1) = 3 then
    ((q1 * 2) - (W2.1 a 2), W2)
  else
    if (W2.1 a 1) = 4 then
      (-(q1 * 2), W2)
    else
      (q1 * 2, W2)
set_option maxRecDepth 10000 in
set_option maxHeartbeats 2000000 in
theorem F_6_31 (d : Nat)   (a : Nat) (ha : sh a = 0) (v1 : Int32) {U : sU} {r : Int32} {U' : sU} (h : f_6_31 a v1 U = (r, U')) : G (d + 3) sm_I6 31 [(0, .ref a), (1, .int v1)] [] U (some (.int r)) U' := by
  first | rw [f_6_31] at h | rw [f_6_31.eq_def] at h
  refine g_aload_n 32 rfl rfl rfl ?_
  refine g_bipush (v := 11) 34 rfl (by decide) rfl ?_
  refine g_callV (J := sm_I3) 37 rfl (Nat.le_of_ble_eq_true rfl) rfl rfl (Nat.le_of_ble_eq_true rfl) ha (Nat.le_of_ble_eq_true rfl) (Nat.le_of_ble_eq_true rfl) rfl rfl (F_3 (d + 1) a ha 11 U) ?_
  refine g_aload_n 38 rfl rfl rfl ?_
  refine g_iload_n 39 rfl rfl rfl ?_
  have tq1 := F_5 d a ha v1 (f_3 a 11 U)
  rcases hq1 : f_5 a v1 (f_3 a 11 U) with ⟨q1, W2⟩
  rw [hq1] at h tq1
  dsimp only at h tq1
  refine g_callV (J := sm_I5) 42 rfl (Nat.le_of_ble_eq_true rfl) rfl rfl (Nat.le_of_ble_eq_true rfl) ha (Nat.le_of_ble_eq_true rfl) (Nat.le_of_ble_eq_true rfl) rfl rfl tq1 ?_
  refine g_iconst (v := 2) 43 rfl rfl rfl ?_
  refine g_imul 44 rfl rfl ?_
  refine g_istore_n 45 [(2, .int (q1 * 2)), (0, .ref a), (1, .int v1)] rfl (Nat.le_of_ble_eq_true rfl) rfl rfl ?_
  refine g_aload_n 46 rfl rfl rfl ?_
  refine g_get 49 rfl ha (Nat.le_of_ble_eq_true rfl) rfl rfl ?_
  refine g_iconst (v := 3) 50 rfl rfl rfl ?_
  refine g_icmp_ne 62 53 rfl rfl (fun c3 => ?_) (fun c3 => ?_)
  · rw [if_neg c3] at h
    refine g_aload_n 63 rfl rfl rfl ?_
    refine g_get 66 rfl ha (Nat.le_of_ble_eq_true rfl) rfl rfl ?_
    refine g_iconst (v := 4) 67 rfl rfl rfl ?_
    refine g_icmp_ne 75 70 rfl rfl (fun c4 => ?_) (fun c4 => ?_)
    · rw [if_neg c4] at h
      refine g_iload_n 76 rfl rfl rfl ?_
      cases h
      exact g_iret rfl rfl
    · rw [if_pos c4] at h
      refine g_iload_n 71 rfl rfl rfl ?_
      refine g_ineg 72 rfl rfl ?_
      refine g_goto 76 rfl ?_
      cases h
      exact g_iret rfl rfl
  · rw [if_pos c3] at h
    refine g_iload_n 54 rfl rfl rfl ?_
    refine g_aload_n 55 rfl rfl rfl ?_
    refine g_get 58 rfl ha (Nat.le_of_ble_eq_true rfl) rfl rfl ?_
    refine g_isub 59 rfl rfl ?_
    refine g_goto 76 rfl ?_
    cases h
    exact g_iret rfl rfl
def f_6 (a : Nat) (x1 : Int32) (U : sU) : Int32 × sU :=
  if (U.1 a 1) = 3 then
    f_6_31 a x1 (f_3 a 30 U)
  else
    if (U.1 a 1) = 4 then
      f_6_31 a x1 (f_3 a 41 U)
    else
      f_6_31 a x1 U
set_option maxRecDepth 10000 in
set_option maxHeartbeats 2000000 in
theorem F_6 (d : Nat) (a : Nat) (ha : sh a = 0) (x1 : Int32) (U : sU) : Rn (d + 3) sm_I6 [.ref a, .int x1] U (some (.int (f_6 a x1 U).1)) (f_6 a x1 U).2 := by
  refine Rn_of [(0, .ref a), (1, .int x1)] (Nat.le_of_ble_eq_true rfl) (Sc rfl (Sc rfl (Sn _))) ?_
  rcases h : f_6 a x1 U with ⟨r, U'⟩
  dsimp only
  first | rw [f_6] at h | rw [f_6.eq_def] at h
  refine g_aload_n 1 rfl rfl rfl ?_
  refine g_get 4 rfl ha (Nat.le_of_ble_eq_true rfl) rfl rfl ?_
  refine g_iconst (v := 3) 5 rfl rfl rfl ?_
  refine g_icmp_ne 17 8 rfl rfl (fun c5 => ?_) (fun c5 => ?_)
  · rw [if_neg c5] at h
    refine g_aload_n 18 rfl rfl rfl ?_
    refine g_get 21 rfl ha (Nat.le_of_ble_eq_true rfl) rfl rfl ?_
    refine g_iconst (v := 4) 22 rfl rfl rfl ?_
    refine g_icmp_ne 31 25 rfl rfl (fun c6 => ?_) (fun c6 => ?_)
    · rw [if_neg c6] at h
      exact g_sub (Sc rfl (Sc rfl (Sn _))) (F_6_31 d a ha x1 h)
    · rw [if_pos c6] at h
      refine g_aload_n 26 rfl rfl rfl ?_
      refine g_bipush (v := 41) 28 rfl (by decide) rfl ?_
      refine g_callV (J := sm_I3) 31 rfl (Nat.le_of_ble_eq_true rfl) rfl rfl (Nat.le_of_ble_eq_true rfl) ha (Nat.le_of_ble_eq_true rfl) (Nat.le_of_ble_eq_true rfl) rfl rfl (F_3 (d + 1) a ha 41 U) ?_
      exact g_sub (Sc rfl (Sc rfl (Sn _))) (F_6_31 d a ha x1 h)
  · rw [if_pos c5] at h
    refine g_aload_n 9 rfl rfl rfl ?_
    refine g_bipush (v := 30) 11 rfl (by decide) rfl ?_
    refine g_callV (J := sm_I3) 14 rfl (Nat.le_of_ble_eq_true rfl) rfl rfl (Nat.le_of_ble_eq_true rfl) ha (Nat.le_of_ble_eq_true rfl) (Nat.le_of_ble_eq_true rfl) rfl rfl (F_3 (d + 1) a ha 30 U) ?_
    refine g_goto 31 rfl ?_
    exact g_sub (Sc rfl (Sc rfl (Sn _))) (F_6_31 d a ha x1 h)

def f_7_64 (a : Nat) (v2 : Int32) (U : sU) : Int32 × sU :=
  match f_6 a v2 (f_3 a 12 U) with
  | (q1, W2) =>
  match f_5 a (v2 - (W2.1 a 3)) W2 with
  | (q3, W4) =>
  if (W4.1 a 1) = 2 then
    ((q1 ^^^ q3) + (W4.1 a 3), W4)
  else
    if (W4.1 a 1) = 5 then
      ((q1 ^^^ q3) * 2, W4)
    else
      (q1 ^^^ q3, W4)
set_option maxRecDepth 10000 in
set_option maxHeartbeats 2000000 in
theorem F_7_64 (d : Nat)   (a : Nat) (ha : sh a = 0) (v2 : Int32) {U : sU} {r : Int32} {U' : sU} (h : f_7_64 a v2 U = (r, U')) : G (d + 4) sm_I7 64 [(0, .ref a), (2, .int v2)] [] U (some (.int r)) U' := by
  first | rw [f_7_64] at h | rw [f_7_64.eq_def] at h
  refine g_aload_n 65 rfl rfl rfl ?_
  refine g_bipush (v := 12) 67 rfl (by decide) rfl ?_
  refine g_callV (J := sm_I3) 70 rfl (Nat.le_of_ble_eq_true rfl) rfl rfl (Nat.le_of_ble_eq_true rfl) ha (Nat.le_of_ble_eq_true rfl) (Nat.le_of_ble_eq_true rfl) rfl rfl (F_3 (d + 2) a ha 12 U) ?_
  refine g_aload_n 71 rfl rfl rfl ?_
  refine g_iload_n 72 rfl rfl rfl ?_
  have tq1 := F_6 d a ha v2 (f_3 a 12 U)
  rcases hq1 : f_6 a v2 (f_3 a 12 U) with ⟨q1, W2⟩
  rw [hq1] at h tq1
  dsimp only at h tq1
  refine g_callV (J := sm_I6) 75 rfl (Nat.le_of_ble_eq_true rfl) rfl rfl (Nat.le_of_ble_eq_true rfl) ha (Nat.le_of_ble_eq_true rfl) (Nat.le_of_ble_eq_true rfl) rfl rfl tq1 ?_
  refine g_aload_n 76 rfl rfl rfl ?_
  refine g_iload_n 77 rfl rfl rfl ?_
  refine g_aload_n 78 rfl rfl rfl ?_
  refine g_get 81 rfl ha (Nat.le_of_ble_eq_true rfl) rfl rfl ?_
  refine g_isub 82 rfl rfl ?_
  have tq3 := F_5 (d + 1) a ha (v2 - (W2.1 a 3)) W2
  rcases hq3 : f_5 a (v2 - (W2.1 a 3)) W2 with ⟨q3, W4⟩
  rw [hq3] at h tq3
  dsimp only at h tq3
  refine g_callV (J := sm_I5) 85 rfl (Nat.le_of_ble_eq_true rfl) rfl rfl (Nat.le_of_ble_eq_true rfl) ha (Nat.le_of_ble_eq_true rfl) (Nat.le_of_ble_eq_true rfl) rfl rfl tq3 ?_
  refine g_ixor 86 rfl rfl ?_
  refine g_istore_n 87 [(3, .int (q1 ^^^ q3)), (0, .ref a), (2, .int v2)] rfl (Nat.le_of_ble_eq_true rfl) rfl rfl ?_
  refine g_aload_n 88 rfl rfl rfl ?_
  refine g_get 91 rfl ha (Nat.le_of_ble_eq_true rfl) rfl rfl ?_
  refine g_iconst (v := 2) 92 rfl rfl rfl ?_
  refine g_icmp_ne 104 95 rfl rfl (fun c5 => ?_) (fun c5 => ?_)
  · rw [if_neg c5] at h
    refine g_aload_n 105 rfl rfl rfl ?_
    refine g_get 108 rfl ha (Nat.le_of_ble_eq_true rfl) rfl rfl ?_
    refine g_iconst (v := 5) 109 rfl rfl rfl ?_
    refine g_icmp_ne 118 112 rfl rfl (fun c6 => ?_) (fun c6 => ?_)
    · rw [if_neg c6] at h
      refine g_iload_n 119 rfl rfl rfl ?_
      cases h
      exact g_iret rfl rfl
    · rw [if_pos c6] at h
      refine g_iload_n 113 rfl rfl rfl ?_
      refine g_iconst (v := 2) 114 rfl rfl rfl ?_
      refine g_imul 115 rfl rfl ?_
      refine g_goto 119 rfl ?_
      cases h
      exact g_iret rfl rfl
  · rw [if_pos c5] at h
    refine g_iload_n 96 rfl rfl rfl ?_
    refine g_aload_n 97 rfl rfl rfl ?_
    refine g_get 100 rfl ha (Nat.le_of_ble_eq_true rfl) rfl rfl ?_
    refine g_iadd 101 rfl rfl ?_
    refine g_goto 119 rfl ?_
    cases h
    exact g_iret rfl rfl
def f_7_15 (a : Nat) (z0 : Int32) (U : sU) : Int32 × sU :=
  if (U.1 a 1) = 4 then
    f_7_64 a z0 (f_3 a 40 U)
  else
    if (U.1 a 1) = 2 then
      f_7_64 a z0 (f_3 a 50 U)
    else
      if (U.1 a 1) = 5 then
        f_7_64 a z0 (f_3 a 61 U)
      else
        f_7_64 a z0 U
set_option maxRecDepth 10000 in
set_option maxHeartbeats 2000000 in
theorem F_7_15 (d : Nat)   (a : Nat) (ha : sh a = 0) (z0 : Int32) {U : sU} {r : Int32} {U' : sU} (h : f_7_15 a z0 U = (r, U')) : G (d + 4) sm_I7 15 [(0, .ref a)] [.int z0] U (some (.int r)) U' := by
  first | rw [f_7_15] at h | rw [f_7_15.eq_def] at h
  refine g_istore_n 16 [(2, .int z0), (0, .ref a)] rfl (Nat.le_of_ble_eq_true rfl) rfl rfl ?_
  refine g_aload_n 17 rfl rfl rfl ?_
  refine g_get 20 rfl ha (Nat.le_of_ble_eq_true rfl) rfl rfl ?_
  refine g_iconst (v := 4) 21 rfl rfl rfl ?_
  refine g_icmp_ne 33 24 rfl rfl (fun c7 => ?_) (fun c7 => ?_)
  · rw [if_neg c7] at h
    refine g_aload_n 34 rfl rfl rfl ?_
    refine g_get 37 rfl ha (Nat.le_of_ble_eq_true rfl) rfl rfl ?_
    refine g_iconst (v := 2) 38 rfl rfl rfl ?_
    refine g_icmp_ne 50 41 rfl rfl (fun c8 => ?_) (fun c8 => ?_)
    · rw [if_neg c8] at h
      refine g_aload_n 51 rfl rfl rfl ?_
      refine g_get 54 rfl ha (Nat.le_of_ble_eq_true rfl) rfl rfl ?_
      refine g_iconst (v := 5) 55 rfl rfl rfl ?_
      refine g_icmp_ne 64 58 rfl rfl (fun c9 => ?_) (fun c9 => ?_)
      · rw [if_neg c9] at h
        exact g_sub (Sc rfl (Sc rfl (Sn _))) (F_7_64 d a ha z0 h)
      · rw [if_pos c9] at h
        refine g_aload_n 59 rfl rfl rfl ?_
        refine g_bipush (v := 61) 61 rfl (by decide) rfl ?_
        refine g_callV (J := sm_I3) 64 rfl (Nat.le_of_ble_eq_true rfl) rfl rfl (Nat.le_of_ble_eq_true rfl) ha (Nat.le_of_ble_eq_true rfl) (Nat.le_of_ble_eq_true rfl) rfl rfl (F_3 (d + 2) a ha 61 U) ?_
        exact g_sub (Sc rfl (Sc rfl (Sn _))) (F_7_64 d a ha z0 h)
    · rw [if_pos c8] at h
      refine g_aload_n 42 rfl rfl rfl ?_
      refine g_bipush (v := 50) 44 rfl (by decide) rfl ?_
      refine g_callV (J := sm_I3) 47 rfl (Nat.le_of_ble_eq_true rfl) rfl rfl (Nat.le_of_ble_eq_true rfl) ha (Nat.le_of_ble_eq_true rfl) (Nat.le_of_ble_eq_true rfl) rfl rfl (F_3 (d + 2) a ha 50 U) ?_
      refine g_goto 64 rfl ?_
      exact g_sub (Sc rfl (Sc rfl (Sn _))) (F_7_64 d a ha z0 h)
  · rw [if_pos c7] at h
    refine g_aload_n 25 rfl rfl rfl ?_
    refine g_bipush (v := 40) 27 rfl (by decide) rfl ?_
    refine g_callV (J := sm_I3) 30 rfl (Nat.le_of_ble_eq_true rfl) rfl rfl (Nat.le_of_ble_eq_true rfl) ha (Nat.le_of_ble_eq_true rfl) (Nat.le_of_ble_eq_true rfl) rfl rfl (F_3 (d + 2) a ha 40 U) ?_
    refine g_goto 64 rfl ?_
    exact g_sub (Sc rfl (Sc rfl (Sn _))) (F_7_64 d a ha z0 h)
def f_7 (a : Nat) (x1 : Int32) (U : sU) : Int32 × sU :=
  if (U.1 a 1) = 4 then
    f_7_15 a (x1 + 1) U
  else
    f_7_15 a x1 U
set_option maxRecDepth 10000 in
set_option maxHeartbeats 2000000 in
theorem F_7 (d : Nat) (a : Nat) (ha : sh a = 0) (x1 : Int32) (U : sU) : Rn (d + 4) sm_I7 [.ref a, .int x1] U (some (.int (f_7 a x1 U).1)) (f_7 a x1 U).2 := by
  refine Rn_of [(0, .ref a), (1, .int x1)] (Nat.le_of_ble_eq_true rfl) (Sc rfl (Sc rfl (Sn _))) ?_
  rcases h : f_7 a x1 U with ⟨r, U'⟩
  dsimp only
  first | rw [f_7] at h | rw [f_7.eq_def] at h
  refine g_aload_n 1 rfl rfl rfl ?_
  refine g_get 4 rfl ha (Nat.le_of_ble_eq_true rfl) rfl rfl ?_
  refine g_iconst (v := 4) 5 rfl rfl rfl ?_
  refine g_icmp_ne 14 8 rfl rfl (fun c10 => ?_) (fun c10 => ?_)
  · rw [if_neg c10] at h
    refine g_iload_n 15 rfl rfl rfl ?_
    exact g_sub (Sc rfl (Sn _)) (F_7_15 d a ha x1 h)
  · rw [if_pos c10] at h
    refine g_iload_n 9 rfl rfl rfl ?_
    refine g_iconst (v := 1) 10 rfl rfl rfl ?_
    refine g_iadd 11 rfl rfl ?_
    refine g_goto 15 rfl ?_
    exact g_sub (Sc rfl (Sn _)) (F_7_15 d a ha (x1 + 1) h)

def f_88 (a : Nat) (x1 : Int32) (U : sU) : Int32 :=
  (jget a x1 U).toInt32
set_option maxRecDepth 10000 in
set_option maxHeartbeats 2000000 in
theorem F_88 (d : Nat) (a : Nat) (ha : sh a = 6) (x1 : Int32) (U : sU) : Rn (d + 2) sm_I88 [.ref a, .int x1] U (some (.int (f_88 a x1 U))) U := by
  refine Rn_of [(0, .ref a), (1, .int x1)] (Nat.le_of_ble_eq_true rfl) (Sc rfl (Sc rfl (Sn _))) ?_
  generalize h : f_88 a x1 U = r
  first | rw [f_88] at h | rw [f_88.eq_def] at h
  refine g_aload_n 1 rfl rfl rfl ?_
  refine g_iload_n 2 rfl rfl rfl ?_
  refine g_callV (J := sm_I87) 5 rfl (Nat.le_of_ble_eq_true rfl) rfl rfl (Nat.le_of_ble_eq_true rfl) ha (Nat.le_of_ble_eq_true rfl) (Nat.le_of_ble_eq_true rfl) rfl rfl (U_87 d a ha x1 U) ?_
  refine g_l2i 6 rfl rfl ?_
  subst h
  exact g_iret rfl rfl

def f_15_2 : Nat → Nat → Nat → Int32 → sU → Option sU
  | 0, _, _, _, _ => none
  | n + 1, a, v1, v2, U =>
    if 64 ≤ v2 then
      some (sI (sI (sI U a 1 (U.1 v1 3)) a 2 0) a 3 ((-1)))
    else
      f_15_2 n a v1 (v2 + 1) (iput (a + 1) v2 (f_88 v1 v2 U) U)
set_option maxRecDepth 10000 in
set_option maxHeartbeats 2000000 in
theorem F_15_2 (d : Nat)   : ∀ (n : Nat) (a : Nat) (ha : sh a = 2) (v1 : Nat) (hv1 : sh v1 = 6) (v2 : Int32) (U : sU) (U' : sU), f_15_2 n a v1 v2 U = some U' → G (d + 3) sm_I15 2 [(0, .ref a), (1, .ref v1), (2, .int v2)] [] U none U' := by
  intro n
  induction n with
  | zero => intro a ha v1 hv1 v2 U U' h; cases h
  | succ n ih =>
    intro a ha v1 hv1 v2 U U' h
    first | rw [f_15_2] at h | (rw [f_15_2.eq_def] at h; dsimp only at h)
    refine g_iload_n 3 rfl rfl rfl ?_
    refine g_bipush (v := 64) 5 rfl (by decide) rfl ?_
    refine g_icmp_ge 27 8 rfl rfl (fun c1 => ?_) (fun c1 => ?_)
    · rw [if_pos c1] at h
      refine g_aload_n 28 rfl rfl rfl ?_
      refine g_aload_n 29 rfl rfl rfl ?_
      refine g_get 32 rfl hv1 (Nat.le_of_ble_eq_true rfl) rfl rfl ?_
      refine g_putI 35 rfl ha (Nat.le_of_ble_eq_true rfl) (Nat.le_of_ble_eq_true rfl) rfl fs_2_1 rfl ?_
      refine g_aload_n 36 rfl rfl rfl ?_
      refine g_iconst (v := 0) 37 rfl rfl rfl ?_
      refine g_putI 40 rfl ha (Nat.le_of_ble_eq_true rfl) (Nat.le_of_ble_eq_true rfl) rfl fs_2_2 rfl ?_
      refine g_aload_n 41 rfl rfl rfl ?_
      refine g_iconst (v := (-1)) 42 rfl rfl rfl ?_
      refine g_putI 45 rfl ha (Nat.le_of_ble_eq_true rfl) (Nat.le_of_ble_eq_true rfl) rfl fs_2_3 rfl ?_
      cases h
      exact g_vret rfl rfl
    · rw [if_neg c1] at h
      refine g_aload_n 9 rfl rfl rfl ?_
      refine g_get 12 rfl ha (Nat.le_of_ble_eq_true rfl) rfl rfl ?_
      refine g_iload_n 13 rfl rfl rfl ?_
      refine g_aload_n 14 rfl rfl rfl ?_
      refine g_iload_n 15 rfl rfl rfl ?_
      refine g_callV (J := sm_I88) 18 rfl (Nat.le_of_ble_eq_true rfl) rfl rfl (Nat.le_of_ble_eq_true rfl) hv1 (Nat.le_of_ble_eq_true rfl) (Nat.le_of_ble_eq_true rfl) rfl rfl (F_88 d v1 hv1 v2 U) ?_
      refine g_callV (J := sm_I10) 21 rfl (Nat.le_of_ble_eq_true rfl) rfl rfl (Nat.le_of_ble_eq_true rfl) (sh_2_1 ha) (Nat.le_of_ble_eq_true rfl) (Nat.le_of_ble_eq_true rfl) rfl rfl (U_10 (d + 2) (a + 1) (sh_2_1 ha) v2 (f_88 v1 v2 U) U) ?_
      refine g_iinc (v := v2 + 1) 24 [(2, .int (v2 + 1)), (0, .ref a), (1, .ref v1)] rfl rfl (Nat.le_of_ble_eq_true rfl) rfl rfl rfl ?_
      refine g_goto 2 rfl ?_
      exact g_sub (Sc rfl (Sc rfl (Sc rfl (Sn _)))) (ih a ha v1 hv1 (v2 + 1) _ _ h)
def f_15 (a : Nat) (x1 : Nat) (U : sU) : Option sU :=
  f_15_2 FU a x1 0 U
set_option maxRecDepth 10000 in
set_option maxHeartbeats 2000000 in
theorem F_15 (d : Nat) (a : Nat) (ha : sh a = 2) (x1 : Nat) (hx1 : sh x1 = 6) {U : sU} {U' : sU} (h : f_15 a x1 U = some U') : Rn (d + 3) sm_I15 [.ref a, .ref x1] U none U' := by
  refine Rn_of [(0, .ref a), (1, .ref x1)] (Nat.le_of_ble_eq_true rfl) (Sc rfl (Sc rfl (Sn _))) ?_
  first | rw [f_15] at h | rw [f_15.eq_def] at h
  refine g_iconst (v := 0) 1 rfl rfl rfl ?_
  refine g_istore_n 2 [(2, .int 0), (0, .ref a), (1, .ref x1)] rfl (Nat.le_of_ble_eq_true rfl) rfl rfl ?_
  exact g_sub (Sc rfl (Sc rfl (Sc rfl (Sn _)))) (F_15_2 d _ a ha x1 hx1 0 _ _ h)

def f_16 (a : Nat) (x1 : Int32) (U : sU) : Int32 :=
  if (iget (a + 1) (U.1 a 2) U) = x1 then
    1
  else
    0
set_option maxRecDepth 10000 in
set_option maxHeartbeats 2000000 in
theorem F_16 (d : Nat) (a : Nat) (ha : sh a = 2) (x1 : Int32) (U : sU) : Rn (d + 1) sm_I16 [.ref a, .int x1] U (some (.int (f_16 a x1 U))) U := by
  refine Rn_of [(0, .ref a), (1, .int x1)] (Nat.le_of_ble_eq_true rfl) (Sc rfl (Sc rfl (Sn _))) ?_
  generalize h : f_16 a x1 U = r
  first | rw [f_16] at h | rw [f_16.eq_def] at h
  refine g_aload_n 1 rfl rfl rfl ?_
  refine g_get 4 rfl ha (Nat.le_of_ble_eq_true rfl) rfl rfl ?_
  refine g_aload_n 5 rfl rfl rfl ?_
  refine g_get 8 rfl ha (Nat.le_of_ble_eq_true rfl) rfl rfl ?_
  refine g_callV (J := sm_I9) 11 rfl (Nat.le_of_ble_eq_true rfl) rfl rfl (Nat.le_of_ble_eq_true rfl) (sh_2_1 ha) (Nat.le_of_ble_eq_true rfl) (Nat.le_of_ble_eq_true rfl) rfl rfl (U_9 d (a + 1) (sh_2_1 ha) (U.1 a 2) U) ?_
  refine g_iload_n 12 rfl rfl rfl ?_
  refine g_icmp_ne 19 15 rfl rfl (fun c1 => ?_) (fun c1 => ?_)
  · rw [if_neg c1] at h
    refine g_iconst (v := 0) 20 rfl rfl rfl ?_
    subst h
    exact g_zret rfl rfl (Or.inl rfl)
  · rw [if_pos c1] at h
    refine g_iconst (v := 1) 16 rfl rfl rfl ?_
    refine g_goto 20 rfl ?_
    subst h
    exact g_zret rfl rfl (Or.inr rfl)

def f_17 (a : Nat) (x1 : Int32) (U : sU) : Int32 × sU :=
  (0, sI U a 3 x1)
set_option maxRecDepth 10000 in
set_option maxHeartbeats 2000000 in
theorem F_17 (d : Nat) (a : Nat) (ha : sh a = 2) (x1 : Int32) (U : sU) : Rn (d + 0) sm_I17 [.ref a, .int x1] U (some (.int (f_17 a x1 U).1)) (f_17 a x1 U).2 := by
  refine Rn_of [(0, .ref a), (1, .int x1)] (Nat.le_of_ble_eq_true rfl) (Sc rfl (Sc rfl (Sn _))) ?_
  rcases h : f_17 a x1 U with ⟨r, U'⟩
  dsimp only
  first | rw [f_17] at h | rw [f_17.eq_def] at h
  refine g_aload_n 1 rfl rfl rfl ?_
  refine g_iload_n 2 rfl rfl rfl ?_
  refine g_putI 5 rfl ha (Nat.le_of_ble_eq_true rfl) (Nat.le_of_ble_eq_true rfl) rfl fs_2_3 rfl ?_
  refine g_iconst (v := 0) 6 rfl rfl rfl ?_
  cases h
  exact g_zret rfl rfl (Or.inl rfl)

def f_18 (a : Nat) (x1 : Int32) (U : sU) : Int32 × sU :=
  if (f_16 a x1 U) = 0 then
    match f_17 a (U.1 a 2) U with
    | (q3, W4) =>
    (q3, W4)
  else
    (1, sI U a 2 ((U.1 a 2) + 1))
set_option maxRecDepth 10000 in
set_option maxHeartbeats 2000000 in
theorem F_18 (d : Nat) (a : Nat) (ha : sh a = 2) (x1 : Int32) (U : sU) : Rn (d + 2) sm_I18 [.ref a, .int x1] U (some (.int (f_18 a x1 U).1)) (f_18 a x1 U).2 := by
  refine Rn_of [(0, .ref a), (1, .int x1)] (Nat.le_of_ble_eq_true rfl) (Sc rfl (Sc rfl (Sn _))) ?_
  rcases h : f_18 a x1 U with ⟨r, U'⟩
  dsimp only
  first | rw [f_18] at h | rw [f_18.eq_def] at h
  refine g_aload_n 1 rfl rfl rfl ?_
  refine g_iload_n 2 rfl rfl rfl ?_
  have r1 := F_16 d a ha x1 U
  refine g_callV (J := sm_I16) 5 rfl (Nat.le_of_ble_eq_true rfl) rfl rfl (Nat.le_of_ble_eq_true rfl) ha (Nat.le_of_ble_eq_true rfl) (Nat.le_of_ble_eq_true rfl) rfl rfl r1 ?_
  refine g_if_ne 17 8 rfl rfl (fun c2 => ?_) (fun c2 => ?_)
  · rw [if_neg c2] at h
    refine g_aload_n 18 rfl rfl rfl ?_
    refine g_dup 19 rfl rfl rfl ?_
    refine g_get 22 rfl ha (Nat.le_of_ble_eq_true rfl) rfl rfl ?_
    refine g_iconst (v := 1) 23 rfl rfl rfl ?_
    refine g_iadd 24 rfl rfl ?_
    refine g_putI 27 rfl ha (Nat.le_of_ble_eq_true rfl) (Nat.le_of_ble_eq_true rfl) rfl fs_2_2 rfl ?_
    refine g_iconst (v := 1) 28 rfl rfl rfl ?_
    cases h
    exact g_zret rfl rfl (Or.inr rfl)
  · rw [if_pos c2] at h
    refine g_aload_n 9 rfl rfl rfl ?_
    refine g_aload_n 10 rfl rfl rfl ?_
    refine g_get 13 rfl ha (Nat.le_of_ble_eq_true rfl) rfl rfl ?_
    have tq3 := F_17 (d + 1) a ha (U.1 a 2) U
    rcases hq3 : f_17 a (U.1 a 2) U with ⟨q3, W4⟩
    rw [hq3] at h tq3
    dsimp only at h tq3
    refine g_callV (J := sm_I17) 16 rfl (Nat.le_of_ble_eq_true rfl) rfl rfl (Nat.le_of_ble_eq_true rfl) ha (Nat.le_of_ble_eq_true rfl) (Nat.le_of_ble_eq_true rfl) rfl rfl tq3 ?_
    cases h
    exact g_zret rfl rfl (Rn_z rfl tq3)

def f_19_2 : Nat → Nat → Nat → Int32 → sU → Option (Int32 × sU)
  | 0, _, _, _, _ => none
  | n + 1, a, v1, v2, U =>
    if (Int32.ofNat (sm_tx (v1 - 1000)).length) ≤ v2 then
      some (1, U)
    else
      if ib v2 (sm_tx (v1 - 1000)).length then
      match f_18 a (Int32.ofNat ((sm_tx (v1 - 1000)).getD v2.toNatClampNeg 0)) U with
      | (q3, W4) =>
      if q3 = 0 then
        some (0, W4)
      else
        f_19_2 n a v1 (v2 + 1) W4
      else none
set_option maxRecDepth 10000 in
set_option maxHeartbeats 2000000 in
theorem F_19_2 (d : Nat)   : ∀ (n : Nat) (a : Nat) (ha : sh a = 2) (v1 : Nat) (hv1 : 1000 ≤ v1 ∧ v1 < 1006) (v2 : Int32) (U : sU) (r : Int32) (U' : sU), f_19_2 n a v1 v2 U = some (r, U') → G (d + 6) sm_I19 2 [(0, .ref a), (1, .ref v1), (2, .int v2)] [] U (some (.int r)) U' := by
  intro n
  induction n with
  | zero => intro a ha v1 hv1 v2 U r U' h; cases h
  | succ n ih =>
    intro a ha v1 hv1 v2 U r U' h
    first | rw [f_19_2] at h | (rw [f_19_2.eq_def] at h; dsimp only at h)
    refine g_iload_n 3 rfl rfl rfl ?_
    refine g_aload_n 4 rfl rfl rfl ?_
    refine g_slen 7 rfl (Nat.le_add_left _ _) (Nat.le_of_ble_eq_true rfl) hv1.1 hv1.2 rfl ?_
    refine g_icmp_ge 30 10 rfl rfl (fun c1 => ?_) (fun c1 => ?_)
    · rw [if_pos c1] at h
      refine g_iconst (v := 1) 31 rfl rfl rfl ?_
      cases h
      exact g_zret rfl rfl (Or.inr rfl)
    · rw [if_neg c1] at h
      refine g_aload_n 11 rfl rfl rfl ?_
      refine g_aload_n 12 rfl rfl rfl ?_
      refine g_iload_n 13 rfl rfl rfl ?_
      by_cases i2 : ib v2 (sm_tx (v1 - 1000)).length
      case neg => rw [if_neg i2] at h; cases h
      rw [if_pos i2] at h
      refine g_sch 16 rfl (Nat.le_add_left _ _) (Nat.le_of_ble_eq_true rfl) hv1.1 hv1.2 i2 rfl ?_
      have tq3 := F_18 (d + 3) a ha (Int32.ofNat ((sm_tx (v1 - 1000)).getD v2.toNatClampNeg 0)) U
      rcases hq3 : f_18 a (Int32.ofNat ((sm_tx (v1 - 1000)).getD v2.toNatClampNeg 0)) U with ⟨q3, W4⟩
      rw [hq3] at h tq3
      dsimp only at h tq3
      refine g_callV (J := sm_I18) 19 rfl (Nat.le_of_ble_eq_true rfl) rfl rfl (Nat.le_of_ble_eq_true rfl) ha (Nat.le_of_ble_eq_true rfl) (Nat.le_of_ble_eq_true rfl) rfl rfl tq3 ?_
      refine g_if_ne 24 22 rfl rfl (fun c5 => ?_) (fun c5 => ?_)
      · rw [if_neg c5] at h
        refine g_iinc (v := v2 + 1) 27 [(2, .int (v2 + 1)), (0, .ref a), (1, .ref v1)] rfl rfl (Nat.le_of_ble_eq_true rfl) rfl rfl rfl ?_
        refine g_goto 2 rfl ?_
        exact g_sub (Sc rfl (Sc rfl (Sc rfl (Sn _)))) (ih a ha v1 ⟨hv1.1, hv1.2⟩ (v2 + 1) _ _ _ h)
      · rw [if_pos c5] at h
        refine g_iconst (v := 0) 23 rfl rfl rfl ?_
        cases h
        exact g_zret rfl rfl (Or.inl rfl)
def f_19 (a : Nat) (x1 : Nat) (U : sU) : Option (Int32 × sU) :=
  f_19_2 FU a x1 0 U
set_option maxRecDepth 10000 in
set_option maxHeartbeats 2000000 in
theorem F_19 (d : Nat) (a : Nat) (ha : sh a = 2) (x1 : Nat) (hx1 : 1000 ≤ x1 ∧ x1 < 1006) {U : sU} {r : Int32} {U' : sU} (h : f_19 a x1 U = some (r, U')) : Rn (d + 6) sm_I19 [.ref a, .ref x1] U (some (.int r)) U' := by
  refine Rn_of [(0, .ref a), (1, .ref x1)] (Nat.le_of_ble_eq_true rfl) (Sc rfl (Sc rfl (Sn _))) ?_
  first | rw [f_19] at h | rw [f_19.eq_def] at h
  refine g_iconst (v := 0) 1 rfl rfl rfl ?_
  refine g_istore_n 2 [(2, .int 0), (0, .ref a), (1, .ref x1)] rfl (Nat.le_of_ble_eq_true rfl) rfl rfl ?_
  exact g_sub (Sc rfl (Sc rfl (Sc rfl (Sn _)))) (F_19_2 d _ a ha x1 ⟨hx1.1, hx1.2⟩ 0 _ _ _ h)

def f_28_80 (a : Nat) (v1 : Int32) (v2 : Int32) (v3 : Int32) (U : sU) : Option (Int32 × sU) :=
  if (U.1 a 2) = v3 then
    match f_17 a v3 U with
    | (q2, W3) =>
    some (q2, W3)
  else
    if (U.1 a 4) < v1 then
      match f_17 a v3 U with
      | (q5, W6) =>
      some (q5, W6)
    else
      if (U.1 a 4) ≤ v2 then
        some (1, U)
      else
        match f_17 a v3 U with
        | (q8, W9) =>
        some (q8, W9)
set_option maxRecDepth 10000 in
set_option maxHeartbeats 2000000 in
theorem F_28_80 (d : Nat)   (a : Nat) (ha : sh a = 2) (v1 : Int32) (v2 : Int32) (v3 : Int32) {U : sU} {r : Int32} {U' : sU} (h : f_28_80 a v1 v2 v3 U = some (r, U')) : G (d + 1) sm_I28 80 [(0, .ref a), (1, .int v1), (2, .int v2), (3, .int v3)] [] U (some (.int r)) U' := by
  first | rw [f_28_80] at h | rw [f_28_80.eq_def] at h
  refine g_aload_n 81 rfl rfl rfl ?_
  refine g_get 84 rfl ha (Nat.le_of_ble_eq_true rfl) rfl rfl ?_
  refine g_iload_n 85 rfl rfl rfl ?_
  refine g_icmp_eq 104 88 rfl rfl (fun c1 => ?_) (fun c1 => ?_)
  · rw [if_pos c1] at h
    refine g_aload_n 105 rfl rfl rfl ?_
    refine g_iload_n 106 rfl rfl rfl ?_
    have tq2 := F_17 d a ha v3 U
    rcases hq2 : f_17 a v3 U with ⟨q2, W3⟩
    rw [hq2] at h tq2
    dsimp only at h tq2
    refine g_callV (J := sm_I17) 109 rfl (Nat.le_of_ble_eq_true rfl) rfl rfl (Nat.le_of_ble_eq_true rfl) ha (Nat.le_of_ble_eq_true rfl) (Nat.le_of_ble_eq_true rfl) rfl rfl tq2 ?_
    cases h
    exact g_zret rfl rfl (Rn_z rfl tq2)
  · rw [if_neg c1] at h
    refine g_aload_n 89 rfl rfl rfl ?_
    refine g_get 92 rfl ha (Nat.le_of_ble_eq_true rfl) rfl rfl ?_
    refine g_iload_n 93 rfl rfl rfl ?_
    refine g_icmp_lt 104 96 rfl rfl (fun c4 => ?_) (fun c4 => ?_)
    · rw [if_pos c4] at h
      refine g_aload_n 105 rfl rfl rfl ?_
      refine g_iload_n 106 rfl rfl rfl ?_
      have tq5 := F_17 d a ha v3 U
      rcases hq5 : f_17 a v3 U with ⟨q5, W6⟩
      rw [hq5] at h tq5
      dsimp only at h tq5
      refine g_callV (J := sm_I17) 109 rfl (Nat.le_of_ble_eq_true rfl) rfl rfl (Nat.le_of_ble_eq_true rfl) ha (Nat.le_of_ble_eq_true rfl) (Nat.le_of_ble_eq_true rfl) rfl rfl tq5 ?_
      cases h
      exact g_zret rfl rfl (Rn_z rfl tq5)
    · rw [if_neg c4] at h
      refine g_aload_n 97 rfl rfl rfl ?_
      refine g_get 100 rfl ha (Nat.le_of_ble_eq_true rfl) rfl rfl ?_
      refine g_iload_n 101 rfl rfl rfl ?_
      refine g_icmp_le 110 104 rfl rfl (fun c7 => ?_) (fun c7 => ?_)
      · rw [if_pos c7] at h
        refine g_iconst (v := 1) 111 rfl rfl rfl ?_
        cases h
        exact g_zret rfl rfl (Or.inr rfl)
      · rw [if_neg c7] at h
        refine g_aload_n 105 rfl rfl rfl ?_
        refine g_iload_n 106 rfl rfl rfl ?_
        have tq8 := F_17 d a ha v3 U
        rcases hq8 : f_17 a v3 U with ⟨q8, W9⟩
        rw [hq8] at h tq8
        dsimp only at h tq8
        refine g_callV (J := sm_I17) 109 rfl (Nat.le_of_ble_eq_true rfl) rfl rfl (Nat.le_of_ble_eq_true rfl) ha (Nat.le_of_ble_eq_true rfl) (Nat.le_of_ble_eq_true rfl) rfl rfl tq8 ?_
        cases h
        exact g_zret rfl rfl (Rn_z rfl tq8)
def f_28_13 : Nat → Nat → Int32 → Int32 → Int32 → Int32 → sU → Option (Int32 × sU)
  | 0, _, _, _, _, _, _ => none
  | n + 1, a, v1, v2, v3, v4, U =>
    if 3 ≤ v4 then
      f_28_80 a v1 v2 v3 U
    else
      if ((iget (a + 1) (U.1 a 2) U) - 48) < 0 then
        f_28_80 a v1 v2 v3 U
      else
        if ((iget (a + 1) (U.1 a 2) U) - 48) ≤ 9 then
          f_28_13 n a v1 v2 v3 (v4 + 1) (sI (sI U a 4 ((10 * (U.1 a 4)) + ((iget (a + 1) (U.1 a 2) U) - 48))) a 2 (((sI U a 4 ((10 * (U.1 a 4)) + ((iget (a + 1) (U.1 a 2) U) - 48))).1 a 2) + 1))
        else
          f_28_80 a v1 v2 v3 U
set_option maxRecDepth 10000 in
set_option maxHeartbeats 2000000 in
theorem F_28_13 (d : Nat)   : ∀ (n : Nat) (a : Nat) (ha : sh a = 2) (v1 : Int32) (v2 : Int32) (v3 : Int32) (v4 : Int32) (U : sU) (r : Int32) (U' : sU), f_28_13 n a v1 v2 v3 v4 U = some (r, U') → G (d + 1) sm_I28 13 [(0, .ref a), (1, .int v1), (2, .int v2), (3, .int v3), (4, .int v4)] [] U (some (.int r)) U' := by
  intro n
  induction n with
  | zero => intro a ha v1 v2 v3 v4 U r U' h; cases h
  | succ n ih =>
    intro a ha v1 v2 v3 v4 U r U' h
    first | rw [f_28_13] at h | (rw [f_28_13.eq_def] at h; dsimp only at h)
    refine g_iload 15 rfl rfl rfl ?_
    refine g_iconst (v := 3) 16 rfl rfl rfl ?_
    refine g_icmp_ge 80 19 rfl rfl (fun c10 => ?_) (fun c10 => ?_)
    · rw [if_pos c10] at h
      exact g_sub (Sc rfl (Sc rfl (Sc rfl (Sc rfl (Sn _))))) (F_28_80 d a ha v1 v2 v3 h)
    · rw [if_neg c10] at h
      refine g_aload_n 20 rfl rfl rfl ?_
      refine g_get 23 rfl ha (Nat.le_of_ble_eq_true rfl) rfl rfl ?_
      refine g_aload_n 24 rfl rfl rfl ?_
      refine g_get 27 rfl ha (Nat.le_of_ble_eq_true rfl) rfl rfl ?_
      refine g_callV (J := sm_I9) 30 rfl (Nat.le_of_ble_eq_true rfl) rfl rfl (Nat.le_of_ble_eq_true rfl) (sh_2_1 ha) (Nat.le_of_ble_eq_true rfl) (Nat.le_of_ble_eq_true rfl) rfl rfl (U_9 d (a + 1) (sh_2_1 ha) (U.1 a 2) U) ?_
      refine g_bipush (v := 48) 32 rfl (by decide) rfl ?_
      refine g_isub 33 rfl rfl ?_
      refine g_istore 35 [(5, .int ((iget (a + 1) (U.1 a 2) U) - 48)), (0, .ref a), (1, .int v1), (2, .int v2), (3, .int v3), (4, .int v4)] rfl (Nat.le_of_ble_eq_true rfl) rfl rfl ?_
      refine g_iload 37 rfl rfl rfl ?_
      refine g_if_lt 80 40 rfl rfl (fun c11 => ?_) (fun c11 => ?_)
      · rw [if_pos c11] at h
        exact g_sub (Sc rfl (Sc rfl (Sc rfl (Sc rfl (Sn _))))) (F_28_80 d a ha v1 v2 v3 h)
      · rw [if_neg c11] at h
        refine g_iload 42 rfl rfl rfl ?_
        refine g_bipush (v := 9) 44 rfl (by decide) rfl ?_
        refine g_icmp_le 50 47 rfl rfl (fun c12 => ?_) (fun c12 => ?_)
        · rw [if_pos c12] at h
          refine g_aload_n 51 rfl rfl rfl ?_
          refine g_bipush (v := 10) 53 rfl (by decide) rfl ?_
          refine g_aload_n 54 rfl rfl rfl ?_
          refine g_get 57 rfl ha (Nat.le_of_ble_eq_true rfl) rfl rfl ?_
          refine g_imul 58 rfl rfl ?_
          refine g_iload 60 rfl rfl rfl ?_
          refine g_iadd 61 rfl rfl ?_
          refine g_putI 64 rfl ha (Nat.le_of_ble_eq_true rfl) (Nat.le_of_ble_eq_true rfl) rfl fs_2_4 rfl ?_
          refine g_aload_n 65 rfl rfl rfl ?_
          refine g_dup 66 rfl rfl rfl ?_
          refine g_get 69 rfl ha (Nat.le_of_ble_eq_true rfl) rfl rfl ?_
          refine g_iconst (v := 1) 70 rfl rfl rfl ?_
          refine g_iadd 71 rfl rfl ?_
          refine g_putI 74 rfl ha (Nat.le_of_ble_eq_true rfl) (Nat.le_of_ble_eq_true rfl) rfl fs_2_2 rfl ?_
          refine g_iinc (v := v4 + 1) 77 [(4, .int (v4 + 1)), (5, .int ((iget (a + 1) (U.1 a 2) U) - 48)), (0, .ref a), (1, .int v1), (2, .int v2), (3, .int v3)] rfl rfl (Nat.le_of_ble_eq_true rfl) rfl rfl rfl ?_
          refine g_goto 13 rfl ?_
          exact g_sub (Sc rfl (Sc rfl (Sc rfl (Sc rfl (Sc rfl (Sn _)))))) (ih a ha v1 v2 v3 (v4 + 1) _ _ _ h)
        · rw [if_neg c12] at h
          refine g_goto 80 rfl ?_
          exact g_sub (Sc rfl (Sc rfl (Sc rfl (Sc rfl (Sn _))))) (F_28_80 d a ha v1 v2 v3 h)
def f_28 (a : Nat) (x1 : Int32) (x2 : Int32) (U : sU) : Option (Int32 × sU) :=
  f_28_13 FU a x1 x2 (U.1 a 2) 0 (sI U a 4 0)
set_option maxRecDepth 10000 in
set_option maxHeartbeats 2000000 in
theorem F_28 (d : Nat) (a : Nat) (ha : sh a = 2) (x1 : Int32) (x2 : Int32) {U : sU} {r : Int32} {U' : sU} (h : f_28 a x1 x2 U = some (r, U')) : Rn (d + 1) sm_I28 [.ref a, .int x1, .int x2] U (some (.int r)) U' := by
  refine Rn_of [(0, .ref a), (1, .int x1), (2, .int x2)] (Nat.le_of_ble_eq_true rfl) (Sc rfl (Sc rfl (Sc rfl (Sn _)))) ?_
  first | rw [f_28] at h | rw [f_28.eq_def] at h
  refine g_aload_n 1 rfl rfl rfl ?_
  refine g_get 4 rfl ha (Nat.le_of_ble_eq_true rfl) rfl rfl ?_
  refine g_istore_n 5 [(3, .int (U.1 a 2)), (0, .ref a), (1, .int x1), (2, .int x2)] rfl (Nat.le_of_ble_eq_true rfl) rfl rfl ?_
  refine g_aload_n 6 rfl rfl rfl ?_
  refine g_iconst (v := 0) 7 rfl rfl rfl ?_
  refine g_putI 10 rfl ha (Nat.le_of_ble_eq_true rfl) (Nat.le_of_ble_eq_true rfl) rfl fs_2_4 rfl ?_
  refine g_iconst (v := 0) 11 rfl rfl rfl ?_
  refine g_istore 13 [(4, .int 0), (3, .int (U.1 a 2)), (0, .ref a), (1, .int x1), (2, .int x2)] rfl (Nat.le_of_ble_eq_true rfl) rfl rfl ?_
  exact g_sub (Sc rfl (Sc rfl (Sc rfl (Sc rfl (Sc rfl (Sn _)))))) (F_28_13 d _ a ha x1 x2 (U.1 a 2) 0 _ _ _ h)

def f_101 (a : Nat) (x1 : Int32) (x2 : Int32) (U : sU) : sU :=
  if 12 ≤ (U.1 a 2) then
    U
  else
    sI (iput (a + 3) ((iput (a + 1) (U.1 a 2) x1 U).1 a 2) x2 (iput (a + 1) (U.1 a 2) x1 U)) a 2 (((iput (a + 3) ((iput (a + 1) (U.1 a 2) x1 U).1 a 2) x2 (iput (a + 1) (U.1 a 2) x1 U)).1 a 2) + 1)
set_option maxRecDepth 10000 in
set_option maxHeartbeats 2000000 in
theorem F_101 (d : Nat) (a : Nat) (ha : sh a = 8) (x1 : Int32) (x2 : Int32) (U : sU) : Rn (d + 1) sm_I101 [.ref a, .int x1, .int x2] U none (f_101 a x1 x2 U) := by
  refine Rn_of [(0, .ref a), (1, .int x1), (2, .int x2)] (Nat.le_of_ble_eq_true rfl) (Sc rfl (Sc rfl (Sc rfl (Sn _)))) ?_
  generalize h : f_101 a x1 x2 U = U'
  first | rw [f_101] at h | rw [f_101.eq_def] at h
  refine g_aload_n 1 rfl rfl rfl ?_
  refine g_get 4 rfl ha (Nat.le_of_ble_eq_true rfl) rfl rfl ?_
  refine g_bipush (v := 12) 6 rfl (by decide) rfl ?_
  refine g_icmp_ge 43 9 rfl rfl (fun c1 => ?_) (fun c1 => ?_)
  · rw [if_pos c1] at h
    subst h
    exact g_vret rfl rfl
  · rw [if_neg c1] at h
    refine g_aload_n 10 rfl rfl rfl ?_
    refine g_get 13 rfl ha (Nat.le_of_ble_eq_true rfl) rfl rfl ?_
    refine g_aload_n 14 rfl rfl rfl ?_
    refine g_get 17 rfl ha (Nat.le_of_ble_eq_true rfl) rfl rfl ?_
    refine g_iload_n 18 rfl rfl rfl ?_
    refine g_callV (J := sm_I10) 21 rfl (Nat.le_of_ble_eq_true rfl) rfl rfl (Nat.le_of_ble_eq_true rfl) (sh_8_1 ha) (Nat.le_of_ble_eq_true rfl) (Nat.le_of_ble_eq_true rfl) rfl rfl (U_10 d (a + 1) (sh_8_1 ha) (U.1 a 2) x1 U) ?_
    refine g_aload_n 22 rfl rfl rfl ?_
    refine g_get 25 rfl ha (Nat.le_of_ble_eq_true rfl) rfl rfl ?_
    refine g_aload_n 26 rfl rfl rfl ?_
    refine g_get 29 rfl ha (Nat.le_of_ble_eq_true rfl) rfl rfl ?_
    refine g_iload_n 30 rfl rfl rfl ?_
    refine g_callV (J := sm_I10) 33 rfl (Nat.le_of_ble_eq_true rfl) rfl rfl (Nat.le_of_ble_eq_true rfl) (sh_8_3 ha) (Nat.le_of_ble_eq_true rfl) (Nat.le_of_ble_eq_true rfl) rfl rfl (U_10 d (a + 3) (sh_8_3 ha) ((iput (a + 1) (U.1 a 2) x1 U).1 a 2) x2 (iput (a + 1) (U.1 a 2) x1 U)) ?_
    refine g_aload_n 34 rfl rfl rfl ?_
    refine g_dup 35 rfl rfl rfl ?_
    refine g_get 38 rfl ha (Nat.le_of_ble_eq_true rfl) rfl rfl ?_
    refine g_iconst (v := 1) 39 rfl rfl rfl ?_
    refine g_iadd 40 rfl rfl ?_
    refine g_putI 43 rfl ha (Nat.le_of_ble_eq_true rfl) (Nat.le_of_ble_eq_true rfl) rfl fs_8_2 rfl ?_
    subst h
    exact g_vret rfl rfl

def f_21_26 (a : Nat) (v1 : Nat) (z0 : Int32) (U : sU) : Option (Int32 × sU) :=
  Option.bind (f_28 a z0 999 U) fun q1 =>
  if q1.1 = 0 then
    some (0, q1.2)
  else
    if (f_16 a 42 q1.2) = 0 then
      some (1, f_101 v1 ((q1.2).1 a 4) 1 q1.2)
    else
      Option.bind (f_28 a 1 99 (sI q1.2 a 2 (((q1.2).1 a 2) + 1))) fun q6 =>
      if q6.1 = 0 then
        some (0, q6.2)
      else
        some (1, f_101 v1 ((q1.2).1 a 4) ((q6.2).1 a 4) q6.2)
set_option maxRecDepth 10000 in
set_option maxHeartbeats 2000000 in
theorem F_21_26 (d : Nat)   (a : Nat) (ha : sh a = 2) (v1 : Nat) (hv1 : sh v1 = 8) (z0 : Int32) {U : sU} {r : Int32} {U' : sU} (h : f_21_26 a v1 z0 U = some (r, U')) : G (d + 2) sm_I21 26 [(0, .ref a), (1, .ref v1)] [.int z0] U (some (.int r)) U' := by
  first | rw [f_21_26] at h | rw [f_21_26.eq_def] at h
  refine g_istore_n 27 [(2, .int z0), (0, .ref a), (1, .ref v1)] rfl (Nat.le_of_ble_eq_true rfl) rfl rfl ?_
  refine g_aload_n 28 rfl rfl rfl ?_
  refine g_iload_n 29 rfl rfl rfl ?_
  refine g_sipush (v := 999) 32 rfl (by decide) rfl ?_
  obtain ⟨q1, hq1, h⟩ := Option.bind_eq_some_iff.mp h
  have r2 := (F_28 d a ha z0 999 hq1)
  refine g_callV (J := sm_I28) 35 rfl (Nat.le_of_ble_eq_true rfl) rfl rfl (Nat.le_of_ble_eq_true rfl) ha (Nat.le_of_ble_eq_true rfl) (Nat.le_of_ble_eq_true rfl) rfl rfl r2 ?_
  refine g_if_ne 40 38 rfl rfl (fun c3 => ?_) (fun c3 => ?_)
  · rw [if_neg c3] at h
    refine g_aload_n 41 rfl rfl rfl ?_
    refine g_get 44 rfl ha (Nat.le_of_ble_eq_true rfl) rfl rfl ?_
    refine g_istore_n 45 [(3, .int ((q1.2).1 a 4)), (2, .int z0), (0, .ref a), (1, .ref v1)] rfl (Nat.le_of_ble_eq_true rfl) rfl rfl ?_
    refine g_iconst (v := 1) 46 rfl rfl rfl ?_
    refine g_istore 48 [(4, .int 1), (3, .int ((q1.2).1 a 4)), (2, .int z0), (0, .ref a), (1, .ref v1)] rfl (Nat.le_of_ble_eq_true rfl) rfl rfl ?_
    refine g_aload_n 49 rfl rfl rfl ?_
    refine g_bipush (v := 42) 51 rfl (by decide) rfl ?_
    have r4 := F_16 d a ha 42 q1.2
    refine g_callV (J := sm_I16) 54 rfl (Nat.le_of_ble_eq_true rfl) rfl rfl (Nat.le_of_ble_eq_true rfl) ha (Nat.le_of_ble_eq_true rfl) (Nat.le_of_ble_eq_true rfl) rfl rfl r4 ?_
    refine g_if_eq 85 57 rfl rfl (fun c5 => ?_) (fun c5 => ?_)
    · rw [if_pos c5] at h
      refine g_aload_n 86 rfl rfl rfl ?_
      refine g_iload_n 87 rfl rfl rfl ?_
      refine g_iload 89 rfl rfl rfl ?_
      refine g_callV (J := sm_I101) 92 rfl (Nat.le_of_ble_eq_true rfl) rfl rfl (Nat.le_of_ble_eq_true rfl) hv1 (Nat.le_of_ble_eq_true rfl) (Nat.le_of_ble_eq_true rfl) rfl rfl (F_101 d v1 hv1 ((q1.2).1 a 4) 1 q1.2) ?_
      refine g_iconst (v := 1) 93 rfl rfl rfl ?_
      cases h
      exact g_zret rfl rfl (Or.inr rfl)
    · rw [if_neg c5] at h
      refine g_aload_n 58 rfl rfl rfl ?_
      refine g_dup 59 rfl rfl rfl ?_
      refine g_get 62 rfl ha (Nat.le_of_ble_eq_true rfl) rfl rfl ?_
      refine g_iconst (v := 1) 63 rfl rfl rfl ?_
      refine g_iadd 64 rfl rfl ?_
      refine g_putI 67 rfl ha (Nat.le_of_ble_eq_true rfl) (Nat.le_of_ble_eq_true rfl) rfl fs_2_2 rfl ?_
      refine g_aload_n 68 rfl rfl rfl ?_
      refine g_iconst (v := 1) 69 rfl rfl rfl ?_
      refine g_bipush (v := 99) 71 rfl (by decide) rfl ?_
      obtain ⟨q6, hq6, h⟩ := Option.bind_eq_some_iff.mp h
      have r7 := (F_28 d a ha 1 99 hq6)
      refine g_callV (J := sm_I28) 74 rfl (Nat.le_of_ble_eq_true rfl) rfl rfl (Nat.le_of_ble_eq_true rfl) ha (Nat.le_of_ble_eq_true rfl) (Nat.le_of_ble_eq_true rfl) rfl rfl r7 ?_
      refine g_if_ne 79 77 rfl rfl (fun c8 => ?_) (fun c8 => ?_)
      · rw [if_neg c8] at h
        refine g_aload_n 80 rfl rfl rfl ?_
        refine g_get 83 rfl ha (Nat.le_of_ble_eq_true rfl) rfl rfl ?_
        refine g_istore 85 [(4, .int ((q6.2).1 a 4)), (3, .int ((q1.2).1 a 4)), (2, .int z0), (0, .ref a), (1, .ref v1)] rfl (Nat.le_of_ble_eq_true rfl) rfl rfl ?_
        refine g_aload_n 86 rfl rfl rfl ?_
        refine g_iload_n 87 rfl rfl rfl ?_
        refine g_iload 89 rfl rfl rfl ?_
        refine g_callV (J := sm_I101) 92 rfl (Nat.le_of_ble_eq_true rfl) rfl rfl (Nat.le_of_ble_eq_true rfl) hv1 (Nat.le_of_ble_eq_true rfl) (Nat.le_of_ble_eq_true rfl) rfl rfl (F_101 d v1 hv1 ((q1.2).1 a 4) ((q6.2).1 a 4) q6.2) ?_
        refine g_iconst (v := 1) 93 rfl rfl rfl ?_
        cases h
        exact g_zret rfl rfl (Or.inr rfl)
      · rw [if_pos c8] at h
        refine g_iconst (v := 0) 78 rfl rfl rfl ?_
        cases h
        exact g_zret rfl rfl (Or.inl rfl)
  · rw [if_pos c3] at h
    refine g_iconst (v := 0) 39 rfl rfl rfl ?_
    cases h
    exact g_zret rfl rfl (Or.inl rfl)
def f_21 (a : Nat) (x1 : Nat) (U : sU) : Option (Int32 × sU) :=
  if (U.1 x1 2) = 0 then
    f_21_26 a x1 0 U
  else
    f_21_26 a x1 ((iget (x1 + 1) ((U.1 x1 2) - 1) U) + 1) U
set_option maxRecDepth 10000 in
set_option maxHeartbeats 2000000 in
theorem F_21 (d : Nat) (a : Nat) (ha : sh a = 2) (x1 : Nat) (hx1 : sh x1 = 8) {U : sU} {r : Int32} {U' : sU} (h : f_21 a x1 U = some (r, U')) : Rn (d + 2) sm_I21 [.ref a, .ref x1] U (some (.int r)) U' := by
  refine Rn_of [(0, .ref a), (1, .ref x1)] (Nat.le_of_ble_eq_true rfl) (Sc rfl (Sc rfl (Sn _))) ?_
  first | rw [f_21] at h | rw [f_21.eq_def] at h
  refine g_aload_n 1 rfl rfl rfl ?_
  refine g_get 4 rfl hx1 (Nat.le_of_ble_eq_true rfl) rfl rfl ?_
  refine g_if_ne 11 7 rfl rfl (fun c9 => ?_) (fun c9 => ?_)
  · rw [if_neg c9] at h
    refine g_aload_n 12 rfl rfl rfl ?_
    refine g_get 15 rfl hx1 (Nat.le_of_ble_eq_true rfl) rfl rfl ?_
    refine g_aload_n 16 rfl rfl rfl ?_
    refine g_get 19 rfl hx1 (Nat.le_of_ble_eq_true rfl) rfl rfl ?_
    refine g_iconst (v := 1) 20 rfl rfl rfl ?_
    refine g_isub 21 rfl rfl ?_
    refine g_callV (J := sm_I9) 24 rfl (Nat.le_of_ble_eq_true rfl) rfl rfl (Nat.le_of_ble_eq_true rfl) (sh_8_1 hx1) (Nat.le_of_ble_eq_true rfl) (Nat.le_of_ble_eq_true rfl) rfl rfl (U_9 (d + 1) (x1 + 1) (sh_8_1 hx1) ((U.1 x1 2) - 1) U) ?_
    refine g_iconst (v := 1) 25 rfl rfl rfl ?_
    refine g_iadd 26 rfl rfl ?_
    exact g_sub (Sc rfl (Sc rfl (Sn _))) (F_21_26 d a ha x1 hx1 ((iget (x1 + 1) ((U.1 x1 2) - 1) U) + 1) h)
  · rw [if_pos c9] at h
    refine g_iconst (v := 0) 8 rfl rfl rfl ?_
    refine g_goto 26 rfl ?_
    exact g_sub (Sc rfl (Sc rfl (Sn _))) (F_21_26 d a ha x1 hx1 0 h)

def f_20_8 : Nat → Nat → Nat → Int32 → Int32 → sU → Option (Int32 × sU)
  | 0, _, _, _, _, _ => none
  | n + 1, a, v1, v2, v3, U =>
    if v2 = 0 then
      if v2 = 0 ∨ v2 = 1 then some (v2, U) else none
    else
      if 12 ≤ v3 then
        if v2 = 0 ∨ v2 = 1 then some (v2, U) else none
      else
        if (f_16 a 44 U) = 0 then
          if v2 = 0 ∨ v2 = 1 then some (v2, U) else none
        else
          Option.bind (f_21 a v1 (sI U a 2 ((U.1 a 2) + 1))) fun q5 =>
          f_20_8 n a v1 q5.1 (v3 + 1) q5.2
set_option maxRecDepth 10000 in
set_option maxHeartbeats 2000000 in
theorem F_20_8 (d : Nat)   : ∀ (n : Nat) (a : Nat) (ha : sh a = 2) (v1 : Nat) (hv1 : sh v1 = 8) (v2 : Int32) (v3 : Int32) (U : sU) (r : Int32) (U' : sU), f_20_8 n a v1 v2 v3 U = some (r, U') → G (d + 3) sm_I20 8 [(0, .ref a), (1, .ref v1), (2, .int v2), (3, .int v3)] [] U (some (.int r)) U' := by
  intro n
  induction n with
  | zero => intro a ha v1 hv1 v2 v3 U r U' h; cases h
  | succ n ih =>
    intro a ha v1 hv1 v2 v3 U r U' h
    first | rw [f_20_8] at h | (rw [f_20_8.eq_def] at h; dsimp only at h)
    refine g_iload_n 9 rfl rfl rfl ?_
    refine g_if_eq 49 12 rfl rfl (fun c1 => ?_) (fun c1 => ?_)
    · rw [if_pos c1] at h
      refine g_iload_n 50 rfl rfl rfl ?_
      by_cases hz : v2 = 0 ∨ v2 = 1
      · rw [if_pos hz] at h
        cases h
        exact g_zret rfl rfl hz
      · rw [if_neg hz] at h; cases h
    · rw [if_neg c1] at h
      refine g_iload_n 13 rfl rfl rfl ?_
      refine g_bipush (v := 12) 15 rfl (by decide) rfl ?_
      refine g_icmp_ge 49 18 rfl rfl (fun c2 => ?_) (fun c2 => ?_)
      · rw [if_pos c2] at h
        refine g_iload_n 50 rfl rfl rfl ?_
        by_cases hz : v2 = 0 ∨ v2 = 1
        · rw [if_pos hz] at h
          cases h
          exact g_zret rfl rfl hz
        · rw [if_neg hz] at h; cases h
      · rw [if_neg c2] at h
        refine g_aload_n 19 rfl rfl rfl ?_
        refine g_bipush (v := 44) 21 rfl (by decide) rfl ?_
        have r3 := F_16 (d + 1) a ha 44 U
        refine g_callV (J := sm_I16) 24 rfl (Nat.le_of_ble_eq_true rfl) rfl rfl (Nat.le_of_ble_eq_true rfl) ha (Nat.le_of_ble_eq_true rfl) (Nat.le_of_ble_eq_true rfl) rfl rfl r3 ?_
        refine g_if_eq 49 27 rfl rfl (fun c4 => ?_) (fun c4 => ?_)
        · rw [if_pos c4] at h
          refine g_iload_n 50 rfl rfl rfl ?_
          by_cases hz : v2 = 0 ∨ v2 = 1
          · rw [if_pos hz] at h
            cases h
            exact g_zret rfl rfl hz
          · rw [if_neg hz] at h; cases h
        · rw [if_neg c4] at h
          refine g_aload_n 28 rfl rfl rfl ?_
          refine g_dup 29 rfl rfl rfl ?_
          refine g_get 32 rfl ha (Nat.le_of_ble_eq_true rfl) rfl rfl ?_
          refine g_iconst (v := 1) 33 rfl rfl rfl ?_
          refine g_iadd 34 rfl rfl ?_
          refine g_putI 37 rfl ha (Nat.le_of_ble_eq_true rfl) (Nat.le_of_ble_eq_true rfl) rfl fs_2_2 rfl ?_
          refine g_aload_n 38 rfl rfl rfl ?_
          refine g_aload_n 39 rfl rfl rfl ?_
          obtain ⟨q5, hq5, h⟩ := Option.bind_eq_some_iff.mp h
          have r6 := (F_21 d a ha v1 hv1 hq5)
          refine g_callV (J := sm_I21) 42 rfl (Nat.le_of_ble_eq_true rfl) rfl rfl (Nat.le_of_ble_eq_true rfl) ha (Nat.le_of_ble_eq_true rfl) (Nat.le_of_ble_eq_true rfl) rfl rfl r6 ?_
          refine g_istore_n 43 [(2, .int q5.1), (0, .ref a), (1, .ref v1), (3, .int v3)] rfl (Nat.le_of_ble_eq_true rfl) rfl rfl ?_
          refine g_iinc (v := v3 + 1) 46 [(3, .int (v3 + 1)), (2, .int q5.1), (0, .ref a), (1, .ref v1)] rfl rfl (Nat.le_of_ble_eq_true rfl) rfl rfl rfl ?_
          refine g_goto 8 rfl ?_
          exact g_sub (Sc rfl (Sc rfl (Sc rfl (Sc rfl (Sn _))))) (ih a ha v1 hv1 q5.1 (v3 + 1) _ _ _ h)
def f_20 (a : Nat) (x1 : Nat) (U : sU) : Option (Int32 × sU) :=
  Option.bind (f_21 a x1 U) fun q7 =>
  f_20_8 FU a x1 q7.1 1 q7.2
set_option maxRecDepth 10000 in
set_option maxHeartbeats 2000000 in
theorem F_20 (d : Nat) (a : Nat) (ha : sh a = 2) (x1 : Nat) (hx1 : sh x1 = 8) {U : sU} {r : Int32} {U' : sU} (h : f_20 a x1 U = some (r, U')) : Rn (d + 3) sm_I20 [.ref a, .ref x1] U (some (.int r)) U' := by
  refine Rn_of [(0, .ref a), (1, .ref x1)] (Nat.le_of_ble_eq_true rfl) (Sc rfl (Sc rfl (Sn _))) ?_
  first | rw [f_20] at h | rw [f_20.eq_def] at h
  refine g_aload_n 1 rfl rfl rfl ?_
  refine g_aload_n 2 rfl rfl rfl ?_
  obtain ⟨q7, hq7, h⟩ := Option.bind_eq_some_iff.mp h
  have r8 := (F_21 d a ha x1 hx1 hq7)
  refine g_callV (J := sm_I21) 5 rfl (Nat.le_of_ble_eq_true rfl) rfl rfl (Nat.le_of_ble_eq_true rfl) ha (Nat.le_of_ble_eq_true rfl) (Nat.le_of_ble_eq_true rfl) rfl rfl r8 ?_
  refine g_istore_n 6 [(2, .int q7.1), (0, .ref a), (1, .ref x1)] rfl (Nat.le_of_ble_eq_true rfl) rfl rfl ?_
  refine g_iconst (v := 1) 7 rfl rfl rfl ?_
  refine g_istore_n 8 [(3, .int 1), (2, .int q7.1), (0, .ref a), (1, .ref x1)] rfl (Nat.le_of_ble_eq_true rfl) rfl rfl ?_
  exact g_sub (Sc rfl (Sc rfl (Sc rfl (Sc rfl (Sn _))))) (F_20_8 d _ a ha x1 hx1 q7.1 1 _ _ _ h)

def f_22 (a : Nat) (U : sU) : Nat :=
  if (f_16 a 119 U) = 0 then
    if (f_16 a 108 U) = 0 then
      1005
    else
      if (iget (a + 1) ((U.1 a 2) + 1) U) = 101 then
        1003
      else
        1004
  else
    if (iget (a + 1) ((U.1 a 2) + 1) U) = 105 then
      1001
    else
      1002
set_option maxRecDepth 10000 in
set_option maxHeartbeats 2000000 in
theorem F_22 (d : Nat) (a : Nat) (ha : sh a = 2) (U : sU) : Rn (d + 2) sm_I22 [.ref a] U (some (.ref (f_22 a U))) U := by
  refine Rn_of [(0, .ref a)] (Nat.le_of_ble_eq_true rfl) (Sc rfl (Sn _)) ?_
  generalize h : f_22 a U = r
  first | rw [f_22] at h | rw [f_22.eq_def] at h
  refine g_aload_n 1 rfl rfl rfl ?_
  refine g_get 4 rfl ha (Nat.le_of_ble_eq_true rfl) rfl rfl ?_
  refine g_aload_n 5 rfl rfl rfl ?_
  refine g_get 8 rfl ha (Nat.le_of_ble_eq_true rfl) rfl rfl ?_
  refine g_iconst (v := 1) 9 rfl rfl rfl ?_
  refine g_iadd 10 rfl rfl ?_
  refine g_callV (J := sm_I9) 13 rfl (Nat.le_of_ble_eq_true rfl) rfl rfl (Nat.le_of_ble_eq_true rfl) (sh_2_1 ha) (Nat.le_of_ble_eq_true rfl) (Nat.le_of_ble_eq_true rfl) rfl rfl (U_9 (d + 1) (a + 1) (sh_2_1 ha) ((U.1 a 2) + 1) U) ?_
  refine g_istore_n 14 [(1, .int (iget (a + 1) ((U.1 a 2) + 1) U)), (0, .ref a)] rfl (Nat.le_of_ble_eq_true rfl) rfl rfl ?_
  refine g_aload_n 15 rfl rfl rfl ?_
  refine g_bipush (v := 119) 17 rfl (by decide) rfl ?_
  have r1 := F_16 d a ha 119 U
  refine g_callV (J := sm_I16) 20 rfl (Nat.le_of_ble_eq_true rfl) rfl rfl (Nat.le_of_ble_eq_true rfl) ha (Nat.le_of_ble_eq_true rfl) (Nat.le_of_ble_eq_true rfl) rfl rfl r1 ?_
  refine g_if_eq 37 23 rfl rfl (fun c2 => ?_) (fun c2 => ?_)
  · rw [if_pos c2] at h
    refine g_aload_n 38 rfl rfl rfl ?_
    refine g_bipush (v := 108) 40 rfl (by decide) rfl ?_
    have r3 := F_16 d a ha 108 U
    refine g_callV (J := sm_I16) 43 rfl (Nat.le_of_ble_eq_true rfl) rfl rfl (Nat.le_of_ble_eq_true rfl) ha (Nat.le_of_ble_eq_true rfl) (Nat.le_of_ble_eq_true rfl) rfl rfl r3 ?_
    refine g_if_eq 60 46 rfl rfl (fun c4 => ?_) (fun c4 => ?_)
    · rw [if_pos c4] at h
      refine g_ldcS 62 rfl (Nat.le_of_ble_eq_true rfl) rfl ?_
      subst h
      exact g_aret (x := some 1005) rfl rfl
    · rw [if_neg c4] at h
      refine g_iload_n 47 rfl rfl rfl ?_
      refine g_bipush (v := 101) 49 rfl (by decide) rfl ?_
      refine g_icmp_ne 57 52 rfl rfl (fun c5 => ?_) (fun c5 => ?_)
      · rw [if_neg c5] at h
        refine g_ldcS 59 rfl (Nat.le_of_ble_eq_true rfl) rfl ?_
        subst h
        exact g_aret (x := some 1004) rfl rfl
      · rw [if_pos c5] at h
        refine g_ldcS 54 rfl (Nat.le_of_ble_eq_true rfl) rfl ?_
        refine g_goto 59 rfl ?_
        subst h
        exact g_aret (x := some 1003) rfl rfl
  · rw [if_neg c2] at h
    refine g_iload_n 24 rfl rfl rfl ?_
    refine g_bipush (v := 105) 26 rfl (by decide) rfl ?_
    refine g_icmp_ne 34 29 rfl rfl (fun c6 => ?_) (fun c6 => ?_)
    · rw [if_neg c6] at h
      refine g_ldcS 36 rfl (Nat.le_of_ble_eq_true rfl) rfl ?_
      subst h
      exact g_aret (x := some 1002) rfl rfl
    · rw [if_pos c6] at h
      refine g_ldcS 31 rfl (Nat.le_of_ble_eq_true rfl) rfl ?_
      refine g_goto 36 rfl ?_
      subst h
      exact g_aret (x := some 1001) rfl rfl
theorem tag_22 {a : Nat} {U : sU} {r : Nat} (h : f_22 a U = r) : 1000 ≤ r ∧ r < 1006 := by
  rw [f_22] at h
  (repeat' split at h) <;> (subst h; decide)

def f_24 (a : Nat) (x1 : Nat) (U : sU) : Option (Int32 × sU) :=
  Option.bind (f_28 a 1 12 U) fun q1 =>
  if q1.1 = 0 then
    some (0, q1.2)
  else
    some (1, sI q1.2 x1 5 ((q1.2).1 a 4))
set_option maxRecDepth 10000 in
set_option maxHeartbeats 2000000 in
theorem F_24 (d : Nat) (a : Nat) (ha : sh a = 2) (x1 : Nat) (hx1 : sh x1 = 8) {U : sU} {r : Int32} {U' : sU} (h : f_24 a x1 U = some (r, U')) : Rn (d + 2) sm_I24 [.ref a, .ref x1] U (some (.int r)) U' := by
  refine Rn_of [(0, .ref a), (1, .ref x1)] (Nat.le_of_ble_eq_true rfl) (Sc rfl (Sc rfl (Sn _))) ?_
  first | rw [f_24] at h | rw [f_24.eq_def] at h
  refine g_aload_n 1 rfl rfl rfl ?_
  refine g_iconst (v := 1) 2 rfl rfl rfl ?_
  refine g_bipush (v := 12) 4 rfl (by decide) rfl ?_
  obtain ⟨q1, hq1, h⟩ := Option.bind_eq_some_iff.mp h
  have r2 := (F_28 d a ha 1 12 hq1)
  refine g_callV (J := sm_I28) 7 rfl (Nat.le_of_ble_eq_true rfl) rfl rfl (Nat.le_of_ble_eq_true rfl) ha (Nat.le_of_ble_eq_true rfl) (Nat.le_of_ble_eq_true rfl) rfl rfl r2 ?_
  refine g_if_ne 12 10 rfl rfl (fun c3 => ?_) (fun c3 => ?_)
  · rw [if_neg c3] at h
    refine g_aload_n 13 rfl rfl rfl ?_
    refine g_aload_n 14 rfl rfl rfl ?_
    refine g_get 17 rfl ha (Nat.le_of_ble_eq_true rfl) rfl rfl ?_
    refine g_putI 20 rfl hx1 (Nat.le_of_ble_eq_true rfl) (Nat.le_of_ble_eq_true rfl) rfl fs_8_5 rfl ?_
    refine g_iconst (v := 1) 21 rfl rfl rfl ?_
    cases h
    exact g_zret rfl rfl (Or.inr rfl)
  · rw [if_pos c3] at h
    refine g_iconst (v := 0) 11 rfl rfl rfl ?_
    cases h
    exact g_zret rfl rfl (Or.inl rfl)

def f_25 (a : Nat) (x1 : Nat) (U : sU) : Int32 × sU :=
  if (f_16 a 97 U) = 0 then
    match f_18 a 115 (sI U x1 6 0) with
    | (q3, W4) =>
    (q3, W4)
  else
    (1, sI (sI U a 2 ((U.1 a 2) + 1)) x1 6 1)
set_option maxRecDepth 10000 in
set_option maxHeartbeats 2000000 in
theorem F_25 (d : Nat) (a : Nat) (ha : sh a = 2) (x1 : Nat) (hx1 : sh x1 = 8) (U : sU) : Rn (d + 3) sm_I25 [.ref a, .ref x1] U (some (.int (f_25 a x1 U).1)) (f_25 a x1 U).2 := by
  refine Rn_of [(0, .ref a), (1, .ref x1)] (Nat.le_of_ble_eq_true rfl) (Sc rfl (Sc rfl (Sn _))) ?_
  rcases h : f_25 a x1 U with ⟨r, U'⟩
  dsimp only
  first | rw [f_25] at h | rw [f_25.eq_def] at h
  refine g_aload_n 1 rfl rfl rfl ?_
  refine g_bipush (v := 97) 3 rfl (by decide) rfl ?_
  have r1 := F_16 (d + 1) a ha 97 U
  refine g_callV (J := sm_I16) 6 rfl (Nat.le_of_ble_eq_true rfl) rfl rfl (Nat.le_of_ble_eq_true rfl) ha (Nat.le_of_ble_eq_true rfl) (Nat.le_of_ble_eq_true rfl) rfl rfl r1 ?_
  refine g_if_eq 26 9 rfl rfl (fun c2 => ?_) (fun c2 => ?_)
  · rw [if_pos c2] at h
    refine g_aload_n 27 rfl rfl rfl ?_
    refine g_iconst (v := 0) 28 rfl rfl rfl ?_
    refine g_putI 31 rfl hx1 (Nat.le_of_ble_eq_true rfl) (Nat.le_of_ble_eq_true rfl) rfl fs_8_6 rfl ?_
    refine g_aload_n 32 rfl rfl rfl ?_
    refine g_bipush (v := 115) 34 rfl (by decide) rfl ?_
    have tq3 := F_18 d a ha 115 (sI U x1 6 0)
    rcases hq3 : f_18 a 115 (sI U x1 6 0) with ⟨q3, W4⟩
    rw [hq3] at h tq3
    dsimp only at h tq3
    refine g_callV (J := sm_I18) 37 rfl (Nat.le_of_ble_eq_true rfl) rfl rfl (Nat.le_of_ble_eq_true rfl) ha (Nat.le_of_ble_eq_true rfl) (Nat.le_of_ble_eq_true rfl) rfl rfl tq3 ?_
    cases h
    exact g_zret rfl rfl (Rn_z rfl tq3)
  · rw [if_neg c2] at h
    refine g_aload_n 10 rfl rfl rfl ?_
    refine g_dup 11 rfl rfl rfl ?_
    refine g_get 14 rfl ha (Nat.le_of_ble_eq_true rfl) rfl rfl ?_
    refine g_iconst (v := 1) 15 rfl rfl rfl ?_
    refine g_iadd 16 rfl rfl ?_
    refine g_putI 19 rfl ha (Nat.le_of_ble_eq_true rfl) (Nat.le_of_ble_eq_true rfl) rfl fs_2_2 rfl ?_
    refine g_aload_n 20 rfl rfl rfl ?_
    refine g_iconst (v := 1) 21 rfl rfl rfl ?_
    refine g_putI 24 rfl hx1 (Nat.le_of_ble_eq_true rfl) (Nat.le_of_ble_eq_true rfl) rfl fs_8_6 rfl ?_
    refine g_iconst (v := 1) 25 rfl rfl rfl ?_
    cases h
    exact g_zret rfl rfl (Or.inr rfl)

def f_27_21 (a : Nat) (v1 : Int32) (U : sU) : Option (Int32 × sU) :=
  Option.bind (f_28 a 0 500 U) fun q1 =>
  if q1.1 = 0 then
    some (0, q1.2)
  else
    if v1 = 0 then
      some (1, sI q1.2 a 4 ((q1.2).1 a 4))
    else
      some (1, sI q1.2 a 4 (-((q1.2).1 a 4)))
set_option maxRecDepth 10000 in
set_option maxHeartbeats 2000000 in
theorem F_27_21 (d : Nat)   (a : Nat) (ha : sh a = 2) (v1 : Int32) {U : sU} {r : Int32} {U' : sU} (h : f_27_21 a v1 U = some (r, U')) : G (d + 2) sm_I27 21 [(0, .ref a), (1, .int v1)] [] U (some (.int r)) U' := by
  first | rw [f_27_21] at h | rw [f_27_21.eq_def] at h
  refine g_aload_n 22 rfl rfl rfl ?_
  refine g_iconst (v := 0) 23 rfl rfl rfl ?_
  refine g_sipush (v := 500) 26 rfl (by decide) rfl ?_
  obtain ⟨q1, hq1, h⟩ := Option.bind_eq_some_iff.mp h
  have r2 := (F_28 d a ha 0 500 hq1)
  refine g_callV (J := sm_I28) 29 rfl (Nat.le_of_ble_eq_true rfl) rfl rfl (Nat.le_of_ble_eq_true rfl) ha (Nat.le_of_ble_eq_true rfl) (Nat.le_of_ble_eq_true rfl) rfl rfl r2 ?_
  refine g_if_ne 34 32 rfl rfl (fun c3 => ?_) (fun c3 => ?_)
  · rw [if_neg c3] at h
    refine g_aload_n 35 rfl rfl rfl ?_
    refine g_iload_n 36 rfl rfl rfl ?_
    refine g_if_eq 47 39 rfl rfl (fun c4 => ?_) (fun c4 => ?_)
    · rw [if_pos c4] at h
      refine g_aload_n 48 rfl rfl rfl ?_
      refine g_get 51 rfl ha (Nat.le_of_ble_eq_true rfl) rfl rfl ?_
      refine g_putI 54 rfl ha (Nat.le_of_ble_eq_true rfl) (Nat.le_of_ble_eq_true rfl) rfl fs_2_4 rfl ?_
      refine g_iconst (v := 1) 55 rfl rfl rfl ?_
      cases h
      exact g_zret rfl rfl (Or.inr rfl)
    · rw [if_neg c4] at h
      refine g_aload_n 40 rfl rfl rfl ?_
      refine g_get 43 rfl ha (Nat.le_of_ble_eq_true rfl) rfl rfl ?_
      refine g_ineg 44 rfl rfl ?_
      refine g_goto 51 rfl ?_
      refine g_putI 54 rfl ha (Nat.le_of_ble_eq_true rfl) (Nat.le_of_ble_eq_true rfl) rfl fs_2_4 rfl ?_
      refine g_iconst (v := 1) 55 rfl rfl rfl ?_
      cases h
      exact g_zret rfl rfl (Or.inr rfl)
  · rw [if_pos c3] at h
    refine g_iconst (v := 0) 33 rfl rfl rfl ?_
    cases h
    exact g_zret rfl rfl (Or.inl rfl)
def f_27 (a : Nat) (U : sU) : Option (Int32 × sU) :=
  if (f_16 a 45 U) = 0 then
    f_27_21 a (f_16 a 45 U) U
  else
    f_27_21 a (f_16 a 45 U) (sI U a 2 ((U.1 a 2) + 1))
set_option maxRecDepth 10000 in
set_option maxHeartbeats 2000000 in
theorem F_27 (d : Nat) (a : Nat) (ha : sh a = 2) {U : sU} {r : Int32} {U' : sU} (h : f_27 a U = some (r, U')) : Rn (d + 2) sm_I27 [.ref a] U (some (.int r)) U' := by
  refine Rn_of [(0, .ref a)] (Nat.le_of_ble_eq_true rfl) (Sc rfl (Sn _)) ?_
  first | rw [f_27] at h | rw [f_27.eq_def] at h
  refine g_aload_n 1 rfl rfl rfl ?_
  refine g_bipush (v := 45) 3 rfl (by decide) rfl ?_
  have r5 := F_16 d a ha 45 U
  refine g_callV (J := sm_I16) 6 rfl (Nat.le_of_ble_eq_true rfl) rfl rfl (Nat.le_of_ble_eq_true rfl) ha (Nat.le_of_ble_eq_true rfl) (Nat.le_of_ble_eq_true rfl) rfl rfl r5 ?_
  refine g_istore_n 7 [(1, .int (f_16 a 45 U)), (0, .ref a)] rfl (Nat.le_of_ble_eq_true rfl) rfl rfl ?_
  refine g_iload_n 8 rfl rfl rfl ?_
  refine g_if_eq 21 11 rfl rfl (fun c6 => ?_) (fun c6 => ?_)
  · rw [if_pos c6] at h
    exact g_sub (Sc rfl (Sc rfl (Sn _))) (F_27_21 d a ha (f_16 a 45 U) h)
  · rw [if_neg c6] at h
    refine g_aload_n 12 rfl rfl rfl ?_
    refine g_dup 13 rfl rfl rfl ?_
    refine g_get 16 rfl ha (Nat.le_of_ble_eq_true rfl) rfl rfl ?_
    refine g_iconst (v := 1) 17 rfl rfl rfl ?_
    refine g_iadd 18 rfl rfl ?_
    refine g_putI 21 rfl ha (Nat.le_of_ble_eq_true rfl) (Nat.le_of_ble_eq_true rfl) rfl fs_2_2 rfl ?_
    exact g_sub (Sc rfl (Sc rfl (Sn _))) (F_27_21 d a ha (f_16 a 45 U) h)

def f_26 (a : Nat) (x1 : Nat) (x2 : Int32) (U : sU) : Option (Int32 × sU) :=
  match f_18 a 32 U with
  | (q1, W2) =>
  if q1 = 0 then
    some (0, W2)
  else
    Option.bind (f_27 a W2) fun q4 =>
    if q4.1 = 0 then
      some (0, q4.2)
    else
      some (1, sI (sI (sI q4.2 x1 7 1) x1 8 x2) x1 9 ((sI (sI q4.2 x1 7 1) x1 8 x2).1 a 4))
set_option maxRecDepth 10000 in
set_option maxHeartbeats 2000000 in
theorem F_26 (d : Nat) (a : Nat) (ha : sh a = 2) (x1 : Nat) (hx1 : sh x1 = 8) (x2 : Int32) {U : sU} {r : Int32} {U' : sU} (h : f_26 a x1 x2 U = some (r, U')) : Rn (d + 3) sm_I26 [.ref a, .ref x1, .int x2] U (some (.int r)) U' := by
  refine Rn_of [(0, .ref a), (1, .ref x1), (2, .int x2)] (Nat.le_of_ble_eq_true rfl) (Sc rfl (Sc rfl (Sc rfl (Sn _)))) ?_
  first | rw [f_26] at h | rw [f_26.eq_def] at h
  refine g_aload_n 1 rfl rfl rfl ?_
  refine g_bipush (v := 32) 3 rfl (by decide) rfl ?_
  have tq1 := F_18 d a ha 32 U
  rcases hq1 : f_18 a 32 U with ⟨q1, W2⟩
  rw [hq1] at h tq1
  dsimp only at h tq1
  refine g_callV (J := sm_I18) 6 rfl (Nat.le_of_ble_eq_true rfl) rfl rfl (Nat.le_of_ble_eq_true rfl) ha (Nat.le_of_ble_eq_true rfl) (Nat.le_of_ble_eq_true rfl) rfl rfl tq1 ?_
  refine g_if_eq 16 9 rfl rfl (fun c3 => ?_) (fun c3 => ?_)
  · rw [if_pos c3] at h
    refine g_iconst (v := 0) 17 rfl rfl rfl ?_
    cases h
    exact g_zret rfl rfl (Or.inl rfl)
  · rw [if_neg c3] at h
    refine g_aload_n 10 rfl rfl rfl ?_
    obtain ⟨q4, hq4, h⟩ := Option.bind_eq_some_iff.mp h
    have r5 := (F_27 d a ha hq4)
    refine g_callV (J := sm_I27) 13 rfl (Nat.le_of_ble_eq_true rfl) rfl rfl (Nat.le_of_ble_eq_true rfl) ha (Nat.le_of_ble_eq_true rfl) (Nat.le_of_ble_eq_true rfl) rfl rfl r5 ?_
    refine g_if_ne 18 16 rfl rfl (fun c6 => ?_) (fun c6 => ?_)
    · rw [if_neg c6] at h
      refine g_aload_n 19 rfl rfl rfl ?_
      refine g_iconst (v := 1) 20 rfl rfl rfl ?_
      refine g_putZ 23 rfl hx1 (Nat.le_of_ble_eq_true rfl) (Nat.le_of_ble_eq_true rfl) rfl (Or.inr rfl) fs_8_7 rfl ?_
      refine g_aload_n 24 rfl rfl rfl ?_
      refine g_iload_n 25 rfl rfl rfl ?_
      refine g_putI 28 rfl hx1 (Nat.le_of_ble_eq_true rfl) (Nat.le_of_ble_eq_true rfl) rfl fs_8_8 rfl ?_
      refine g_aload_n 29 rfl rfl rfl ?_
      refine g_aload_n 30 rfl rfl rfl ?_
      refine g_get 33 rfl ha (Nat.le_of_ble_eq_true rfl) rfl rfl ?_
      refine g_putI 36 rfl hx1 (Nat.le_of_ble_eq_true rfl) (Nat.le_of_ble_eq_true rfl) rfl fs_8_9 rfl ?_
      refine g_iconst (v := 1) 37 rfl rfl rfl ?_
      cases h
      exact g_zret rfl rfl (Or.inr rfl)
    · rw [if_pos c6] at h
      refine g_iconst (v := 0) 17 rfl rfl rfl ?_
      cases h
      exact g_zret rfl rfl (Or.inl rfl)

def f_23 (a : Nat) (x1 : Nat) (U : sU) : Option (Int32 × sU) :=
  Option.bind (f_19 a (f_22 a U) U) fun q1 =>
  if q1.1 = 0 then
    some (0, q1.2)
  else
    match f_18 a 32 q1.2 with
    | (q4, W5) =>
    if q4 = 0 then
      some (0, W5)
    else
      if ((if (f_22 a U) = 1002 then (1 : Int32) else 0)) = 0 then
        if ((if (f_22 a U) = 1004 then (1 : Int32) else 0)) = 0 then
          Option.bind (f_27 a W5) fun q9 =>
          if q9.1 = 0 then
            some (0, q9.2)
          else
            if ((if (f_22 a U) = 1001 then (1 : Int32) else 0)) = 0 then
              if ((if (f_22 a U) = 1003 then (1 : Int32) else 0)) = 0 then
                Option.bind (f_26 a x1 ((q9.2).1 a 4) q9.2) fun q14 =>
                some (q14.1, q14.2)
              else
                some (1, sI q9.2 x1 4 ((q9.2).1 a 4))
            else
              some (1, sI q9.2 x1 3 ((q9.2).1 a 4))
        else
          match f_25 a x1 W5 with
          | (q16, W17) =>
          some (q16, W17)
      else
        Option.bind (f_24 a x1 W5) fun q18 =>
        some (q18.1, q18.2)
set_option maxRecDepth 10000 in
set_option maxHeartbeats 2000000 in
theorem F_23 (d : Nat) (a : Nat) (ha : sh a = 2) (x1 : Nat) (hx1 : sh x1 = 8) {U : sU} {r : Int32} {U' : sU} (h : f_23 a x1 U = some (r, U')) : Rn (d + 7) sm_I23 [.ref a, .ref x1] U (some (.int r)) U' := by
  refine Rn_of [(0, .ref a), (1, .ref x1)] (Nat.le_of_ble_eq_true rfl) (Sc rfl (Sc rfl (Sn _))) ?_
  first | rw [f_23] at h | rw [f_23.eq_def] at h
  refine g_aload_n 1 rfl rfl rfl ?_
  refine g_callV (J := sm_I22) 4 rfl (Nat.le_of_ble_eq_true rfl) rfl rfl (Nat.le_of_ble_eq_true rfl) ha (Nat.le_of_ble_eq_true rfl) (Nat.le_of_ble_eq_true rfl) rfl rfl (F_22 (d + 4) a ha U) ?_
  refine g_astore_n 5 [(2, .ref (f_22 a U)), (0, .ref a), (1, .ref x1)] rfl (Nat.le_of_ble_eq_true rfl) rfl rfl ?_
  refine g_aload_n 6 rfl rfl rfl ?_
  refine g_aload_n 7 rfl rfl rfl ?_
  obtain ⟨q1, hq1, h⟩ := Option.bind_eq_some_iff.mp h
  have r2 := (F_19 d a ha (f_22 a U) ⟨(tag_22 (r := f_22 a U) rfl).1, (tag_22 (r := f_22 a U) rfl).2⟩ hq1)
  refine g_callV (J := sm_I19) 10 rfl (Nat.le_of_ble_eq_true rfl) rfl rfl (Nat.le_of_ble_eq_true rfl) ha (Nat.le_of_ble_eq_true rfl) (Nat.le_of_ble_eq_true rfl) rfl rfl r2 ?_
  refine g_if_eq 22 13 rfl rfl (fun c3 => ?_) (fun c3 => ?_)
  · rw [if_pos c3] at h
    refine g_iconst (v := 0) 23 rfl rfl rfl ?_
    cases h
    exact g_zret rfl rfl (Or.inl rfl)
  · rw [if_neg c3] at h
    refine g_aload_n 14 rfl rfl rfl ?_
    refine g_bipush (v := 32) 16 rfl (by decide) rfl ?_
    have tq4 := F_18 (d + 4) a ha 32 q1.2
    rcases hq4 : f_18 a 32 q1.2 with ⟨q4, W5⟩
    rw [hq4] at h tq4
    dsimp only at h tq4
    refine g_callV (J := sm_I18) 19 rfl (Nat.le_of_ble_eq_true rfl) rfl rfl (Nat.le_of_ble_eq_true rfl) ha (Nat.le_of_ble_eq_true rfl) (Nat.le_of_ble_eq_true rfl) rfl rfl tq4 ?_
    refine g_if_ne 24 22 rfl rfl (fun c6 => ?_) (fun c6 => ?_)
    · rw [if_neg c6] at h
      refine g_aload_n 25 rfl rfl rfl ?_
      refine g_ldcS 27 rfl (Nat.le_of_ble_eq_true rfl) rfl ?_
      refine g_seq 30 rfl (Nat.le_add_left _ _) (Nat.le_of_ble_eq_true rfl) (tag_22 (r := f_22 a U) rfl).1 (tag_22 (r := f_22 a U) rfl).2 (Nat.le_of_ble_eq_true rfl) (Nat.le_of_ble_eq_true rfl) rfl ?_
      refine g_if_eq 39 33 rfl rfl (fun c7 => ?_) (fun c7 => ?_)
      · rw [if_pos c7] at h
        refine g_aload_n 40 rfl rfl rfl ?_
        refine g_ldcS 42 rfl (Nat.le_of_ble_eq_true rfl) rfl ?_
        refine g_seq 45 rfl (Nat.le_add_left _ _) (Nat.le_of_ble_eq_true rfl) (tag_22 (r := f_22 a U) rfl).1 (tag_22 (r := f_22 a U) rfl).2 (Nat.le_of_ble_eq_true rfl) (Nat.le_of_ble_eq_true rfl) rfl ?_
        refine g_if_eq 54 48 rfl rfl (fun c8 => ?_) (fun c8 => ?_)
        · rw [if_pos c8] at h
          refine g_aload_n 55 rfl rfl rfl ?_
          obtain ⟨q9, hq9, h⟩ := Option.bind_eq_some_iff.mp h
          have r10 := (F_27 (d + 4) a ha hq9)
          refine g_callV (J := sm_I27) 58 rfl (Nat.le_of_ble_eq_true rfl) rfl rfl (Nat.le_of_ble_eq_true rfl) ha (Nat.le_of_ble_eq_true rfl) (Nat.le_of_ble_eq_true rfl) rfl rfl r10 ?_
          refine g_if_ne 63 61 rfl rfl (fun c11 => ?_) (fun c11 => ?_)
          · rw [if_neg c11] at h
            refine g_aload_n 64 rfl rfl rfl ?_
            refine g_get 67 rfl ha (Nat.le_of_ble_eq_true rfl) rfl rfl ?_
            refine g_istore_n 68 [(3, .int ((q9.2).1 a 4)), (2, .ref (f_22 a U)), (0, .ref a), (1, .ref x1)] rfl (Nat.le_of_ble_eq_true rfl) rfl rfl ?_
            refine g_aload_n 69 rfl rfl rfl ?_
            refine g_ldcS 71 rfl (Nat.le_of_ble_eq_true rfl) rfl ?_
            refine g_seq 74 rfl (Nat.le_add_left _ _) (Nat.le_of_ble_eq_true rfl) (tag_22 (r := f_22 a U) rfl).1 (tag_22 (r := f_22 a U) rfl).2 (Nat.le_of_ble_eq_true rfl) (Nat.le_of_ble_eq_true rfl) rfl ?_
            refine g_if_eq 84 77 rfl rfl (fun c12 => ?_) (fun c12 => ?_)
            · rw [if_pos c12] at h
              refine g_aload_n 85 rfl rfl rfl ?_
              refine g_ldcS 87 rfl (Nat.le_of_ble_eq_true rfl) rfl ?_
              refine g_seq 90 rfl (Nat.le_add_left _ _) (Nat.le_of_ble_eq_true rfl) (tag_22 (r := f_22 a U) rfl).1 (tag_22 (r := f_22 a U) rfl).2 (Nat.le_of_ble_eq_true rfl) (Nat.le_of_ble_eq_true rfl) rfl ?_
              refine g_if_eq 100 93 rfl rfl (fun c13 => ?_) (fun c13 => ?_)
              · rw [if_pos c13] at h
                refine g_aload_n 101 rfl rfl rfl ?_
                refine g_aload_n 102 rfl rfl rfl ?_
                refine g_iload_n 103 rfl rfl rfl ?_
                obtain ⟨q14, hq14, h⟩ := Option.bind_eq_some_iff.mp h
                have r15 := (F_26 (d + 3) a ha x1 hx1 ((q9.2).1 a 4) hq14)
                refine g_callV (J := sm_I26) 106 rfl (Nat.le_of_ble_eq_true rfl) rfl rfl (Nat.le_of_ble_eq_true rfl) ha (Nat.le_of_ble_eq_true rfl) (Nat.le_of_ble_eq_true rfl) rfl rfl r15 ?_
                cases h
                exact g_zret rfl rfl (Rn_z rfl r15)
              · rw [if_neg c13] at h
                refine g_aload_n 94 rfl rfl rfl ?_
                refine g_iload_n 95 rfl rfl rfl ?_
                refine g_putI 98 rfl hx1 (Nat.le_of_ble_eq_true rfl) (Nat.le_of_ble_eq_true rfl) rfl fs_8_4 rfl ?_
                refine g_iconst (v := 1) 99 rfl rfl rfl ?_
                cases h
                exact g_zret rfl rfl (Or.inr rfl)
            · rw [if_neg c12] at h
              refine g_aload_n 78 rfl rfl rfl ?_
              refine g_iload_n 79 rfl rfl rfl ?_
              refine g_putI 82 rfl hx1 (Nat.le_of_ble_eq_true rfl) (Nat.le_of_ble_eq_true rfl) rfl fs_8_3 rfl ?_
              refine g_iconst (v := 1) 83 rfl rfl rfl ?_
              cases h
              exact g_zret rfl rfl (Or.inr rfl)
          · rw [if_pos c11] at h
            refine g_iconst (v := 0) 62 rfl rfl rfl ?_
            cases h
            exact g_zret rfl rfl (Or.inl rfl)
        · rw [if_neg c8] at h
          refine g_aload_n 49 rfl rfl rfl ?_
          refine g_aload_n 50 rfl rfl rfl ?_
          have tq16 := F_25 (d + 3) a ha x1 hx1 W5
          rcases hq16 : f_25 a x1 W5 with ⟨q16, W17⟩
          rw [hq16] at h tq16
          dsimp only at h tq16
          refine g_callV (J := sm_I25) 53 rfl (Nat.le_of_ble_eq_true rfl) rfl rfl (Nat.le_of_ble_eq_true rfl) ha (Nat.le_of_ble_eq_true rfl) (Nat.le_of_ble_eq_true rfl) rfl rfl tq16 ?_
          cases h
          exact g_zret rfl rfl (Rn_z rfl tq16)
      · rw [if_neg c7] at h
        refine g_aload_n 34 rfl rfl rfl ?_
        refine g_aload_n 35 rfl rfl rfl ?_
        obtain ⟨q18, hq18, h⟩ := Option.bind_eq_some_iff.mp h
        have r19 := (F_24 (d + 4) a ha x1 hx1 hq18)
        refine g_callV (J := sm_I24) 38 rfl (Nat.le_of_ble_eq_true rfl) rfl rfl (Nat.le_of_ble_eq_true rfl) ha (Nat.le_of_ble_eq_true rfl) (Nat.le_of_ble_eq_true rfl) rfl rfl r19 ?_
        cases h
        exact g_zret rfl rfl (Rn_z rfl r19)
    · rw [if_pos c6] at h
      refine g_iconst (v := 0) 23 rfl rfl rfl ?_
      cases h
      exact g_zret rfl rfl (Or.inl rfl)

def f_99 (a : Nat) (U : sU) : sU :=
  sI (sI (sI (sI (sI (sI (sI (sI (iclr (a + 3) (iclr (a + 1) U)) a 2 0) a 3 0) a 4 0) a 5 12) a 6 0) a 7 0) a 8 0) a 9 0
set_option maxRecDepth 10000 in
set_option maxHeartbeats 2000000 in
theorem F_99 (d : Nat) (a : Nat) (ha : sh a = 8) (U : sU) : Rn (d + 1) sm_I99 [.ref a] U none (f_99 a U) := by
  refine Rn_of [(0, .ref a)] (Nat.le_of_ble_eq_true rfl) (Sc rfl (Sn _)) ?_
  generalize h : f_99 a U = U'
  first | rw [f_99] at h | rw [f_99.eq_def] at h
  refine g_aload_n 1 rfl rfl rfl ?_
  refine g_get 4 rfl ha (Nat.le_of_ble_eq_true rfl) rfl rfl ?_
  refine g_callV (J := sm_I11) 7 rfl (Nat.le_of_ble_eq_true rfl) rfl rfl (Nat.le_of_ble_eq_true rfl) (sh_8_1 ha) (Nat.le_of_ble_eq_true rfl) (Nat.le_of_ble_eq_true rfl) rfl rfl (U_11 d (a + 1) (sh_8_1 ha) U) ?_
  refine g_aload_n 8 rfl rfl rfl ?_
  refine g_get 11 rfl ha (Nat.le_of_ble_eq_true rfl) rfl rfl ?_
  refine g_callV (J := sm_I11) 14 rfl (Nat.le_of_ble_eq_true rfl) rfl rfl (Nat.le_of_ble_eq_true rfl) (sh_8_3 ha) (Nat.le_of_ble_eq_true rfl) (Nat.le_of_ble_eq_true rfl) rfl rfl (U_11 d (a + 3) (sh_8_3 ha) (iclr (a + 1) U)) ?_
  refine g_aload_n 15 rfl rfl rfl ?_
  refine g_iconst (v := 0) 16 rfl rfl rfl ?_
  refine g_putI 19 rfl ha (Nat.le_of_ble_eq_true rfl) (Nat.le_of_ble_eq_true rfl) rfl fs_8_2 rfl ?_
  refine g_aload_n 20 rfl rfl rfl ?_
  refine g_iconst (v := 0) 21 rfl rfl rfl ?_
  refine g_putI 24 rfl ha (Nat.le_of_ble_eq_true rfl) (Nat.le_of_ble_eq_true rfl) rfl fs_8_3 rfl ?_
  refine g_aload_n 25 rfl rfl rfl ?_
  refine g_iconst (v := 0) 26 rfl rfl rfl ?_
  refine g_putI 29 rfl ha (Nat.le_of_ble_eq_true rfl) (Nat.le_of_ble_eq_true rfl) rfl fs_8_4 rfl ?_
  refine g_aload_n 30 rfl rfl rfl ?_
  refine g_bipush (v := 12) 32 rfl (by decide) rfl ?_
  refine g_putI 35 rfl ha (Nat.le_of_ble_eq_true rfl) (Nat.le_of_ble_eq_true rfl) rfl fs_8_5 rfl ?_
  refine g_aload_n 36 rfl rfl rfl ?_
  refine g_iconst (v := 0) 37 rfl rfl rfl ?_
  refine g_putI 40 rfl ha (Nat.le_of_ble_eq_true rfl) (Nat.le_of_ble_eq_true rfl) rfl fs_8_6 rfl ?_
  refine g_aload_n 41 rfl rfl rfl ?_
  refine g_iconst (v := 0) 42 rfl rfl rfl ?_
  refine g_putZ 45 rfl ha (Nat.le_of_ble_eq_true rfl) (Nat.le_of_ble_eq_true rfl) rfl (Or.inl rfl) fs_8_7 rfl ?_
  refine g_aload_n 46 rfl rfl rfl ?_
  refine g_iconst (v := 0) 47 rfl rfl rfl ?_
  refine g_putI 50 rfl ha (Nat.le_of_ble_eq_true rfl) (Nat.le_of_ble_eq_true rfl) rfl fs_8_8 rfl ?_
  refine g_aload_n 51 rfl rfl rfl ?_
  refine g_iconst (v := 0) 52 rfl rfl rfl ?_
  refine g_putI 55 rfl ha (Nat.le_of_ble_eq_true rfl) (Nat.le_of_ble_eq_true rfl) rfl fs_8_9 rfl ?_
  subst h
  exact g_vret rfl rfl

def f_14_35 : Nat → Nat → Nat → Int32 → Int32 → sU → Option (Int32 × sU)
  | 0, _, _, _, _, _ => none
  | n + 1, a, v2, v3, v4, U =>
    if v3 = 0 then
      some (U.1 a 3, U)
    else
      if 64 ≤ v4 then
        some (U.1 a 3, U)
      else
        if (U.1 a 1) ≤ (U.1 a 2) then
          some (U.1 a 3, U)
        else
          match f_18 a 59 U with
          | (q4, W5) =>
          if q4 = 0 then
            f_14_35 n a v2 0 (v4 + 1) W5
          else
            Option.bind (f_23 a v2 W5) fun q7 =>
            if q7.1 = 0 then
              f_14_35 n a v2 0 (v4 + 1) q7.2
            else
              f_14_35 n a v2 1 (v4 + 1) q7.2
set_option maxRecDepth 10000 in
set_option maxHeartbeats 2000000 in
theorem F_14_35 (d : Nat)   : ∀ (n : Nat) (a : Nat) (ha : sh a = 2) (v2 : Nat) (hv2 : sh v2 = 8) (v3 : Int32) (v4 : Int32) (U : sU) (r : Int32) (U' : sU), f_14_35 n a v2 v3 v4 U = some (r, U') → G (d + 8) sm_I14 35 [(0, .ref a), (2, .ref v2), (3, .int v3), (4, .int v4)] [] U (some (.int r)) U' := by
  intro n
  induction n with
  | zero => intro a ha v2 hv2 v3 v4 U r U' h; cases h
  | succ n ih =>
    intro a ha v2 hv2 v3 v4 U r U' h
    first | rw [f_14_35] at h | (rw [f_14_35.eq_def] at h; dsimp only at h)
    refine g_iload_n 36 rfl rfl rfl ?_
    refine g_if_eq 86 39 rfl rfl (fun c1 => ?_) (fun c1 => ?_)
    · rw [if_pos c1] at h
      refine g_aload_n 87 rfl rfl rfl ?_
      refine g_get 90 rfl ha (Nat.le_of_ble_eq_true rfl) rfl rfl ?_
      cases h
      exact g_iret rfl rfl
    · rw [if_neg c1] at h
      refine g_iload 41 rfl rfl rfl ?_
      refine g_bipush (v := 64) 43 rfl (by decide) rfl ?_
      refine g_icmp_ge 86 46 rfl rfl (fun c2 => ?_) (fun c2 => ?_)
      · rw [if_pos c2] at h
        refine g_aload_n 87 rfl rfl rfl ?_
        refine g_get 90 rfl ha (Nat.le_of_ble_eq_true rfl) rfl rfl ?_
        cases h
        exact g_iret rfl rfl
      · rw [if_neg c2] at h
        refine g_aload_n 47 rfl rfl rfl ?_
        refine g_get 50 rfl ha (Nat.le_of_ble_eq_true rfl) rfl rfl ?_
        refine g_aload_n 51 rfl rfl rfl ?_
        refine g_get 54 rfl ha (Nat.le_of_ble_eq_true rfl) rfl rfl ?_
        refine g_icmp_ge 86 57 rfl rfl (fun c3 => ?_) (fun c3 => ?_)
        · rw [if_pos c3] at h
          refine g_aload_n 87 rfl rfl rfl ?_
          refine g_get 90 rfl ha (Nat.le_of_ble_eq_true rfl) rfl rfl ?_
          cases h
          exact g_iret rfl rfl
        · rw [if_neg c3] at h
          refine g_aload_n 58 rfl rfl rfl ?_
          refine g_bipush (v := 59) 60 rfl (by decide) rfl ?_
          have tq4 := F_18 (d + 5) a ha 59 U
          rcases hq4 : f_18 a 59 U with ⟨q4, W5⟩
          rw [hq4] at h tq4
          dsimp only at h tq4
          refine g_callV (J := sm_I18) 63 rfl (Nat.le_of_ble_eq_true rfl) rfl rfl (Nat.le_of_ble_eq_true rfl) ha (Nat.le_of_ble_eq_true rfl) (Nat.le_of_ble_eq_true rfl) rfl rfl tq4 ?_
          refine g_if_eq 78 66 rfl rfl (fun c6 => ?_) (fun c6 => ?_)
          · rw [if_pos c6] at h
            refine g_iconst (v := 0) 79 rfl rfl rfl ?_
            refine g_istore_n 80 [(3, .int 0), (0, .ref a), (2, .ref v2), (4, .int v4)] rfl (Nat.le_of_ble_eq_true rfl) rfl rfl ?_
            refine g_iinc (v := v4 + 1) 83 [(4, .int (v4 + 1)), (3, .int 0), (0, .ref a), (2, .ref v2)] rfl rfl (Nat.le_of_ble_eq_true rfl) rfl rfl rfl ?_
            refine g_goto 35 rfl ?_
            exact g_sub (Sc rfl (Sc rfl (Sc rfl (Sc rfl (Sn _))))) (ih a ha v2 hv2 0 (v4 + 1) _ _ _ h)
          · rw [if_neg c6] at h
            refine g_aload_n 67 rfl rfl rfl ?_
            refine g_aload_n 68 rfl rfl rfl ?_
            obtain ⟨q7, hq7, h⟩ := Option.bind_eq_some_iff.mp h
            have r8 := (F_23 d a ha v2 hv2 hq7)
            refine g_callV (J := sm_I23) 71 rfl (Nat.le_of_ble_eq_true rfl) rfl rfl (Nat.le_of_ble_eq_true rfl) ha (Nat.le_of_ble_eq_true rfl) (Nat.le_of_ble_eq_true rfl) rfl rfl r8 ?_
            refine g_if_eq 78 74 rfl rfl (fun c9 => ?_) (fun c9 => ?_)
            · rw [if_pos c9] at h
              refine g_iconst (v := 0) 79 rfl rfl rfl ?_
              refine g_istore_n 80 [(3, .int 0), (0, .ref a), (2, .ref v2), (4, .int v4)] rfl (Nat.le_of_ble_eq_true rfl) rfl rfl ?_
              refine g_iinc (v := v4 + 1) 83 [(4, .int (v4 + 1)), (3, .int 0), (0, .ref a), (2, .ref v2)] rfl rfl (Nat.le_of_ble_eq_true rfl) rfl rfl rfl ?_
              refine g_goto 35 rfl ?_
              exact g_sub (Sc rfl (Sc rfl (Sc rfl (Sc rfl (Sn _))))) (ih a ha v2 hv2 0 (v4 + 1) _ _ _ h)
            · rw [if_neg c9] at h
              refine g_iconst (v := 1) 75 rfl rfl rfl ?_
              refine g_goto 79 rfl ?_
              refine g_istore_n 80 [(3, .int 1), (0, .ref a), (2, .ref v2), (4, .int v4)] rfl (Nat.le_of_ble_eq_true rfl) rfl rfl ?_
              refine g_iinc (v := v4 + 1) 83 [(4, .int (v4 + 1)), (3, .int 1), (0, .ref a), (2, .ref v2)] rfl rfl (Nat.le_of_ble_eq_true rfl) rfl rfl rfl ?_
              refine g_goto 35 rfl ?_
              exact g_sub (Sc rfl (Sc rfl (Sc rfl (Sc rfl (Sn _))))) (ih a ha v2 hv2 1 (v4 + 1) _ _ _ h)
def f_14 (a : Nat) (x1 : Nat) (x2 : Nat) (U : sU) : Option (Int32 × sU) :=
  Option.bind (f_15 a x1 U) fun q10 =>
  Option.bind (f_19 a 1000 (f_99 x2 q10)) fun q11 =>
  if q11.1 = 0 then
    f_14_35 FU a x2 0 0 q11.2
  else
    Option.bind (f_20 a x2 q11.2) fun q14 =>
    if q14.1 = 0 then
      f_14_35 FU a x2 0 0 q14.2
    else
      f_14_35 FU a x2 1 0 q14.2
set_option maxRecDepth 10000 in
set_option maxHeartbeats 2000000 in
theorem F_14 (d : Nat) (a : Nat) (ha : sh a = 2) (x1 : Nat) (hx1 : sh x1 = 6) (x2 : Nat) (hx2 : sh x2 = 8) {U : sU} {r : Int32} {U' : sU} (h : f_14 a x1 x2 U = some (r, U')) : Rn (d + 8) sm_I14 [.ref a, .ref x1, .ref x2] U (some (.int r)) U' := by
  refine Rn_of [(0, .ref a), (1, .ref x1), (2, .ref x2)] (Nat.le_of_ble_eq_true rfl) (Sc rfl (Sc rfl (Sc rfl (Sn _)))) ?_
  first | rw [f_14] at h | rw [f_14.eq_def] at h
  refine g_aload_n 1 rfl rfl rfl ?_
  refine g_aload_n 2 rfl rfl rfl ?_
  obtain ⟨q10, hq10, h⟩ := Option.bind_eq_some_iff.mp h
  refine g_callV (J := sm_I15) 5 rfl (Nat.le_of_ble_eq_true rfl) rfl rfl (Nat.le_of_ble_eq_true rfl) ha (Nat.le_of_ble_eq_true rfl) (Nat.le_of_ble_eq_true rfl) rfl rfl (F_15 (d + 4) a ha x1 hx1 hq10) ?_
  refine g_aload_n 6 rfl rfl rfl ?_
  refine g_callV (J := sm_I99) 9 rfl (Nat.le_of_ble_eq_true rfl) rfl rfl (Nat.le_of_ble_eq_true rfl) hx2 (Nat.le_of_ble_eq_true rfl) (Nat.le_of_ble_eq_true rfl) rfl rfl (F_99 (d + 6) x2 hx2 q10) ?_
  refine g_aload_n 10 rfl rfl rfl ?_
  refine g_ldcS 12 rfl (Nat.le_of_ble_eq_true rfl) rfl ?_
  obtain ⟨q11, hq11, h⟩ := Option.bind_eq_some_iff.mp h
  have r12 := (F_19 (d + 1) a ha 1000 ⟨(Nat.le_of_ble_eq_true rfl), (Nat.le_of_ble_eq_true rfl)⟩ hq11)
  refine g_callV (J := sm_I19) 15 rfl (Nat.le_of_ble_eq_true rfl) rfl rfl (Nat.le_of_ble_eq_true rfl) ha (Nat.le_of_ble_eq_true rfl) (Nat.le_of_ble_eq_true rfl) rfl rfl r12 ?_
  refine g_if_eq 30 18 rfl rfl (fun c13 => ?_) (fun c13 => ?_)
  · rw [if_pos c13] at h
    refine g_iconst (v := 0) 31 rfl rfl rfl ?_
    refine g_istore_n 32 [(3, .int 0), (0, .ref a), (1, .ref x1), (2, .ref x2)] rfl (Nat.le_of_ble_eq_true rfl) rfl rfl ?_
    refine g_iconst (v := 0) 33 rfl rfl rfl ?_
    refine g_istore 35 [(4, .int 0), (3, .int 0), (0, .ref a), (1, .ref x1), (2, .ref x2)] rfl (Nat.le_of_ble_eq_true rfl) rfl rfl ?_
    exact g_sub (Sc rfl (Sc rfl (Sc rfl (Sc rfl (Sn _))))) (F_14_35 d _ a ha x2 hx2 0 0 _ _ _ h)
  · rw [if_neg c13] at h
    refine g_aload_n 19 rfl rfl rfl ?_
    refine g_aload_n 20 rfl rfl rfl ?_
    obtain ⟨q14, hq14, h⟩ := Option.bind_eq_some_iff.mp h
    have r15 := (F_20 (d + 4) a ha x2 hx2 hq14)
    refine g_callV (J := sm_I20) 23 rfl (Nat.le_of_ble_eq_true rfl) rfl rfl (Nat.le_of_ble_eq_true rfl) ha (Nat.le_of_ble_eq_true rfl) (Nat.le_of_ble_eq_true rfl) rfl rfl r15 ?_
    refine g_if_eq 30 26 rfl rfl (fun c16 => ?_) (fun c16 => ?_)
    · rw [if_pos c16] at h
      refine g_iconst (v := 0) 31 rfl rfl rfl ?_
      refine g_istore_n 32 [(3, .int 0), (0, .ref a), (1, .ref x1), (2, .ref x2)] rfl (Nat.le_of_ble_eq_true rfl) rfl rfl ?_
      refine g_iconst (v := 0) 33 rfl rfl rfl ?_
      refine g_istore 35 [(4, .int 0), (3, .int 0), (0, .ref a), (1, .ref x1), (2, .ref x2)] rfl (Nat.le_of_ble_eq_true rfl) rfl rfl ?_
      exact g_sub (Sc rfl (Sc rfl (Sc rfl (Sc rfl (Sn _))))) (F_14_35 d _ a ha x2 hx2 0 0 _ _ _ h)
    · rw [if_neg c16] at h
      refine g_iconst (v := 1) 27 rfl rfl rfl ?_
      refine g_goto 31 rfl ?_
      refine g_istore_n 32 [(3, .int 1), (0, .ref a), (1, .ref x1), (2, .ref x2)] rfl (Nat.le_of_ble_eq_true rfl) rfl rfl ?_
      refine g_iconst (v := 0) 33 rfl rfl rfl ?_
      refine g_istore 35 [(4, .int 0), (3, .int 1), (0, .ref a), (1, .ref x1), (2, .ref x2)] rfl (Nat.le_of_ble_eq_true rfl) rfl rfl ?_
      exact g_sub (Sc rfl (Sc rfl (Sc rfl (Sc rfl (Sn _))))) (F_14_35 d _ a ha x2 hx2 1 0 _ _ _ h)

def f_30 (a : Nat) (x1 : Int32) (x2 : Int32) (x3 : Int32) (U : sU) : sU :=
  sI (sI (sI (iclr (a + 3) (iclr (a + 1) U)) a 3 x1) a 2 x2) a 4 x3
set_option maxRecDepth 10000 in
set_option maxHeartbeats 2000000 in
theorem F_30 (d : Nat) (a : Nat) (ha : sh a = 3) (x1 : Int32) (x2 : Int32) (x3 : Int32) (U : sU) : Rn (d + 1) sm_I30 [.ref a, .int x1, .int x2, .int x3] U none (f_30 a x1 x2 x3 U) := by
  refine Rn_of [(0, .ref a), (1, .int x1), (2, .int x2), (3, .int x3)] (Nat.le_of_ble_eq_true rfl) (Sc rfl (Sc rfl (Sc rfl (Sc rfl (Sn _))))) ?_
  generalize h : f_30 a x1 x2 x3 U = U'
  first | rw [f_30] at h | rw [f_30.eq_def] at h
  refine g_aload_n 1 rfl rfl rfl ?_
  refine g_get 4 rfl ha (Nat.le_of_ble_eq_true rfl) rfl rfl ?_
  refine g_callV (J := sm_I11) 7 rfl (Nat.le_of_ble_eq_true rfl) rfl rfl (Nat.le_of_ble_eq_true rfl) (sh_3_1 ha) (Nat.le_of_ble_eq_true rfl) (Nat.le_of_ble_eq_true rfl) rfl rfl (U_11 d (a + 1) (sh_3_1 ha) U) ?_
  refine g_aload_n 8 rfl rfl rfl ?_
  refine g_get 11 rfl ha (Nat.le_of_ble_eq_true rfl) rfl rfl ?_
  refine g_callV (J := sm_I11) 14 rfl (Nat.le_of_ble_eq_true rfl) rfl rfl (Nat.le_of_ble_eq_true rfl) (sh_3_3 ha) (Nat.le_of_ble_eq_true rfl) (Nat.le_of_ble_eq_true rfl) rfl rfl (U_11 d (a + 3) (sh_3_3 ha) (iclr (a + 1) U)) ?_
  refine g_aload_n 15 rfl rfl rfl ?_
  refine g_iload_n 16 rfl rfl rfl ?_
  refine g_putI 19 rfl ha (Nat.le_of_ble_eq_true rfl) (Nat.le_of_ble_eq_true rfl) rfl fs_3_3 rfl ?_
  refine g_aload_n 20 rfl rfl rfl ?_
  refine g_iload_n 21 rfl rfl rfl ?_
  refine g_putI 24 rfl ha (Nat.le_of_ble_eq_true rfl) (Nat.le_of_ble_eq_true rfl) rfl fs_3_2 rfl ?_
  refine g_aload_n 25 rfl rfl rfl ?_
  refine g_iload_n 26 rfl rfl rfl ?_
  refine g_putI 29 rfl ha (Nat.le_of_ble_eq_true rfl) (Nat.le_of_ble_eq_true rfl) rfl fs_3_4 rfl ?_
  subst h
  exact g_vret rfl rfl

def f_31_2 : Nat → Nat → Nat → Int32 → Int32 → sU → Option sU
  | 0, _, _, _, _, _ => none
  | n + 1, a, v1, v2, v3, U =>
    if v2 ≤ v3 then
      some U
    else
      f_31_2 n a v1 v2 (v3 + 1) (iput (a + 1) v3 (f_88 v1 v3 U) U)
set_option maxRecDepth 10000 in
set_option maxHeartbeats 2000000 in
theorem F_31_2 (d : Nat)   : ∀ (n : Nat) (a : Nat) (ha : sh a = 3) (v1 : Nat) (hv1 : sh v1 = 6) (v2 : Int32) (v3 : Int32) (U : sU) (U' : sU), f_31_2 n a v1 v2 v3 U = some U' → G (d + 3) sm_I31 2 [(0, .ref a), (1, .ref v1), (2, .int v2), (3, .int v3)] [] U none U' := by
  intro n
  induction n with
  | zero => intro a ha v1 hv1 v2 v3 U U' h; cases h
  | succ n ih =>
    intro a ha v1 hv1 v2 v3 U U' h
    first | rw [f_31_2] at h | (rw [f_31_2.eq_def] at h; dsimp only at h)
    refine g_aload_n 3 rfl rfl rfl ?_
    refine g_ifnull 6 rfl rfl ?_
    refine g_iload_n 7 rfl rfl rfl ?_
    refine g_iload_n 8 rfl rfl rfl ?_
    refine g_icmp_ge 30 11 rfl rfl (fun c1 => ?_) (fun c1 => ?_)
    · rw [if_pos c1] at h
      cases h
      exact g_vret rfl rfl
    · rw [if_neg c1] at h
      refine g_aload_n 12 rfl rfl rfl ?_
      refine g_get 15 rfl ha (Nat.le_of_ble_eq_true rfl) rfl rfl ?_
      refine g_iload_n 16 rfl rfl rfl ?_
      refine g_aload_n 17 rfl rfl rfl ?_
      refine g_iload_n 18 rfl rfl rfl ?_
      refine g_callV (J := sm_I88) 21 rfl (Nat.le_of_ble_eq_true rfl) rfl rfl (Nat.le_of_ble_eq_true rfl) hv1 (Nat.le_of_ble_eq_true rfl) (Nat.le_of_ble_eq_true rfl) rfl rfl (F_88 d v1 hv1 v3 U) ?_
      refine g_callV (J := sm_I10) 24 rfl (Nat.le_of_ble_eq_true rfl) rfl rfl (Nat.le_of_ble_eq_true rfl) (sh_3_1 ha) (Nat.le_of_ble_eq_true rfl) (Nat.le_of_ble_eq_true rfl) rfl rfl (U_10 (d + 2) (a + 1) (sh_3_1 ha) v3 (f_88 v1 v3 U) U) ?_
      refine g_iinc (v := v3 + 1) 27 [(3, .int (v3 + 1)), (0, .ref a), (1, .ref v1), (2, .int v2)] rfl rfl (Nat.le_of_ble_eq_true rfl) rfl rfl rfl ?_
      refine g_goto 2 rfl ?_
      exact g_sub (Sc rfl (Sc rfl (Sc rfl (Sc rfl (Sn _))))) (ih a ha v1 hv1 v2 (v3 + 1) _ _ h)
def f_31 (a : Nat) (x1 : Nat) (x2 : Int32) (U : sU) : Option sU :=
  f_31_2 FU a x1 x2 0 U
set_option maxRecDepth 10000 in
set_option maxHeartbeats 2000000 in
theorem F_31 (d : Nat) (a : Nat) (ha : sh a = 3) (x1 : Nat) (hx1 : sh x1 = 6) (x2 : Int32) {U : sU} {U' : sU} (h : f_31 a x1 x2 U = some U') : Rn (d + 3) sm_I31 [.ref a, .ref x1, .int x2] U none U' := by
  refine Rn_of [(0, .ref a), (1, .ref x1), (2, .int x2)] (Nat.le_of_ble_eq_true rfl) (Sc rfl (Sc rfl (Sc rfl (Sn _)))) ?_
  first | rw [f_31] at h | rw [f_31.eq_def] at h
  refine g_iconst (v := 0) 1 rfl rfl rfl ?_
  refine g_istore_n 2 [(3, .int 0), (0, .ref a), (1, .ref x1), (2, .int x2)] rfl (Nat.le_of_ble_eq_true rfl) rfl rfl ?_
  exact g_sub (Sc rfl (Sc rfl (Sc rfl (Sc rfl (Sn _))))) (F_31_2 d _ a ha x1 hx1 x2 0 _ _ h)

def f_32_2 : Nat → Nat → Int32 → Int32 → Int32 → sU → Option sU
  | 0, _, _, _, _, _ => none
  | n + 1, a, v1, v2, v3, U =>
    if v2 ≤ v3 then
      some U
    else
      f_32_2 n a v1 v2 (v3 + 1) (iput (a + 1) v3 ((iget (a + 1) (v3 - 1) U) + ((v1 >>> ((v3 - 1) &&& 31)) &&& 1)) U)
set_option maxRecDepth 10000 in
set_option maxHeartbeats 2000000 in
theorem F_32_2 (d : Nat)   : ∀ (n : Nat) (a : Nat) (ha : sh a = 3) (v1 : Int32) (v2 : Int32) (v3 : Int32) (U : sU) (U' : sU), f_32_2 n a v1 v2 v3 U = some U' → G (d + 1) sm_I32 2 [(0, .ref a), (1, .int v1), (2, .int v2), (3, .int v3)] [] U none U' := by
  intro n
  induction n with
  | zero => intro a ha v1 v2 v3 U U' h; cases h
  | succ n ih =>
    intro a ha v1 v2 v3 U U' h
    first | rw [f_32_2] at h | (rw [f_32_2.eq_def] at h; dsimp only at h)
    refine g_iload_n 3 rfl rfl rfl ?_
    refine g_iload_n 4 rfl rfl rfl ?_
    refine g_icmp_ge 39 7 rfl rfl (fun c1 => ?_) (fun c1 => ?_)
    · rw [if_pos c1] at h
      cases h
      exact g_vret rfl rfl
    · rw [if_neg c1] at h
      refine g_aload_n 8 rfl rfl rfl ?_
      refine g_get 11 rfl ha (Nat.le_of_ble_eq_true rfl) rfl rfl ?_
      refine g_iload_n 12 rfl rfl rfl ?_
      refine g_aload_n 13 rfl rfl rfl ?_
      refine g_get 16 rfl ha (Nat.le_of_ble_eq_true rfl) rfl rfl ?_
      refine g_iload_n 17 rfl rfl rfl ?_
      refine g_iconst (v := 1) 18 rfl rfl rfl ?_
      refine g_isub 19 rfl rfl ?_
      refine g_callV (J := sm_I9) 22 rfl (Nat.le_of_ble_eq_true rfl) rfl rfl (Nat.le_of_ble_eq_true rfl) (sh_3_1 ha) (Nat.le_of_ble_eq_true rfl) (Nat.le_of_ble_eq_true rfl) rfl rfl (U_9 d (a + 1) (sh_3_1 ha) (v3 - 1) U) ?_
      refine g_iload_n 23 rfl rfl rfl ?_
      refine g_iload_n 24 rfl rfl rfl ?_
      refine g_iconst (v := 1) 25 rfl rfl rfl ?_
      refine g_isub 26 rfl rfl ?_
      refine g_ishr 27 rfl rfl ?_
      refine g_iconst (v := 1) 28 rfl rfl rfl ?_
      refine g_iand 29 rfl rfl ?_
      refine g_iadd 30 rfl rfl ?_
      refine g_callV (J := sm_I10) 33 rfl (Nat.le_of_ble_eq_true rfl) rfl rfl (Nat.le_of_ble_eq_true rfl) (sh_3_1 ha) (Nat.le_of_ble_eq_true rfl) (Nat.le_of_ble_eq_true rfl) rfl rfl (U_10 d (a + 1) (sh_3_1 ha) v3 ((iget (a + 1) (v3 - 1) U) + ((v1 >>> ((v3 - 1) &&& 31)) &&& 1)) U) ?_
      refine g_iinc (v := v3 + 1) 36 [(3, .int (v3 + 1)), (0, .ref a), (1, .int v1), (2, .int v2)] rfl rfl (Nat.le_of_ble_eq_true rfl) rfl rfl rfl ?_
      refine g_goto 2 rfl ?_
      exact g_sub (Sc rfl (Sc rfl (Sc rfl (Sc rfl (Sn _))))) (ih a ha v1 v2 (v3 + 1) _ _ h)
def f_32 (a : Nat) (x1 : Int32) (x2 : Int32) (U : sU) : Option sU :=
  f_32_2 FU a x1 x2 1 U
set_option maxRecDepth 10000 in
set_option maxHeartbeats 2000000 in
theorem F_32 (d : Nat) (a : Nat) (ha : sh a = 3) (x1 : Int32) (x2 : Int32) {U : sU} {U' : sU} (h : f_32 a x1 x2 U = some U') : Rn (d + 1) sm_I32 [.ref a, .int x1, .int x2] U none U' := by
  refine Rn_of [(0, .ref a), (1, .int x1), (2, .int x2)] (Nat.le_of_ble_eq_true rfl) (Sc rfl (Sc rfl (Sc rfl (Sn _)))) ?_
  first | rw [f_32] at h | rw [f_32.eq_def] at h
  refine g_iconst (v := 1) 1 rfl rfl rfl ?_
  refine g_istore_n 2 [(3, .int 1), (0, .ref a), (1, .int x1), (2, .int x2)] rfl (Nat.le_of_ble_eq_true rfl) rfl rfl ?_
  exact g_sub (Sc rfl (Sc rfl (Sc rfl (Sc rfl (Sn _))))) (F_32_2 d _ a ha x1 x2 1 _ _ h)

def f_33 (a : Nat) (x1 : Nat) (U : sU) : sU :=
  sI (sI (sI (icpy (a + 3) (x1 + 3) (icpy (a + 1) (x1 + 1) U)) a 2 ((icpy (a + 3) (x1 + 3) (icpy (a + 1) (x1 + 1) U)).1 x1 2)) a 3 ((sI (icpy (a + 3) (x1 + 3) (icpy (a + 1) (x1 + 1) U)) a 2 ((icpy (a + 3) (x1 + 3) (icpy (a + 1) (x1 + 1) U)).1 x1 2)).1 x1 3)) a 4 ((sI (sI (icpy (a + 3) (x1 + 3) (icpy (a + 1) (x1 + 1) U)) a 2 ((icpy (a + 3) (x1 + 3) (icpy (a + 1) (x1 + 1) U)).1 x1 2)) a 3 ((sI (icpy (a + 3) (x1 + 3) (icpy (a + 1) (x1 + 1) U)) a 2 ((icpy (a + 3) (x1 + 3) (icpy (a + 1) (x1 + 1) U)).1 x1 2)).1 x1 3)).1 x1 4)
set_option maxRecDepth 10000 in
set_option maxHeartbeats 2000000 in
theorem F_33 (d : Nat) (a : Nat) (ha : sh a = 3) (x1 : Nat) (hx1 : sh x1 = 3) (U : sU) : Rn (d + 2) sm_I33 [.ref a, .ref x1] U none (f_33 a x1 U) := by
  refine Rn_of [(0, .ref a), (1, .ref x1)] (Nat.le_of_ble_eq_true rfl) (Sc rfl (Sc rfl (Sn _))) ?_
  generalize h : f_33 a x1 U = U'
  first | rw [f_33] at h | rw [f_33.eq_def] at h
  refine g_aload_n 1 rfl rfl rfl ?_
  refine g_get 4 rfl ha (Nat.le_of_ble_eq_true rfl) rfl rfl ?_
  refine g_aload_n 5 rfl rfl rfl ?_
  refine g_get 8 rfl hx1 (Nat.le_of_ble_eq_true rfl) rfl rfl ?_
  refine g_callV (J := sm_I12) 11 rfl (Nat.le_of_ble_eq_true rfl) rfl rfl (Nat.le_of_ble_eq_true rfl) (sh_3_1 ha) (Nat.le_of_ble_eq_true rfl) (Nat.le_of_ble_eq_true rfl) rfl rfl (U_12 d (a + 1) (sh_3_1 ha) (x1 + 1) (sh_3_1 hx1) U) ?_
  refine g_aload_n 12 rfl rfl rfl ?_
  refine g_get 15 rfl ha (Nat.le_of_ble_eq_true rfl) rfl rfl ?_
  refine g_aload_n 16 rfl rfl rfl ?_
  refine g_get 19 rfl hx1 (Nat.le_of_ble_eq_true rfl) rfl rfl ?_
  refine g_callV (J := sm_I12) 22 rfl (Nat.le_of_ble_eq_true rfl) rfl rfl (Nat.le_of_ble_eq_true rfl) (sh_3_3 ha) (Nat.le_of_ble_eq_true rfl) (Nat.le_of_ble_eq_true rfl) rfl rfl (U_12 d (a + 3) (sh_3_3 ha) (x1 + 3) (sh_3_3 hx1) (icpy (a + 1) (x1 + 1) U)) ?_
  refine g_aload_n 23 rfl rfl rfl ?_
  refine g_aload_n 24 rfl rfl rfl ?_
  refine g_get 27 rfl hx1 (Nat.le_of_ble_eq_true rfl) rfl rfl ?_
  refine g_putI 30 rfl ha (Nat.le_of_ble_eq_true rfl) (Nat.le_of_ble_eq_true rfl) rfl fs_3_2 rfl ?_
  refine g_aload_n 31 rfl rfl rfl ?_
  refine g_aload_n 32 rfl rfl rfl ?_
  refine g_get 35 rfl hx1 (Nat.le_of_ble_eq_true rfl) rfl rfl ?_
  refine g_putI 38 rfl ha (Nat.le_of_ble_eq_true rfl) (Nat.le_of_ble_eq_true rfl) rfl fs_3_3 rfl ?_
  refine g_aload_n 39 rfl rfl rfl ?_
  refine g_aload_n 40 rfl rfl rfl ?_
  refine g_get 43 rfl hx1 (Nat.le_of_ble_eq_true rfl) rfl rfl ?_
  refine g_putI 46 rfl ha (Nat.le_of_ble_eq_true rfl) (Nat.le_of_ble_eq_true rfl) rfl fs_3_4 rfl ?_
  subst h
  exact g_vret rfl rfl

def f_37 (a : Nat) (U : sU) : sU :=
  sI (sI U a 9 0) a 10 0
set_option maxRecDepth 10000 in
set_option maxHeartbeats 2000000 in
theorem F_37 (d : Nat) (a : Nat) (ha : sh a = 4) (U : sU) : Rn (d + 0) sm_I37 [.ref a] U none (f_37 a U) := by
  refine Rn_of [(0, .ref a)] (Nat.le_of_ble_eq_true rfl) (Sc rfl (Sn _)) ?_
  generalize h : f_37 a U = U'
  first | rw [f_37] at h | rw [f_37.eq_def] at h
  refine g_aload_n 1 rfl rfl rfl ?_
  refine g_iconst (v := 0) 2 rfl rfl rfl ?_
  refine g_putI 5 rfl ha (Nat.le_of_ble_eq_true rfl) (Nat.le_of_ble_eq_true rfl) rfl fs_4_9 rfl ?_
  refine g_aload_n 6 rfl rfl rfl ?_
  refine g_iconst (v := 0) 7 rfl rfl rfl ?_
  refine g_putI 10 rfl ha (Nat.le_of_ble_eq_true rfl) (Nat.le_of_ble_eq_true rfl) rfl fs_4_10 rfl ?_
  subst h
  exact g_vret rfl rfl

def f_35 (a : Nat) (x1 : Nat) (x2 : Int32) (x3 : Int32) (U : sU) : sU :=
  f_37 a (sI (sI (sI (sI (sI (sK U a x1) a 7 x2) a 8 x3) a 11 0) a 12 0) a 13 100)
set_option maxRecDepth 10000 in
set_option maxHeartbeats 2000000 in
theorem F_35 (d : Nat) (a : Nat) (ha : sh a = 4) (x1 : Nat) (hx1 : sh x1 = 8) (x2 : Int32) (x3 : Int32) (U : sU) : Rn (d + 1) sm_I35 [.ref a, .ref x1, .int x2, .int x3] U none (f_35 a x1 x2 x3 U) := by
  refine Rn_of [(0, .ref a), (1, .ref x1), (2, .int x2), (3, .int x3)] (Nat.le_of_ble_eq_true rfl) (Sc rfl (Sc rfl (Sc rfl (Sc rfl (Sn _))))) ?_
  generalize h : f_35 a x1 x2 x3 U = U'
  first | rw [f_35] at h | rw [f_35.eq_def] at h
  refine g_aload_n 1 rfl rfl rfl ?_
  refine g_aload_n 2 rfl rfl rfl ?_
  refine g_putK 5 rfl ha rfl hx1 rfl ?_
  refine g_aload_n 6 rfl rfl rfl ?_
  refine g_iload_n 7 rfl rfl rfl ?_
  refine g_putI 10 rfl ha (Nat.le_of_ble_eq_true rfl) (Nat.le_of_ble_eq_true rfl) rfl fs_4_7 rfl ?_
  refine g_aload_n 11 rfl rfl rfl ?_
  refine g_iload_n 12 rfl rfl rfl ?_
  refine g_putI 15 rfl ha (Nat.le_of_ble_eq_true rfl) (Nat.le_of_ble_eq_true rfl) rfl fs_4_8 rfl ?_
  refine g_aload_n 16 rfl rfl rfl ?_
  refine g_iconst (v := 0) 17 rfl rfl rfl ?_
  refine g_putZ 20 rfl ha (Nat.le_of_ble_eq_true rfl) (Nat.le_of_ble_eq_true rfl) rfl (Or.inl rfl) fs_4_11 rfl ?_
  refine g_aload_n 21 rfl rfl rfl ?_
  refine g_iconst (v := 0) 22 rfl rfl rfl ?_
  refine g_putZ 25 rfl ha (Nat.le_of_ble_eq_true rfl) (Nat.le_of_ble_eq_true rfl) rfl (Or.inl rfl) fs_4_12 rfl ?_
  refine g_aload_n 26 rfl rfl rfl ?_
  refine g_bipush (v := 100) 28 rfl (by decide) rfl ?_
  refine g_putI 31 rfl ha (Nat.le_of_ble_eq_true rfl) (Nat.le_of_ble_eq_true rfl) rfl fs_4_13 rfl ?_
  refine g_aload_n 32 rfl rfl rfl ?_
  refine g_callV (J := sm_I37) 35 rfl (Nat.le_of_ble_eq_true rfl) rfl rfl (Nat.le_of_ble_eq_true rfl) ha (Nat.le_of_ble_eq_true rfl) (Nat.le_of_ble_eq_true rfl) rfl rfl (F_37 d a ha (sI (sI (sI (sI (sI (sK U a x1) a 7 x2) a 8 x3) a 11 0) a 12 0) a 13 100)) ?_
  subst h
  exact g_vret rfl rfl

def f_36 (a : Nat) (x1 : Int32) (U : sU) : sU :=
  sI (sI U a 11 1) a 13 x1
set_option maxRecDepth 10000 in
set_option maxHeartbeats 2000000 in
theorem F_36 (d : Nat) (a : Nat) (ha : sh a = 4) (x1 : Int32) (U : sU) : Rn (d + 0) sm_I36 [.ref a, .int x1] U none (f_36 a x1 U) := by
  refine Rn_of [(0, .ref a), (1, .int x1)] (Nat.le_of_ble_eq_true rfl) (Sc rfl (Sc rfl (Sn _))) ?_
  generalize h : f_36 a x1 U = U'
  first | rw [f_36] at h | rw [f_36.eq_def] at h
  refine g_aload_n 1 rfl rfl rfl ?_
  refine g_iconst (v := 1) 2 rfl rfl rfl ?_
  refine g_putZ 5 rfl ha (Nat.le_of_ble_eq_true rfl) (Nat.le_of_ble_eq_true rfl) rfl (Or.inr rfl) fs_4_11 rfl ?_
  refine g_aload_n 6 rfl rfl rfl ?_
  refine g_iload_n 7 rfl rfl rfl ?_
  refine g_putI 10 rfl ha (Nat.le_of_ble_eq_true rfl) (Nat.le_of_ble_eq_true rfl) rfl fs_4_13 rfl ?_
  subst h
  exact g_vret rfl rfl

def f_43 (a : Nat) (x1 : Int32) (U : sU) : Int32 :=
  if x1 < 0 then
    0
  else
    if 12 ≤ x1 then
      0
    else
      if (((U.1 a 9) >>> (x1 &&& 31)) &&& 1) = 1 then
        1
      else
        0
set_option maxRecDepth 10000 in
set_option maxHeartbeats 2000000 in
theorem F_43 (d : Nat) (a : Nat) (ha : sh a = 4) (x1 : Int32) (U : sU) : Rn (d + 0) sm_I43 [.ref a, .int x1] U (some (.int (f_43 a x1 U))) U := by
  refine Rn_of [(0, .ref a), (1, .int x1)] (Nat.le_of_ble_eq_true rfl) (Sc rfl (Sc rfl (Sn _))) ?_
  generalize h : f_43 a x1 U = r
  first | rw [f_43] at h | rw [f_43.eq_def] at h
  refine g_iload_n 1 rfl rfl rfl ?_
  refine g_if_lt 26 4 rfl rfl (fun c1 => ?_) (fun c1 => ?_)
  · rw [if_pos c1] at h
    refine g_iconst (v := 0) 27 rfl rfl rfl ?_
    subst h
    exact g_zret rfl rfl (Or.inl rfl)
  · rw [if_neg c1] at h
    refine g_iload_n 5 rfl rfl rfl ?_
    refine g_bipush (v := 12) 7 rfl (by decide) rfl ?_
    refine g_icmp_ge 26 10 rfl rfl (fun c2 => ?_) (fun c2 => ?_)
    · rw [if_pos c2] at h
      refine g_iconst (v := 0) 27 rfl rfl rfl ?_
      subst h
      exact g_zret rfl rfl (Or.inl rfl)
    · rw [if_neg c2] at h
      refine g_aload_n 11 rfl rfl rfl ?_
      refine g_get 14 rfl ha (Nat.le_of_ble_eq_true rfl) rfl rfl ?_
      refine g_iload_n 15 rfl rfl rfl ?_
      refine g_ishr 16 rfl rfl ?_
      refine g_iconst (v := 1) 17 rfl rfl rfl ?_
      refine g_iand 18 rfl rfl ?_
      refine g_iconst (v := 1) 19 rfl rfl rfl ?_
      refine g_icmp_ne 26 22 rfl rfl (fun c3 => ?_) (fun c3 => ?_)
      · rw [if_neg c3] at h
        refine g_iconst (v := 0) 27 rfl rfl rfl ?_
        subst h
        exact g_zret rfl rfl (Or.inl rfl)
      · rw [if_pos c3] at h
        refine g_iconst (v := 1) 23 rfl rfl rfl ?_
        refine g_goto 27 rfl ?_
        subst h
        exact g_zret rfl rfl (Or.inr rfl)

def f_38 (a : Nat) (x1 : Int32) (x2 : Int32) (U : sU) : sU :=
  if (f_43 a x2 (iput (a + 1) x1 x2 U)) = 0 then
    sI (sI (iput (a + 1) x1 x2 U) a 9 (((iput (a + 1) x1 x2 U).1 a 9) ||| (1 <<< (x2 &&& 31)))) a 10 (((sI (iput (a + 1) x1 x2 U) a 9 (((iput (a + 1) x1 x2 U).1 a 9) ||| (1 <<< (x2 &&& 31)))).1 a 10) + 1)
  else
    iput (a + 1) x1 x2 U
set_option maxRecDepth 10000 in
set_option maxHeartbeats 2000000 in
theorem F_38 (d : Nat) (a : Nat) (ha : sh a = 4) (x1 : Int32) (x2 : Int32) (U : sU) : Rn (d + 1) sm_I38 [.ref a, .int x1, .int x2] U none (f_38 a x1 x2 U) := by
  refine Rn_of [(0, .ref a), (1, .int x1), (2, .int x2)] (Nat.le_of_ble_eq_true rfl) (Sc rfl (Sc rfl (Sc rfl (Sn _)))) ?_
  generalize h : f_38 a x1 x2 U = U'
  first | rw [f_38] at h | rw [f_38.eq_def] at h
  refine g_aload_n 1 rfl rfl rfl ?_
  refine g_get 4 rfl ha (Nat.le_of_ble_eq_true rfl) rfl rfl ?_
  refine g_iload_n 5 rfl rfl rfl ?_
  refine g_iload_n 6 rfl rfl rfl ?_
  refine g_callV (J := sm_I10) 9 rfl (Nat.le_of_ble_eq_true rfl) rfl rfl (Nat.le_of_ble_eq_true rfl) (sh_4_1 ha) (Nat.le_of_ble_eq_true rfl) (Nat.le_of_ble_eq_true rfl) rfl rfl (U_10 d (a + 1) (sh_4_1 ha) x1 x2 U) ?_
  refine g_aload_n 10 rfl rfl rfl ?_
  refine g_iload_n 11 rfl rfl rfl ?_
  have r1 := F_43 d a ha x2 (iput (a + 1) x1 x2 U)
  refine g_callV (J := sm_I43) 14 rfl (Nat.le_of_ble_eq_true rfl) rfl rfl (Nat.le_of_ble_eq_true rfl) ha (Nat.le_of_ble_eq_true rfl) (Nat.le_of_ble_eq_true rfl) rfl rfl r1 ?_
  refine g_if_ne 39 17 rfl rfl (fun c2 => ?_) (fun c2 => ?_)
  · rw [if_neg c2] at h
    subst h
    exact g_vret rfl rfl
  · rw [if_pos c2] at h
    refine g_aload_n 18 rfl rfl rfl ?_
    refine g_dup 19 rfl rfl rfl ?_
    refine g_get 22 rfl ha (Nat.le_of_ble_eq_true rfl) rfl rfl ?_
    refine g_iconst (v := 1) 23 rfl rfl rfl ?_
    refine g_iload_n 24 rfl rfl rfl ?_
    refine g_ishl 25 rfl rfl ?_
    refine g_ior 26 rfl rfl ?_
    refine g_putI 29 rfl ha (Nat.le_of_ble_eq_true rfl) (Nat.le_of_ble_eq_true rfl) rfl fs_4_9 rfl ?_
    refine g_aload_n 30 rfl rfl rfl ?_
    refine g_dup 31 rfl rfl rfl ?_
    refine g_get 34 rfl ha (Nat.le_of_ble_eq_true rfl) rfl rfl ?_
    refine g_iconst (v := 1) 35 rfl rfl rfl ?_
    refine g_iadd 36 rfl rfl ?_
    refine g_putI 39 rfl ha (Nat.le_of_ble_eq_true rfl) (Nat.le_of_ble_eq_true rfl) rfl fs_4_10 rfl ?_
    subst h
    exact g_vret rfl rfl

def f_39_8 : Nat → Nat → Int32 → Int32 → Int32 → sU → Option sU
  | 0, _, _, _, _, _ => none
  | n + 1, a, v1, v2, v3, U =>
    if (U.1 (tk U a) 2) ≤ v3 then
      some U
    else
      if v3 ≤ 0 then
        f_39_8 n a v1 (v2 + 0) (v3 + 1) (f_38 a v3 (v2 + 0) U)
      else
        f_39_8 n a v1 (v2 + ((v1 >>> ((v3 - 1) &&& 31)) &&& 1)) (v3 + 1) (f_38 a v3 (v2 + ((v1 >>> ((v3 - 1) &&& 31)) &&& 1)) U)
set_option maxRecDepth 10000 in
set_option maxHeartbeats 2000000 in
theorem F_39_8 (d : Nat)   : ∀ (n : Nat) (a : Nat) (ha : sh a = 4) (v1 : Int32) (v2 : Int32) (v3 : Int32) (U : sU) (U' : sU), f_39_8 n a v1 v2 v3 U = some U' → G (d + 2) sm_I39 8 [(0, .ref a), (1, .int v1), (2, .int v2), (3, .int v3)] [] U none U' := by
  intro n
  induction n with
  | zero => intro a ha v1 v2 v3 U U' h; cases h
  | succ n ih =>
    intro a ha v1 v2 v3 U U' h
    first | rw [f_39_8] at h | (rw [f_39_8.eq_def] at h; dsimp only at h)
    refine g_iload_n 9 rfl rfl rfl ?_
    refine g_aload_n 10 rfl rfl rfl ?_
    refine g_get 13 rfl ha (Nat.le_of_ble_eq_true rfl) rfl rfl ?_
    refine g_get 16 rfl (tk_sh U a) (Nat.le_of_ble_eq_true rfl) rfl rfl ?_
    refine g_icmp_ge 49 19 rfl rfl (fun c1 => ?_) (fun c1 => ?_)
    · rw [if_pos c1] at h
      cases h
      exact g_vret rfl rfl
    · rw [if_neg c1] at h
      refine g_iload_n 20 rfl rfl rfl ?_
      refine g_iload_n 21 rfl rfl rfl ?_
      refine g_if_le 34 24 rfl rfl (fun c2 => ?_) (fun c2 => ?_)
      · rw [if_pos c2] at h
        refine g_iconst (v := 0) 35 rfl rfl rfl ?_
        refine g_iadd 36 rfl rfl ?_
        refine g_istore_n 37 [(2, .int (v2 + 0)), (0, .ref a), (1, .int v1), (3, .int v3)] rfl (Nat.le_of_ble_eq_true rfl) rfl rfl ?_
        refine g_aload_n 38 rfl rfl rfl ?_
        refine g_iload_n 39 rfl rfl rfl ?_
        refine g_iload_n 40 rfl rfl rfl ?_
        refine g_callV (J := sm_I38) 43 rfl (Nat.le_of_ble_eq_true rfl) rfl rfl (Nat.le_of_ble_eq_true rfl) ha (Nat.le_of_ble_eq_true rfl) (Nat.le_of_ble_eq_true rfl) rfl rfl (F_38 d a ha v3 (v2 + 0) U) ?_
        refine g_iinc (v := v3 + 1) 46 [(3, .int (v3 + 1)), (2, .int (v2 + 0)), (0, .ref a), (1, .int v1)] rfl rfl (Nat.le_of_ble_eq_true rfl) rfl rfl rfl ?_
        refine g_goto 8 rfl ?_
        exact g_sub (Sc rfl (Sc rfl (Sc rfl (Sc rfl (Sn _))))) (ih a ha v1 (v2 + 0) (v3 + 1) _ _ h)
      · rw [if_neg c2] at h
        refine g_iload_n 25 rfl rfl rfl ?_
        refine g_iload_n 26 rfl rfl rfl ?_
        refine g_iconst (v := 1) 27 rfl rfl rfl ?_
        refine g_isub 28 rfl rfl ?_
        refine g_ishr 29 rfl rfl ?_
        refine g_iconst (v := 1) 30 rfl rfl rfl ?_
        refine g_iand 31 rfl rfl ?_
        refine g_goto 35 rfl ?_
        refine g_iadd 36 rfl rfl ?_
        refine g_istore_n 37 [(2, .int (v2 + ((v1 >>> ((v3 - 1) &&& 31)) &&& 1))), (0, .ref a), (1, .int v1), (3, .int v3)] rfl (Nat.le_of_ble_eq_true rfl) rfl rfl ?_
        refine g_aload_n 38 rfl rfl rfl ?_
        refine g_iload_n 39 rfl rfl rfl ?_
        refine g_iload_n 40 rfl rfl rfl ?_
        refine g_callV (J := sm_I38) 43 rfl (Nat.le_of_ble_eq_true rfl) rfl rfl (Nat.le_of_ble_eq_true rfl) ha (Nat.le_of_ble_eq_true rfl) (Nat.le_of_ble_eq_true rfl) rfl rfl (F_38 d a ha v3 (v2 + ((v1 >>> ((v3 - 1) &&& 31)) &&& 1)) U) ?_
        refine g_iinc (v := v3 + 1) 46 [(3, .int (v3 + 1)), (2, .int (v2 + ((v1 >>> ((v3 - 1) &&& 31)) &&& 1))), (0, .ref a), (1, .int v1)] rfl rfl (Nat.le_of_ble_eq_true rfl) rfl rfl rfl ?_
        refine g_goto 8 rfl ?_
        exact g_sub (Sc rfl (Sc rfl (Sc rfl (Sc rfl (Sn _))))) (ih a ha v1 (v2 + ((v1 >>> ((v3 - 1) &&& 31)) &&& 1)) (v3 + 1) _ _ h)
def f_39 (a : Nat) (x1 : Int32) (U : sU) : Option sU :=
  f_39_8 FU a x1 0 0 (f_37 a U)
set_option maxRecDepth 10000 in
set_option maxHeartbeats 2000000 in
theorem F_39 (d : Nat) (a : Nat) (ha : sh a = 4) (x1 : Int32) {U : sU} {U' : sU} (h : f_39 a x1 U = some U') : Rn (d + 2) sm_I39 [.ref a, .int x1] U none U' := by
  refine Rn_of [(0, .ref a), (1, .int x1)] (Nat.le_of_ble_eq_true rfl) (Sc rfl (Sc rfl (Sn _))) ?_
  first | rw [f_39] at h | rw [f_39.eq_def] at h
  refine g_aload_n 1 rfl rfl rfl ?_
  refine g_callV (J := sm_I37) 4 rfl (Nat.le_of_ble_eq_true rfl) rfl rfl (Nat.le_of_ble_eq_true rfl) ha (Nat.le_of_ble_eq_true rfl) (Nat.le_of_ble_eq_true rfl) rfl rfl (F_37 (d + 1) a ha U) ?_
  refine g_iconst (v := 0) 5 rfl rfl rfl ?_
  refine g_istore_n 6 [(2, .int 0), (0, .ref a), (1, .int x1)] rfl (Nat.le_of_ble_eq_true rfl) rfl rfl ?_
  refine g_iconst (v := 0) 7 rfl rfl rfl ?_
  refine g_istore_n 8 [(3, .int 0), (2, .int 0), (0, .ref a), (1, .int x1)] rfl (Nat.le_of_ble_eq_true rfl) rfl rfl ?_
  exact g_sub (Sc rfl (Sc rfl (Sc rfl (Sc rfl (Sn _))))) (F_39_8 d _ a ha x1 0 0 _ _ h)

def f_42_26 : Nat → Nat → Int32 → sU → Option sU
  | 0, _, _, _ => none
  | n + 1, a, v1, U =>
    if (U.1 (tk U a) 2) ≤ v1 then
      some U
    else
      f_42_26 n a (v1 + 1) (sI (sI (iput (a + 7) (iget (a + 1) v1 U) ((iget (a + 7) (iget (a + 1) v1 U) (iput (a + 5) (iget (a + 1) v1 U) ((iget (a + 5) (iget (a + 1) v1 U) U) + (iget ((tk U a) + 3) v1 U)) U)) + ((iget ((tk U a) + 3) v1 U) * ((iget ((tk U a) + 1) v1 U) + (U.1 a 7)))) (iput (a + 5) (iget (a + 1) v1 U) ((iget (a + 5) (iget (a + 1) v1 U) U) + (iget ((tk U a) + 3) v1 U)) U)) a 4 (((iput (a + 7) (iget (a + 1) v1 U) ((iget (a + 7) (iget (a + 1) v1 U) (iput (a + 5) (iget (a + 1) v1 U) ((iget (a + 5) (iget (a + 1) v1 U) U) + (iget ((tk U a) + 3) v1 U)) U)) + ((iget ((tk U a) + 3) v1 U) * ((iget ((tk U a) + 1) v1 U) + (U.1 a 7)))) (iput (a + 5) (iget (a + 1) v1 U) ((iget (a + 5) (iget (a + 1) v1 U) U) + (iget ((tk U a) + 3) v1 U)) U)).1 a 4) + (iget ((tk U a) + 3) v1 U))) a 5 (((sI (iput (a + 7) (iget (a + 1) v1 U) ((iget (a + 7) (iget (a + 1) v1 U) (iput (a + 5) (iget (a + 1) v1 U) ((iget (a + 5) (iget (a + 1) v1 U) U) + (iget ((tk U a) + 3) v1 U)) U)) + ((iget ((tk U a) + 3) v1 U) * ((iget ((tk U a) + 1) v1 U) + (U.1 a 7)))) (iput (a + 5) (iget (a + 1) v1 U) ((iget (a + 5) (iget (a + 1) v1 U) U) + (iget ((tk U a) + 3) v1 U)) U)) a 4 (((iput (a + 7) (iget (a + 1) v1 U) ((iget (a + 7) (iget (a + 1) v1 U) (iput (a + 5) (iget (a + 1) v1 U) ((iget (a + 5) (iget (a + 1) v1 U) U) + (iget ((tk U a) + 3) v1 U)) U)) + ((iget ((tk U a) + 3) v1 U) * ((iget ((tk U a) + 1) v1 U) + (U.1 a 7)))) (iput (a + 5) (iget (a + 1) v1 U) ((iget (a + 5) (iget (a + 1) v1 U) U) + (iget ((tk U a) + 3) v1 U)) U)).1 a 4) + (iget ((tk U a) + 3) v1 U))).1 a 5) + ((iget ((tk U a) + 3) v1 U) * ((iget ((tk U a) + 1) v1 U) + (U.1 a 7)))))
set_option maxRecDepth 10000 in
set_option maxHeartbeats 2000000 in
theorem F_42_26 (d : Nat)   : ∀ (n : Nat) (a : Nat) (ha : sh a = 4) (v1 : Int32) (U : sU) (U' : sU), f_42_26 n a v1 U = some U' → G (d + 1) sm_I42 26 [(0, .ref a), (1, .int v1)] [] U none U' := by
  intro n
  induction n with
  | zero => intro a ha v1 U U' h; cases h
  | succ n ih =>
    intro a ha v1 U U' h
    first | rw [f_42_26] at h | (rw [f_42_26.eq_def] at h; dsimp only at h)
    refine g_iload_n 27 rfl rfl rfl ?_
    refine g_aload_n 28 rfl rfl rfl ?_
    refine g_get 31 rfl ha (Nat.le_of_ble_eq_true rfl) rfl rfl ?_
    refine g_get 34 rfl (tk_sh U a) (Nat.le_of_ble_eq_true rfl) rfl rfl ?_
    refine g_icmp_ge 142 37 rfl rfl (fun c1 => ?_) (fun c1 => ?_)
    · rw [if_pos c1] at h
      cases h
      exact g_vret rfl rfl
    · rw [if_neg c1] at h
      refine g_aload_n 38 rfl rfl rfl ?_
      refine g_get 41 rfl ha (Nat.le_of_ble_eq_true rfl) rfl rfl ?_
      refine g_iload_n 42 rfl rfl rfl ?_
      refine g_callV (J := sm_I9) 45 rfl (Nat.le_of_ble_eq_true rfl) rfl rfl (Nat.le_of_ble_eq_true rfl) (sh_4_1 ha) (Nat.le_of_ble_eq_true rfl) (Nat.le_of_ble_eq_true rfl) rfl rfl (U_9 d (a + 1) (sh_4_1 ha) v1 U) ?_
      refine g_istore_n 46 [(2, .int (iget (a + 1) v1 U)), (0, .ref a), (1, .int v1)] rfl (Nat.le_of_ble_eq_true rfl) rfl rfl ?_
      refine g_aload_n 47 rfl rfl rfl ?_
      refine g_get 50 rfl ha (Nat.le_of_ble_eq_true rfl) rfl rfl ?_
      refine g_get 53 rfl (tk_sh U a) (Nat.le_of_ble_eq_true rfl) rfl rfl ?_
      refine g_iload_n 54 rfl rfl rfl ?_
      refine g_callV (J := sm_I9) 57 rfl (Nat.le_of_ble_eq_true rfl) rfl rfl (Nat.le_of_ble_eq_true rfl) (sh_8_3 (tk_sh U a)) (Nat.le_of_ble_eq_true rfl) (Nat.le_of_ble_eq_true rfl) rfl rfl (U_9 d ((tk U a) + 3) (sh_8_3 (tk_sh U a)) v1 U) ?_
      refine g_istore_n 58 [(3, .int (iget ((tk U a) + 3) v1 U)), (2, .int (iget (a + 1) v1 U)), (0, .ref a), (1, .int v1)] rfl (Nat.le_of_ble_eq_true rfl) rfl rfl ?_
      refine g_iload_n 59 rfl rfl rfl ?_
      refine g_aload_n 60 rfl rfl rfl ?_
      refine g_get 63 rfl ha (Nat.le_of_ble_eq_true rfl) rfl rfl ?_
      refine g_get 66 rfl (tk_sh U a) (Nat.le_of_ble_eq_true rfl) rfl rfl ?_
      refine g_iload_n 67 rfl rfl rfl ?_
      refine g_callV (J := sm_I9) 70 rfl (Nat.le_of_ble_eq_true rfl) rfl rfl (Nat.le_of_ble_eq_true rfl) (sh_8_1 (tk_sh U a)) (Nat.le_of_ble_eq_true rfl) (Nat.le_of_ble_eq_true rfl) rfl rfl (U_9 d ((tk U a) + 1) (sh_8_1 (tk_sh U a)) v1 U) ?_
      refine g_aload_n 71 rfl rfl rfl ?_
      refine g_get 74 rfl ha (Nat.le_of_ble_eq_true rfl) rfl rfl ?_
      refine g_iadd 75 rfl rfl ?_
      refine g_imul 76 rfl rfl ?_
      refine g_istore 78 [(4, .int ((iget ((tk U a) + 3) v1 U) * ((iget ((tk U a) + 1) v1 U) + (U.1 a 7)))), (3, .int (iget ((tk U a) + 3) v1 U)), (2, .int (iget (a + 1) v1 U)), (0, .ref a), (1, .int v1)] rfl (Nat.le_of_ble_eq_true rfl) rfl rfl ?_
      refine g_aload_n 79 rfl rfl rfl ?_
      refine g_get 82 rfl ha (Nat.le_of_ble_eq_true rfl) rfl rfl ?_
      refine g_iload_n 83 rfl rfl rfl ?_
      refine g_aload_n 84 rfl rfl rfl ?_
      refine g_get 87 rfl ha (Nat.le_of_ble_eq_true rfl) rfl rfl ?_
      refine g_iload_n 88 rfl rfl rfl ?_
      refine g_callV (J := sm_I9) 91 rfl (Nat.le_of_ble_eq_true rfl) rfl rfl (Nat.le_of_ble_eq_true rfl) (sh_4_5 ha) (Nat.le_of_ble_eq_true rfl) (Nat.le_of_ble_eq_true rfl) rfl rfl (U_9 d (a + 5) (sh_4_5 ha) (iget (a + 1) v1 U) U) ?_
      refine g_iload_n 92 rfl rfl rfl ?_
      refine g_iadd 93 rfl rfl ?_
      refine g_callV (J := sm_I10) 96 rfl (Nat.le_of_ble_eq_true rfl) rfl rfl (Nat.le_of_ble_eq_true rfl) (sh_4_5 ha) (Nat.le_of_ble_eq_true rfl) (Nat.le_of_ble_eq_true rfl) rfl rfl (U_10 d (a + 5) (sh_4_5 ha) (iget (a + 1) v1 U) ((iget (a + 5) (iget (a + 1) v1 U) U) + (iget ((tk U a) + 3) v1 U)) U) ?_
      refine g_aload_n 97 rfl rfl rfl ?_
      refine g_get 100 rfl ha (Nat.le_of_ble_eq_true rfl) rfl rfl ?_
      refine g_iload_n 101 rfl rfl rfl ?_
      refine g_aload_n 102 rfl rfl rfl ?_
      refine g_get 105 rfl ha (Nat.le_of_ble_eq_true rfl) rfl rfl ?_
      refine g_iload_n 106 rfl rfl rfl ?_
      refine g_callV (J := sm_I9) 109 rfl (Nat.le_of_ble_eq_true rfl) rfl rfl (Nat.le_of_ble_eq_true rfl) (sh_4_7 ha) (Nat.le_of_ble_eq_true rfl) (Nat.le_of_ble_eq_true rfl) rfl rfl (U_9 d (a + 7) (sh_4_7 ha) (iget (a + 1) v1 U) (iput (a + 5) (iget (a + 1) v1 U) ((iget (a + 5) (iget (a + 1) v1 U) U) + (iget ((tk U a) + 3) v1 U)) U)) ?_
      refine g_iload 111 rfl rfl rfl ?_
      refine g_iadd 112 rfl rfl ?_
      refine g_callV (J := sm_I10) 115 rfl (Nat.le_of_ble_eq_true rfl) rfl rfl (Nat.le_of_ble_eq_true rfl) (sh_4_7 ha) (Nat.le_of_ble_eq_true rfl) (Nat.le_of_ble_eq_true rfl) rfl rfl (U_10 d (a + 7) (sh_4_7 ha) (iget (a + 1) v1 U) ((iget (a + 7) (iget (a + 1) v1 U) (iput (a + 5) (iget (a + 1) v1 U) ((iget (a + 5) (iget (a + 1) v1 U) U) + (iget ((tk U a) + 3) v1 U)) U)) + ((iget ((tk U a) + 3) v1 U) * ((iget ((tk U a) + 1) v1 U) + (U.1 a 7)))) (iput (a + 5) (iget (a + 1) v1 U) ((iget (a + 5) (iget (a + 1) v1 U) U) + (iget ((tk U a) + 3) v1 U)) U)) ?_
      refine g_aload_n 116 rfl rfl rfl ?_
      refine g_dup 117 rfl rfl rfl ?_
      refine g_get 120 rfl ha (Nat.le_of_ble_eq_true rfl) rfl rfl ?_
      refine g_iload_n 121 rfl rfl rfl ?_
      refine g_iadd 122 rfl rfl ?_
      refine g_putI 125 rfl ha (Nat.le_of_ble_eq_true rfl) (Nat.le_of_ble_eq_true rfl) rfl fs_4_4 rfl ?_
      refine g_aload_n 126 rfl rfl rfl ?_
      refine g_dup 127 rfl rfl rfl ?_
      refine g_get 130 rfl ha (Nat.le_of_ble_eq_true rfl) rfl rfl ?_
      refine g_iload 132 rfl rfl rfl ?_
      refine g_iadd 133 rfl rfl ?_
      refine g_putI 136 rfl ha (Nat.le_of_ble_eq_true rfl) (Nat.le_of_ble_eq_true rfl) rfl fs_4_5 rfl ?_
      refine g_iinc (v := v1 + 1) 139 [(1, .int (v1 + 1)), (4, .int ((iget ((tk U a) + 3) v1 U) * ((iget ((tk U a) + 1) v1 U) + (U.1 a 7)))), (3, .int (iget ((tk U a) + 3) v1 U)), (2, .int (iget (a + 1) v1 U)), (0, .ref a)] rfl rfl (Nat.le_of_ble_eq_true rfl) rfl rfl rfl ?_
      refine g_goto 26 rfl ?_
      exact g_sub (Sc rfl (Sc rfl (Sn _))) (ih a ha (v1 + 1) _ _ h)
def f_42 (a : Nat) (U : sU) : Option sU :=
  f_42_26 FU a 0 (sI (sI (iclr (a + 7) (iclr (a + 5) U)) a 4 0) a 5 0)
set_option maxRecDepth 10000 in
set_option maxHeartbeats 2000000 in
theorem F_42 (d : Nat) (a : Nat) (ha : sh a = 4) {U : sU} {U' : sU} (h : f_42 a U = some U') : Rn (d + 1) sm_I42 [.ref a] U none U' := by
  refine Rn_of [(0, .ref a)] (Nat.le_of_ble_eq_true rfl) (Sc rfl (Sn _)) ?_
  first | rw [f_42] at h | rw [f_42.eq_def] at h
  refine g_aload_n 1 rfl rfl rfl ?_
  refine g_get 4 rfl ha (Nat.le_of_ble_eq_true rfl) rfl rfl ?_
  refine g_callV (J := sm_I11) 7 rfl (Nat.le_of_ble_eq_true rfl) rfl rfl (Nat.le_of_ble_eq_true rfl) (sh_4_5 ha) (Nat.le_of_ble_eq_true rfl) (Nat.le_of_ble_eq_true rfl) rfl rfl (U_11 d (a + 5) (sh_4_5 ha) U) ?_
  refine g_aload_n 8 rfl rfl rfl ?_
  refine g_get 11 rfl ha (Nat.le_of_ble_eq_true rfl) rfl rfl ?_
  refine g_callV (J := sm_I11) 14 rfl (Nat.le_of_ble_eq_true rfl) rfl rfl (Nat.le_of_ble_eq_true rfl) (sh_4_7 ha) (Nat.le_of_ble_eq_true rfl) (Nat.le_of_ble_eq_true rfl) rfl rfl (U_11 d (a + 7) (sh_4_7 ha) (iclr (a + 5) U)) ?_
  refine g_aload_n 15 rfl rfl rfl ?_
  refine g_iconst (v := 0) 16 rfl rfl rfl ?_
  refine g_putI 19 rfl ha (Nat.le_of_ble_eq_true rfl) (Nat.le_of_ble_eq_true rfl) rfl fs_4_4 rfl ?_
  refine g_aload_n 20 rfl rfl rfl ?_
  refine g_iconst (v := 0) 21 rfl rfl rfl ?_
  refine g_putI 24 rfl ha (Nat.le_of_ble_eq_true rfl) (Nat.le_of_ble_eq_true rfl) rfl fs_4_5 rfl ?_
  refine g_iconst (v := 0) 25 rfl rfl rfl ?_
  refine g_istore_n 26 [(1, .int 0), (0, .ref a)] rfl (Nat.le_of_ble_eq_true rfl) rfl rfl ?_
  exact g_sub (Sc rfl (Sc rfl (Sn _))) (F_42_26 d _ a ha 0 _ _ h)

def f_48 (a : Nat) (x1 : Int32) (x2 : Int32) (U : sU) : Int64 :=
  if (U.1 a 11) = 0 then
    x1.toInt64
  else
    ((((U.1 a 13).toInt64) * ((U.1 a 10).toInt64)) * x1.toInt64) + ((100 - ((U.1 a 13).toInt64)) * x2.toInt64)
set_option maxRecDepth 10000 in
set_option maxHeartbeats 2000000 in
theorem F_48 (d : Nat) (a : Nat) (ha : sh a = 4) (x1 : Int32) (x2 : Int32) (U : sU) : Rn (d + 0) sm_I48 [.ref a, .int x1, .int x2] U (some (.long (f_48 a x1 x2 U))) U := by
  refine Rn_of [(0, .ref a), (1, .int x1), (2, .int x2)] (Nat.le_of_ble_eq_true rfl) (Sc rfl (Sc rfl (Sc rfl (Sn _)))) ?_
  generalize h : f_48 a x1 x2 U = r
  first | rw [f_48] at h | rw [f_48.eq_def] at h
  refine g_aload_n 1 rfl rfl rfl ?_
  refine g_get 4 rfl ha (Nat.le_of_ble_eq_true rfl) rfl rfl ?_
  refine g_if_eq 37 7 rfl rfl (fun c1 => ?_) (fun c1 => ?_)
  · rw [if_pos c1] at h
    refine g_iload_n 38 rfl rfl rfl ?_
    refine g_i2l 39 rfl rfl ?_
    subst h
    exact g_lret rfl rfl
  · rw [if_neg c1] at h
    refine g_aload_n 8 rfl rfl rfl ?_
    refine g_get 11 rfl ha (Nat.le_of_ble_eq_true rfl) rfl rfl ?_
    refine g_i2l 12 rfl rfl ?_
    refine g_aload_n 13 rfl rfl rfl ?_
    refine g_get 16 rfl ha (Nat.le_of_ble_eq_true rfl) rfl rfl ?_
    refine g_i2l 17 rfl rfl ?_
    refine g_lmul 18 rfl rfl ?_
    refine g_iload_n 19 rfl rfl rfl ?_
    refine g_i2l 20 rfl rfl ?_
    refine g_lmul 21 rfl rfl ?_
    refine g_ldc2_w (v := 100) 24 rfl (by decide) rfl ?_
    refine g_aload_n 25 rfl rfl rfl ?_
    refine g_get 28 rfl ha (Nat.le_of_ble_eq_true rfl) rfl rfl ?_
    refine g_i2l 29 rfl rfl ?_
    refine g_lsub 30 rfl rfl ?_
    refine g_iload_n 31 rfl rfl rfl ?_
    refine g_i2l 32 rfl rfl ?_
    refine g_lmul 33 rfl rfl ?_
    refine g_ladd 34 rfl rfl ?_
    refine g_goto 39 rfl ?_
    subst h
    exact g_lret rfl rfl

def f_172 (x0 : Int64) (x2 : Int32) (x3 : Int32) (U : sU) : Int32 :=
  if 0 ≤ (lg_cmp x0 x2.toInt64) then
    if (lg_cmp x0 x3.toInt64) ≤ 0 then
      x0.toInt32
    else
      x3
  else
    x2
set_option maxRecDepth 10000 in
set_option maxHeartbeats 2000000 in
theorem F_172 (d : Nat) (x0 : Int64) (x2 : Int32) (x3 : Int32) (U : sU) : Rn (d + 0) sm_I172 [.long x0, .int x2, .int x3] U (some (.int (f_172 x0 x2 x3 U))) U := by
  refine Rn_of [(0, .long x0), (2, .int x2), (3, .int x3)] (Nat.le_of_ble_eq_true rfl) (Sc rfl (Sc rfl (Sc rfl (Sn _)))) ?_
  generalize h : f_172 x0 x2 x3 U = r
  first | rw [f_172] at h | rw [f_172.eq_def] at h
  refine g_lload_n 1 rfl rfl rfl ?_
  refine g_iload_n 2 rfl rfl rfl ?_
  refine g_i2l 3 rfl rfl ?_
  refine g_lcmp 4 rfl rfl ?_
  refine g_if_ge 11 7 rfl rfl (fun c1 => ?_) (fun c1 => ?_)
  · rw [if_pos c1] at h
    refine g_lload_n 12 rfl rfl rfl ?_
    refine g_iload_n 13 rfl rfl rfl ?_
    refine g_i2l 14 rfl rfl ?_
    refine g_lcmp 15 rfl rfl ?_
    refine g_if_le 22 18 rfl rfl (fun c2 => ?_) (fun c2 => ?_)
    · rw [if_pos c2] at h
      refine g_lload_n 23 rfl rfl rfl ?_
      refine g_l2i 24 rfl rfl ?_
      subst h
      exact g_iret rfl rfl
    · rw [if_neg c2] at h
      refine g_iload_n 19 rfl rfl rfl ?_
      refine g_goto 24 rfl ?_
      subst h
      exact g_iret rfl rfl
  · rw [if_neg c1] at h
    refine g_iload_n 8 rfl rfl rfl ?_
    refine g_goto 24 rfl ?_
    subst h
    exact g_iret rfl rfl

def f_50 (x0 : Int64) (x2 : Int64) (U : sU) : Option Int32 :=
  if (lg_cmp (2 * x0) 0) = 0 then
    some 0
  else
    Option.bind (f_284 (x0 - (2 * x2)) (2 * x0) U) fun q2 =>
    some (f_172 (-q2) 0 999 U)
set_option maxRecDepth 10000 in
set_option maxHeartbeats 2000000 in
theorem F_50 (d : Nat) (x0 : Int64) (x2 : Int64) {U : sU} {r : Int32} (h : f_50 x0 x2 U = some r) : Rn (d + 1) sm_I50 [.long x0, .long x2] U (some (.int r)) U := by
  refine Rn_of [(0, .long x0), (2, .long x2)] (Nat.le_of_ble_eq_true rfl) (Sc rfl (Sc rfl (Sn _))) ?_
  first | rw [f_50] at h | rw [f_50.eq_def] at h
  refine g_ldc2_w (v := 2) 3 rfl (by decide) rfl ?_
  refine g_lload_n 4 rfl rfl rfl ?_
  refine g_lmul 5 rfl rfl ?_
  refine g_lstore 7 [(4, .long (2 * x0)), (0, .long x0), (2, .long x2)] rfl (Nat.le_of_ble_eq_true rfl) rfl rfl ?_
  refine g_lload 9 rfl rfl rfl ?_
  refine g_lconst (v := 0) 10 rfl rfl rfl ?_
  refine g_lcmp 11 rfl rfl ?_
  refine g_if_ne 18 14 rfl rfl (fun c1 => ?_) (fun c1 => ?_)
  · rw [if_neg c1] at h
    refine g_lload_n 19 rfl rfl rfl ?_
    refine g_ldc2_w (v := 2) 22 rfl (by decide) rfl ?_
    refine g_lload_n 23 rfl rfl rfl ?_
    refine g_lmul 24 rfl rfl ?_
    refine g_lsub 25 rfl rfl ?_
    refine g_lload 27 rfl rfl rfl ?_
    obtain ⟨q2, hq2, h⟩ := Option.bind_eq_some_iff.mp h
    refine g_callS (J := sm_I284) 30 rfl (by decide) rfl rfl (Nat.le_of_ble_eq_true rfl) (Nat.le_of_ble_eq_true rfl) rfl rfl (F_284 d (x0 - (2 * x2)) (2 * x0) hq2) ?_
    refine g_lneg 31 rfl rfl ?_
    refine g_iconst (v := 0) 32 rfl rfl rfl ?_
    refine g_sipush (v := 999) 35 rfl (by decide) rfl ?_
    refine g_callS (J := sm_I172) 38 rfl (by decide) rfl rfl (Nat.le_of_ble_eq_true rfl) (Nat.le_of_ble_eq_true rfl) rfl rfl (F_172 d (-q2) 0 999 U) ?_
    cases h
    exact g_iret rfl rfl
  · rw [if_pos c1] at h
    refine g_iconst (v := 0) 15 rfl rfl rfl ?_
    refine g_goto 38 rfl ?_
    cases h
    exact g_iret rfl rfl

def f_51_56 (k9 : Nat → Int32 → Int64 → Int32 → Int32 → Int32 → sU → Option Int32) (a : Nat) (v1 : Int32) (v2 : Int64) (v5 : Int32) (v6 : Int32) (v7 : Int32) (z0 : Int32) (z1 : Int32) (U : sU) : Option Int32 :=
  if (lg_cmp (2 * (f_48 a (z0 + z1) (v5 + v7) U)) v2) < 0 then
    k9 a v1 v2 (z0 + z1) (v5 + v7) (v6 + 1) U
  else
    some (f_172 (((iget ((tk U a) + 1) v6 U) + (U.1 a 7)).toInt64) 0 999 U)
set_option maxRecDepth 10000 in
set_option maxHeartbeats 2000000 in
theorem F_51_56 (d : Nat) {k9 : Nat → Int32 → Int64 → Int32 → Int32 → Int32 → sU → Option Int32} (hk9 : ∀ (a : Nat) (ha : sh a = 4) (v1 : Int32) (v2 : Int64) (v4 : Int32) (v5 : Int32) (v6 : Int32) (U : sU) (r : Int32), k9 a v1 v2 v4 v5 v6 U = some r → G (d + 1) sm_I51 9 [(0, .ref a), (1, .int v1), (2, .long v2), (4, .int v4), (5, .int v5), (6, .int v6)] [] U (some (.int r)) U) (a : Nat) (ha : sh a = 4) (v1 : Int32) (v2 : Int64) (v5 : Int32) (v6 : Int32) (v7 : Int32) (z0 : Int32) (z1 : Int32) {U : sU} {r : Int32} (h : f_51_56 k9 a v1 v2 v5 v6 v7 z0 z1 U = some r) : G (d + 1) sm_I51 56 [(0, .ref a), (1, .int v1), (2, .long v2), (5, .int v5), (6, .int v6), (7, .int v7)] [.int z1, .int z0] U (some (.int r)) U := by
  first | rw [f_51_56] at h | rw [f_51_56.eq_def] at h
  refine g_iadd 57 rfl rfl ?_
  refine g_istore 59 [(4, .int (z0 + z1)), (0, .ref a), (1, .int v1), (2, .long v2), (5, .int v5), (6, .int v6), (7, .int v7)] rfl (Nat.le_of_ble_eq_true rfl) rfl rfl ?_
  refine g_iload 61 rfl rfl rfl ?_
  refine g_iload 63 rfl rfl rfl ?_
  refine g_iadd 64 rfl rfl ?_
  refine g_istore 66 [(5, .int (v5 + v7)), (4, .int (z0 + z1)), (0, .ref a), (1, .int v1), (2, .long v2), (6, .int v6), (7, .int v7)] rfl (Nat.le_of_ble_eq_true rfl) rfl rfl ?_
  refine g_ldc2_w (v := 2) 69 rfl (by decide) rfl ?_
  refine g_aload_n 70 rfl rfl rfl ?_
  refine g_iload 72 rfl rfl rfl ?_
  refine g_iload 74 rfl rfl rfl ?_
  refine g_callV (J := sm_I48) 77 rfl (Nat.le_of_ble_eq_true rfl) rfl rfl (Nat.le_of_ble_eq_true rfl) ha (Nat.le_of_ble_eq_true rfl) (Nat.le_of_ble_eq_true rfl) rfl rfl (F_48 d a ha (z0 + z1) (v5 + v7) U) ?_
  refine g_lmul 78 rfl rfl ?_
  refine g_lload_n 79 rfl rfl rfl ?_
  refine g_lcmp 80 rfl rfl ?_
  refine g_if_lt 109 83 rfl rfl (fun c1 => ?_) (fun c1 => ?_)
  · rw [if_pos c1] at h
    refine g_iinc (v := v6 + 1) 112 [(6, .int (v6 + 1)), (5, .int (v5 + v7)), (4, .int (z0 + z1)), (0, .ref a), (1, .int v1), (2, .long v2), (7, .int v7)] rfl rfl (Nat.le_of_ble_eq_true rfl) rfl rfl rfl ?_
    refine g_goto 9 rfl ?_
    exact g_sub (Sc rfl (Sc rfl (Sc rfl (Sc rfl (Sc rfl (Sc rfl (Sn _))))))) (hk9 a ha v1 v2 (z0 + z1) (v5 + v7) (v6 + 1) _ _ h)
  · rw [if_neg c1] at h
    refine g_aload_n 84 rfl rfl rfl ?_
    refine g_get 87 rfl ha (Nat.le_of_ble_eq_true rfl) rfl rfl ?_
    refine g_get 90 rfl (tk_sh U a) (Nat.le_of_ble_eq_true rfl) rfl rfl ?_
    refine g_iload 92 rfl rfl rfl ?_
    refine g_callV (J := sm_I9) 95 rfl (Nat.le_of_ble_eq_true rfl) rfl rfl (Nat.le_of_ble_eq_true rfl) (sh_8_1 (tk_sh U a)) (Nat.le_of_ble_eq_true rfl) (Nat.le_of_ble_eq_true rfl) rfl rfl (U_9 d ((tk U a) + 1) (sh_8_1 (tk_sh U a)) v6 U) ?_
    refine g_aload_n 96 rfl rfl rfl ?_
    refine g_get 99 rfl ha (Nat.le_of_ble_eq_true rfl) rfl rfl ?_
    refine g_iadd 100 rfl rfl ?_
    refine g_i2l 101 rfl rfl ?_
    refine g_iconst (v := 0) 102 rfl rfl rfl ?_
    refine g_sipush (v := 999) 105 rfl (by decide) rfl ?_
    refine g_callS (J := sm_I172) 108 rfl (by decide) rfl rfl (Nat.le_of_ble_eq_true rfl) (Nat.le_of_ble_eq_true rfl) rfl rfl (F_172 d (((iget ((tk U a) + 1) v6 U) + (U.1 a 7)).toInt64) 0 999 U) ?_
    cases h
    exact g_iret rfl rfl
def f_51_9 : Nat → Nat → Int32 → Int64 → Int32 → Int32 → Int32 → sU → Option Int32
  | 0, _, _, _, _, _, _, _ => none
  | n + 1, a, v1, v2, v4, v5, v6, U =>
    if (U.1 (tk U a) 2) ≤ v6 then
      some 0
    else
      if (iget (a + 1) v6 U) = v1 then
        f_51_56 (fun a v1 v2 v4 v5 v6 U => f_51_9 n a v1 v2 v4 v5 v6 U) a v1 v2 v5 v6 (iget ((tk U a) + 3) v6 U) v4 (iget ((tk U a) + 3) v6 U) U
      else
        f_51_56 (fun a v1 v2 v4 v5 v6 U => f_51_9 n a v1 v2 v4 v5 v6 U) a v1 v2 v5 v6 (iget ((tk U a) + 3) v6 U) v4 0 U
set_option maxRecDepth 10000 in
set_option maxHeartbeats 2000000 in
theorem F_51_9 (d : Nat)   : ∀ (n : Nat) (a : Nat) (ha : sh a = 4) (v1 : Int32) (v2 : Int64) (v4 : Int32) (v5 : Int32) (v6 : Int32) (U : sU) (r : Int32), f_51_9 n a v1 v2 v4 v5 v6 U = some r → G (d + 1) sm_I51 9 [(0, .ref a), (1, .int v1), (2, .long v2), (4, .int v4), (5, .int v5), (6, .int v6)] [] U (some (.int r)) U := by
  intro n
  induction n with
  | zero => intro a ha v1 v2 v4 v5 v6 U r h; cases h
  | succ n ih =>
    intro a ha v1 v2 v4 v5 v6 U r h
    first | rw [f_51_9] at h | (rw [f_51_9.eq_def] at h; dsimp only at h)
    refine g_iload 11 rfl rfl rfl ?_
    refine g_aload_n 12 rfl rfl rfl ?_
    refine g_get 15 rfl ha (Nat.le_of_ble_eq_true rfl) rfl rfl ?_
    refine g_get 18 rfl (tk_sh U a) (Nat.le_of_ble_eq_true rfl) rfl rfl ?_
    refine g_icmp_ge 115 21 rfl rfl (fun c2 => ?_) (fun c2 => ?_)
    · rw [if_pos c2] at h
      refine g_iconst (v := 0) 116 rfl rfl rfl ?_
      cases h
      exact g_iret rfl rfl
    · rw [if_neg c2] at h
      refine g_aload_n 22 rfl rfl rfl ?_
      refine g_get 25 rfl ha (Nat.le_of_ble_eq_true rfl) rfl rfl ?_
      refine g_get 28 rfl (tk_sh U a) (Nat.le_of_ble_eq_true rfl) rfl rfl ?_
      refine g_iload 30 rfl rfl rfl ?_
      refine g_callV (J := sm_I9) 33 rfl (Nat.le_of_ble_eq_true rfl) rfl rfl (Nat.le_of_ble_eq_true rfl) (sh_8_3 (tk_sh U a)) (Nat.le_of_ble_eq_true rfl) (Nat.le_of_ble_eq_true rfl) rfl rfl (U_9 d ((tk U a) + 3) (sh_8_3 (tk_sh U a)) v6 U) ?_
      refine g_istore 35 [(7, .int (iget ((tk U a) + 3) v6 U)), (0, .ref a), (1, .int v1), (2, .long v2), (4, .int v4), (5, .int v5), (6, .int v6)] rfl (Nat.le_of_ble_eq_true rfl) rfl rfl ?_
      refine g_iload 37 rfl rfl rfl ?_
      refine g_aload_n 38 rfl rfl rfl ?_
      refine g_get 41 rfl ha (Nat.le_of_ble_eq_true rfl) rfl rfl ?_
      refine g_iload 43 rfl rfl rfl ?_
      refine g_callV (J := sm_I9) 46 rfl (Nat.le_of_ble_eq_true rfl) rfl rfl (Nat.le_of_ble_eq_true rfl) (sh_4_1 ha) (Nat.le_of_ble_eq_true rfl) (Nat.le_of_ble_eq_true rfl) rfl rfl (U_9 d (a + 1) (sh_4_1 ha) v6 U) ?_
      refine g_iload_n 47 rfl rfl rfl ?_
      refine g_icmp_ne 55 50 rfl rfl (fun c3 => ?_) (fun c3 => ?_)
      · rw [if_neg c3] at h
        refine g_iconst (v := 0) 56 rfl rfl rfl ?_
        exact g_sub (Sc rfl (Sc rfl (Sc rfl (Sc rfl (Sc rfl (Sc rfl (Sn _))))))) (F_51_56 d (fun a ha v1 v2 v4 v5 v6 U r h => ih a ha v1 v2 v4 v5 v6 U r h) a ha v1 v2 v5 v6 (iget ((tk U a) + 3) v6 U) v4 0 h)
      · rw [if_pos c3] at h
        refine g_iload 52 rfl rfl rfl ?_
        refine g_goto 56 rfl ?_
        exact g_sub (Sc rfl (Sc rfl (Sc rfl (Sc rfl (Sc rfl (Sc rfl (Sn _))))))) (F_51_56 d (fun a ha v1 v2 v4 v5 v6 U r h => ih a ha v1 v2 v4 v5 v6 U r h) a ha v1 v2 v5 v6 (iget ((tk U a) + 3) v6 U) v4 (iget ((tk U a) + 3) v6 U) h)
def f_51 (a : Nat) (x1 : Int32) (x2 : Int64) (U : sU) : Option Int32 :=
  f_51_9 FU a x1 x2 0 0 0 U
set_option maxRecDepth 10000 in
set_option maxHeartbeats 2000000 in
theorem F_51 (d : Nat) (a : Nat) (ha : sh a = 4) (x1 : Int32) (x2 : Int64) {U : sU} {r : Int32} (h : f_51 a x1 x2 U = some r) : Rn (d + 1) sm_I51 [.ref a, .int x1, .long x2] U (some (.int r)) U := by
  refine Rn_of [(0, .ref a), (1, .int x1), (2, .long x2)] (Nat.le_of_ble_eq_true rfl) (Sc rfl (Sc rfl (Sc rfl (Sn _)))) ?_
  first | rw [f_51] at h | rw [f_51.eq_def] at h
  refine g_iconst (v := 0) 1 rfl rfl rfl ?_
  refine g_istore 3 [(4, .int 0), (0, .ref a), (1, .int x1), (2, .long x2)] rfl (Nat.le_of_ble_eq_true rfl) rfl rfl ?_
  refine g_iconst (v := 0) 4 rfl rfl rfl ?_
  refine g_istore 6 [(5, .int 0), (4, .int 0), (0, .ref a), (1, .int x1), (2, .long x2)] rfl (Nat.le_of_ble_eq_true rfl) rfl rfl ?_
  refine g_iconst (v := 0) 7 rfl rfl rfl ?_
  refine g_istore 9 [(6, .int 0), (5, .int 0), (4, .int 0), (0, .ref a), (1, .int x1), (2, .long x2)] rfl (Nat.le_of_ble_eq_true rfl) rfl rfl ?_
  exact g_sub (Sc rfl (Sc rfl (Sc rfl (Sc rfl (Sc rfl (Sc rfl (Sn _))))))) (F_51_9 d _ a ha x1 x2 0 0 0 _ _ h)

def f_49 (a : Nat) (x1 : Int32) (U : sU) : Option Int32 :=
  if (U.1 (tk U a) 6) = 0 then
    Option.bind (f_50 (f_48 a (iget (a + 5) x1 U) (U.1 a 4) U) (f_48 a (iget (a + 7) x1 U) (U.1 a 5) U) U) fun q3 =>
    some q3
  else
    Option.bind (f_51 a x1 (f_48 a (iget (a + 5) x1 U) (U.1 a 4) U) U) fun q2 =>
    some q2
set_option maxRecDepth 10000 in
set_option maxHeartbeats 2000000 in
theorem F_49 (d : Nat) (a : Nat) (ha : sh a = 4) (x1 : Int32) {U : sU} {r : Int32} (h : f_49 a x1 U = some r) : Rn (d + 2) sm_I49 [.ref a, .int x1] U (some (.int r)) U := by
  refine Rn_of [(0, .ref a), (1, .int x1)] (Nat.le_of_ble_eq_true rfl) (Sc rfl (Sc rfl (Sn _))) ?_
  first | rw [f_49] at h | rw [f_49.eq_def] at h
  refine g_aload_n 1 rfl rfl rfl ?_
  refine g_aload_n 2 rfl rfl rfl ?_
  refine g_get 5 rfl ha (Nat.le_of_ble_eq_true rfl) rfl rfl ?_
  refine g_iload_n 6 rfl rfl rfl ?_
  refine g_callV (J := sm_I9) 9 rfl (Nat.le_of_ble_eq_true rfl) rfl rfl (Nat.le_of_ble_eq_true rfl) (sh_4_5 ha) (Nat.le_of_ble_eq_true rfl) (Nat.le_of_ble_eq_true rfl) rfl rfl (U_9 (d + 1) (a + 5) (sh_4_5 ha) x1 U) ?_
  refine g_aload_n 10 rfl rfl rfl ?_
  refine g_get 13 rfl ha (Nat.le_of_ble_eq_true rfl) rfl rfl ?_
  refine g_callV (J := sm_I48) 16 rfl (Nat.le_of_ble_eq_true rfl) rfl rfl (Nat.le_of_ble_eq_true rfl) ha (Nat.le_of_ble_eq_true rfl) (Nat.le_of_ble_eq_true rfl) rfl rfl (F_48 (d + 1) a ha (iget (a + 5) x1 U) (U.1 a 4) U) ?_
  refine g_lstore_n 17 [(2, .long (f_48 a (iget (a + 5) x1 U) (U.1 a 4) U)), (0, .ref a), (1, .int x1)] rfl (Nat.le_of_ble_eq_true rfl) rfl rfl ?_
  refine g_aload_n 18 rfl rfl rfl ?_
  refine g_get 21 rfl ha (Nat.le_of_ble_eq_true rfl) rfl rfl ?_
  refine g_get 24 rfl (tk_sh U a) (Nat.le_of_ble_eq_true rfl) rfl rfl ?_
  refine g_if_ne 48 27 rfl rfl (fun c1 => ?_) (fun c1 => ?_)
  · rw [if_neg c1] at h
    refine g_aload_n 49 rfl rfl rfl ?_
    refine g_iload_n 50 rfl rfl rfl ?_
    refine g_lload_n 51 rfl rfl rfl ?_
    obtain ⟨q2, hq2, h⟩ := Option.bind_eq_some_iff.mp h
    refine g_callV (J := sm_I51) 54 rfl (Nat.le_of_ble_eq_true rfl) rfl rfl (Nat.le_of_ble_eq_true rfl) ha (Nat.le_of_ble_eq_true rfl) (Nat.le_of_ble_eq_true rfl) rfl rfl (F_51 d a ha x1 (f_48 a (iget (a + 5) x1 U) (U.1 a 4) U) hq2) ?_
    cases h
    exact g_iret rfl rfl
  · rw [if_pos c1] at h
    refine g_lload_n 28 rfl rfl rfl ?_
    refine g_aload_n 29 rfl rfl rfl ?_
    refine g_aload_n 30 rfl rfl rfl ?_
    refine g_get 33 rfl ha (Nat.le_of_ble_eq_true rfl) rfl rfl ?_
    refine g_iload_n 34 rfl rfl rfl ?_
    refine g_callV (J := sm_I9) 37 rfl (Nat.le_of_ble_eq_true rfl) rfl rfl (Nat.le_of_ble_eq_true rfl) (sh_4_7 ha) (Nat.le_of_ble_eq_true rfl) (Nat.le_of_ble_eq_true rfl) rfl rfl (U_9 (d + 1) (a + 7) (sh_4_7 ha) x1 U) ?_
    refine g_aload_n 38 rfl rfl rfl ?_
    refine g_get 41 rfl ha (Nat.le_of_ble_eq_true rfl) rfl rfl ?_
    refine g_callV (J := sm_I48) 44 rfl (Nat.le_of_ble_eq_true rfl) rfl rfl (Nat.le_of_ble_eq_true rfl) ha (Nat.le_of_ble_eq_true rfl) (Nat.le_of_ble_eq_true rfl) rfl rfl (F_48 (d + 1) a ha (iget (a + 7) x1 U) (U.1 a 5) U) ?_
    obtain ⟨q3, hq3, h⟩ := Option.bind_eq_some_iff.mp h
    refine g_callS (J := sm_I50) 47 rfl (by decide) rfl rfl (Nat.le_of_ble_eq_true rfl) (Nat.le_of_ble_eq_true rfl) rfl rfl (F_50 d (f_48 a (iget (a + 5) x1 U) (U.1 a 4) U) (f_48 a (iget (a + 7) x1 U) (U.1 a 5) U) hq3) ?_
    cases h
    exact g_iret rfl rfl

def f_41_6 : Nat → Nat → Int32 → sU → Option sU
  | 0, _, _, _ => none
  | n + 1, a, v1, U =>
    if 12 ≤ v1 then
      some U
    else
      if ((U.1 a 9) >>> (v1 &&& 31)) = 0 then
        some U
      else
        if (f_43 a v1 U) = 0 then
          f_41_6 n a (v1 + 1) U
        else
          Option.bind (f_49 a v1 U) fun q5 =>
          f_41_6 n a (v1 + 1) (iput (a + 3) v1 q5 U)
set_option maxRecDepth 10000 in
set_option maxHeartbeats 2000000 in
theorem F_41_6 (d : Nat)   : ∀ (n : Nat) (a : Nat) (ha : sh a = 4) (v1 : Int32) (U : sU) (U' : sU), f_41_6 n a v1 U = some U' → G (d + 3) sm_I41 6 [(0, .ref a), (1, .int v1)] [] U none U' := by
  intro n
  induction n with
  | zero => intro a ha v1 U U' h; cases h
  | succ n ih =>
    intro a ha v1 U U' h
    first | rw [f_41_6] at h | (rw [f_41_6.eq_def] at h; dsimp only at h)
    refine g_iload_n 7 rfl rfl rfl ?_
    refine g_bipush (v := 12) 9 rfl (by decide) rfl ?_
    refine g_icmp_ge 48 12 rfl rfl (fun c1 => ?_) (fun c1 => ?_)
    · rw [if_pos c1] at h
      cases h
      exact g_vret rfl rfl
    · rw [if_neg c1] at h
      refine g_aload_n 13 rfl rfl rfl ?_
      refine g_get 16 rfl ha (Nat.le_of_ble_eq_true rfl) rfl rfl ?_
      refine g_iload_n 17 rfl rfl rfl ?_
      refine g_ishr 18 rfl rfl ?_
      refine g_if_eq 48 21 rfl rfl (fun c2 => ?_) (fun c2 => ?_)
      · rw [if_pos c2] at h
        cases h
        exact g_vret rfl rfl
      · rw [if_neg c2] at h
        refine g_aload_n 22 rfl rfl rfl ?_
        refine g_iload_n 23 rfl rfl rfl ?_
        have r3 := F_43 (d + 2) a ha v1 U
        refine g_callV (J := sm_I43) 26 rfl (Nat.le_of_ble_eq_true rfl) rfl rfl (Nat.le_of_ble_eq_true rfl) ha (Nat.le_of_ble_eq_true rfl) (Nat.le_of_ble_eq_true rfl) rfl rfl r3 ?_
        refine g_if_eq 42 29 rfl rfl (fun c4 => ?_) (fun c4 => ?_)
        · rw [if_pos c4] at h
          refine g_iinc (v := v1 + 1) 45 [(1, .int (v1 + 1)), (0, .ref a)] rfl rfl (Nat.le_of_ble_eq_true rfl) rfl rfl rfl ?_
          refine g_goto 6 rfl ?_
          exact g_sub (Sc rfl (Sc rfl (Sn _))) (ih a ha (v1 + 1) _ _ h)
        · rw [if_neg c4] at h
          refine g_aload_n 30 rfl rfl rfl ?_
          refine g_get 33 rfl ha (Nat.le_of_ble_eq_true rfl) rfl rfl ?_
          refine g_iload_n 34 rfl rfl rfl ?_
          refine g_aload_n 35 rfl rfl rfl ?_
          refine g_iload_n 36 rfl rfl rfl ?_
          obtain ⟨q5, hq5, h⟩ := Option.bind_eq_some_iff.mp h
          refine g_callV (J := sm_I49) 39 rfl (Nat.le_of_ble_eq_true rfl) rfl rfl (Nat.le_of_ble_eq_true rfl) ha (Nat.le_of_ble_eq_true rfl) (Nat.le_of_ble_eq_true rfl) rfl rfl (F_49 d a ha v1 hq5) ?_
          refine g_callV (J := sm_I10) 42 rfl (Nat.le_of_ble_eq_true rfl) rfl rfl (Nat.le_of_ble_eq_true rfl) (sh_4_3 ha) (Nat.le_of_ble_eq_true rfl) (Nat.le_of_ble_eq_true rfl) rfl rfl (U_10 (d + 2) (a + 3) (sh_4_3 ha) v1 q5 U) ?_
          refine g_iinc (v := v1 + 1) 45 [(1, .int (v1 + 1)), (0, .ref a)] rfl rfl (Nat.le_of_ble_eq_true rfl) rfl rfl rfl ?_
          refine g_goto 6 rfl ?_
          exact g_sub (Sc rfl (Sc rfl (Sn _))) (ih a ha (v1 + 1) _ _ h)
def f_41 (a : Nat) (U : sU) : Option sU :=
  Option.bind (f_42 a U) fun q6 =>
  f_41_6 FU a 0 q6
set_option maxRecDepth 10000 in
set_option maxHeartbeats 2000000 in
theorem F_41 (d : Nat) (a : Nat) (ha : sh a = 4) {U : sU} {U' : sU} (h : f_41 a U = some U') : Rn (d + 3) sm_I41 [.ref a] U none U' := by
  refine Rn_of [(0, .ref a)] (Nat.le_of_ble_eq_true rfl) (Sc rfl (Sn _)) ?_
  first | rw [f_41] at h | rw [f_41.eq_def] at h
  refine g_aload_n 1 rfl rfl rfl ?_
  obtain ⟨q6, hq6, h⟩ := Option.bind_eq_some_iff.mp h
  refine g_callV (J := sm_I42) 4 rfl (Nat.le_of_ble_eq_true rfl) rfl rfl (Nat.le_of_ble_eq_true rfl) ha (Nat.le_of_ble_eq_true rfl) (Nat.le_of_ble_eq_true rfl) rfl rfl (F_42 (d + 1) a ha hq6) ?_
  refine g_iconst (v := 0) 5 rfl rfl rfl ?_
  refine g_istore_n 6 [(1, .int 0), (0, .ref a)] rfl (Nat.le_of_ble_eq_true rfl) rfl rfl ?_
  exact g_sub (Sc rfl (Sc rfl (Sn _))) (F_41_6 d _ a ha 0 _ _ h)

def f_40_101 (a : Nat) (v3 : Option Nat) (U : sU) : Option (Int32 × sU) :=
  Option.bind (f_41 a U) fun q1 =>
  match v3 with
  | none => none
  | some o2 =>
    if (q1.1 o2 2) = 5 then
      some (1, icpy (a + 3) (o2 + 3) (sI q1 a 12 1))
    else
      some (1, q1)
set_option maxRecDepth 10000 in
set_option maxHeartbeats 2000000 in
theorem F_40_101 (d : Nat)   (a : Nat) (ha : sh a = 4) (v3 : Option Nat) (hv3 : ∀ z, v3 = some z → sh z = 3) {U : sU} {r : Int32} {U' : sU} (h : f_40_101 a v3 U = some (r, U')) : G (d + 4) sm_I40 101 [(0, .ref a), (3, va_rf v3)] [] U (some (.int r)) U' := by
  first | rw [f_40_101] at h | rw [f_40_101.eq_def] at h
  refine g_aload_n 102 rfl rfl rfl ?_
  obtain ⟨q1, hq1, h⟩ := Option.bind_eq_some_iff.mp h
  refine g_callV (J := sm_I41) 105 rfl (Nat.le_of_ble_eq_true rfl) rfl rfl (Nat.le_of_ble_eq_true rfl) ha (Nat.le_of_ble_eq_true rfl) (Nat.le_of_ble_eq_true rfl) rfl rfl (F_41 d a ha hq1) ?_
  refine g_aload_nq (x := v3) 106 rfl rfl rfl ?_
  rcases ho2 : v3 with _ | o2
  · rw [ho2] at h; cases h
  rw [ho2] at h
  dsimp only at h
  refine g_get 109 rfl (hv3 o2 ho2) (Nat.le_of_ble_eq_true rfl) rfl rfl ?_
  refine g_iconst (v := 5) 110 rfl rfl rfl ?_
  refine g_icmp_ne 129 113 rfl rfl (fun c3 => ?_) (fun c3 => ?_)
  · rw [if_neg c3] at h
    refine g_iconst (v := 1) 130 rfl rfl rfl ?_
    cases h
    exact g_zret rfl rfl (Or.inr rfl)
  · rw [if_pos c3] at h
    refine g_aload_n 114 rfl rfl rfl ?_
    refine g_iconst (v := 1) 115 rfl rfl rfl ?_
    refine g_putZ 118 rfl ha (Nat.le_of_ble_eq_true rfl) (Nat.le_of_ble_eq_true rfl) rfl (Or.inr rfl) fs_4_12 rfl ?_
    refine g_aload_n 119 rfl rfl rfl ?_
    refine g_get 122 rfl ha (Nat.le_of_ble_eq_true rfl) rfl rfl ?_
    refine g_aload_n 123 rfl rfl rfl ?_
    refine g_get 126 rfl (hv3 o2 ho2) (Nat.le_of_ble_eq_true rfl) rfl rfl ?_
    refine g_callV (J := sm_I12) 129 rfl (Nat.le_of_ble_eq_true rfl) rfl rfl (Nat.le_of_ble_eq_true rfl) (sh_4_3 ha) (Nat.le_of_ble_eq_true rfl) (Nat.le_of_ble_eq_true rfl) rfl rfl (U_12 (d + 2) (a + 3) (sh_4_3 ha) (o2 + 3) (sh_3_3 (hv3 o2 ho2)) (sI q1 a 12 1)) ?_
    refine g_iconst (v := 1) 130 rfl rfl rfl ?_
    cases h
    exact g_zret rfl rfl (Or.inr rfl)
def f_40_54 : Nat → Nat → (Option Nat) → (Option Nat) → Int32 → sU → Option (Int32 × sU)
  | 0, _, _, _, _, _ => none
  | n + 1, a, v3, v4, v5, U =>
    match v4 with
    | none => none
    | some o4 =>
      if (U.1 o4 2) ≤ v5 then
        match v3 with
        | none => none
        | some o6 =>
          if (U.1 o6 2) = 2 then
            f_40_101 a (some o6) (f_36 a (U.1 o6 4) U)
          else
            f_40_101 a (some o6) U
      else
        match v3 with
        | none => none
        | some o8 =>
          f_40_54 n a (some o8) (some o4) (v5 + 1) (f_38 a v5 (iget (o8 + 1) v5 U) U)
set_option maxRecDepth 10000 in
set_option maxHeartbeats 2000000 in
theorem F_40_54 (d : Nat)   : ∀ (n : Nat) (a : Nat) (ha : sh a = 4) (v3 : Option Nat) (hv3 : ∀ z, v3 = some z → sh z = 3) (v4 : Option Nat) (hv4 : ∀ z, v4 = some z → sh z = 8) (v5 : Int32) (U : sU) (r : Int32) (U' : sU), f_40_54 n a v3 v4 v5 U = some (r, U') → G (d + 4) sm_I40 54 [(0, .ref a), (3, va_rf v3), (4, va_rf v4), (5, .int v5)] [] U (some (.int r)) U' := by
  intro n
  induction n with
  | zero => intro a ha v3 hv3 v4 hv4 v5 U r U' h; cases h
  | succ n ih =>
    intro a ha v3 hv3 v4 hv4 v5 U r U' h
    first | rw [f_40_54] at h | (rw [f_40_54.eq_def] at h; dsimp only at h)
    refine g_iload 56 rfl rfl rfl ?_
    refine g_aloadq (x := v4) 58 rfl rfl rfl ?_
    rcases ho4 : v4 with _ | o4
    · rw [ho4] at h; cases h
    rw [ho4] at h
    dsimp only at h
    refine g_get 61 rfl (hv4 o4 ho4) (Nat.le_of_ble_eq_true rfl) rfl rfl ?_
    refine g_icmp_ge 85 64 rfl rfl (fun c5 => ?_) (fun c5 => ?_)
    · rw [if_pos c5] at h
      refine g_aload_nq (x := v3) 86 rfl rfl rfl ?_
      rcases ho6 : v3 with _ | o6
      · rw [ho6] at h; cases h
      rw [ho6] at h
      dsimp only at h
      refine g_get 89 rfl (hv3 o6 ho6) (Nat.le_of_ble_eq_true rfl) rfl rfl ?_
      refine g_iconst (v := 2) 90 rfl rfl rfl ?_
      refine g_icmp_ne 101 93 rfl rfl (fun c7 => ?_) (fun c7 => ?_)
      · rw [if_neg c7] at h
        exact g_sub (Sc rfl (Sc rfl (Sn _))) (F_40_101 d a ha (some o6) (fun z hz => by cases hz; exact (hv3 o6 ho6)) h)
      · rw [if_pos c7] at h
        refine g_aload_n 94 rfl rfl rfl ?_
        refine g_aload_n 95 rfl rfl rfl ?_
        refine g_get 98 rfl (hv3 o6 ho6) (Nat.le_of_ble_eq_true rfl) rfl rfl ?_
        refine g_callV (J := sm_I36) 101 rfl (Nat.le_of_ble_eq_true rfl) rfl rfl (Nat.le_of_ble_eq_true rfl) ha (Nat.le_of_ble_eq_true rfl) (Nat.le_of_ble_eq_true rfl) rfl rfl (F_36 (d + 3) a ha (U.1 o6 4) U) ?_
        exact g_sub (Sc rfl (Sc rfl (Sn _))) (F_40_101 d a ha (some o6) (fun z hz => by cases hz; exact (hv3 o6 ho6)) h)
    · rw [if_neg c5] at h
      refine g_aload_n 65 rfl rfl rfl ?_
      refine g_iload 67 rfl rfl rfl ?_
      refine g_aload_nq (x := v3) 68 rfl rfl rfl ?_
      rcases ho8 : v3 with _ | o8
      · rw [ho8] at h; cases h
      rw [ho8] at h
      dsimp only at h
      refine g_get 71 rfl (hv3 o8 ho8) (Nat.le_of_ble_eq_true rfl) rfl rfl ?_
      refine g_iload 73 rfl rfl rfl ?_
      refine g_callV (J := sm_I9) 76 rfl (Nat.le_of_ble_eq_true rfl) rfl rfl (Nat.le_of_ble_eq_true rfl) (sh_3_1 (hv3 o8 ho8)) (Nat.le_of_ble_eq_true rfl) (Nat.le_of_ble_eq_true rfl) rfl rfl (U_9 (d + 3) (o8 + 1) (sh_3_1 (hv3 o8 ho8)) v5 U) ?_
      refine g_callV (J := sm_I38) 79 rfl (Nat.le_of_ble_eq_true rfl) rfl rfl (Nat.le_of_ble_eq_true rfl) ha (Nat.le_of_ble_eq_true rfl) (Nat.le_of_ble_eq_true rfl) rfl rfl (F_38 (d + 2) a ha v5 (iget (o8 + 1) v5 U) U) ?_
      refine g_iinc (v := v5 + 1) 82 [(5, .int (v5 + 1)), (0, .ref a), (3, .ref o8), (4, .ref o4)] rfl rfl (Nat.le_of_ble_eq_true rfl) rfl rfl rfl ?_
      refine g_goto 54 rfl ?_
      exact g_sub (Sc rfl (Sc rfl (Sc rfl (Sc rfl (Sn _))))) (ih a ha (some o8) (fun z hz => by cases hz; exact (hv3 o8 ho8)) (some o4) (fun z hz => by cases hz; exact (hv4 o4 ho4)) (v5 + 1) _ _ _ h)
def f_40_22 (a : Nat) (v3 : Option Nat) (z0 : Option Nat) (U : sU) : Option (Int32 × sU) :=
  match v3 with
  | none =>
    some (0, U)
  | some o9 =>
    match z0 with
    | none =>
      some (0, U)
    | some o10 =>
      f_40_54 FU a (some o9) (some o10) 0 (f_35 a o10 (U.1 o10 4) (U.1 o10 3) U)
set_option maxRecDepth 10000 in
set_option maxHeartbeats 2000000 in
theorem F_40_22 (d : Nat)   (a : Nat) (ha : sh a = 4) (v3 : Option Nat) (hv3 : ∀ z, v3 = some z → sh z = 3) (z0 : Option Nat) (hz0 : ∀ z, z0 = some z → sh z = 8) {U : sU} {r : Int32} {U' : sU} (h : f_40_22 a v3 z0 U = some (r, U')) : G (d + 4) sm_I40 22 [(0, .ref a), (3, va_rf v3)] [va_rf z0] U (some (.int r)) U' := by
  first | rw [f_40_22] at h | rw [f_40_22.eq_def] at h
  refine g_astoreq (x := z0) 24 [(4, va_rf z0), (0, .ref a), (3, va_rf v3)] rfl (Nat.le_of_ble_eq_true rfl) (by generalize v3 = y; cases y <;> rfl) rfl ?_
  refine g_aload_nq (x := v3) 25 rfl rfl rfl ?_
  rcases ho9 : v3 with _ | o9
  · rw [ho9] at h
    dsimp only at h
    refine g_ifnullN 33 rfl rfl ?_
    refine g_iconst (v := 0) 34 rfl rfl rfl ?_
    cases h
    exact g_zret rfl rfl (Or.inl rfl)
  · rw [ho9] at h
    dsimp only at h
    refine g_ifnull 28 rfl rfl ?_
    refine g_aloadq (x := z0) 30 rfl rfl rfl ?_
    rcases ho10 : z0 with _ | o10
    · rw [ho10] at h
      dsimp only at h
      refine g_ifnonnullN 33 rfl rfl ?_
      refine g_iconst (v := 0) 34 rfl rfl rfl ?_
      cases h
      exact g_zret rfl rfl (Or.inl rfl)
    · rw [ho10] at h
      dsimp only at h
      refine g_ifnonnull 35 rfl rfl ?_
      refine g_aload_n 36 rfl rfl rfl ?_
      refine g_aload 38 rfl rfl rfl ?_
      refine g_aload 40 rfl rfl rfl ?_
      refine g_get 43 rfl (hz0 o10 ho10) (Nat.le_of_ble_eq_true rfl) rfl rfl ?_
      refine g_aload 45 rfl rfl rfl ?_
      refine g_get 48 rfl (hz0 o10 ho10) (Nat.le_of_ble_eq_true rfl) rfl rfl ?_
      refine g_callV (J := sm_I35) 51 rfl (Nat.le_of_ble_eq_true rfl) rfl rfl (Nat.le_of_ble_eq_true rfl) ha (Nat.le_of_ble_eq_true rfl) (Nat.le_of_ble_eq_true rfl) rfl rfl (F_35 (d + 2) a ha o10 (hz0 o10 ho10) (U.1 o10 4) (U.1 o10 3) U) ?_
      refine g_iconst (v := 0) 52 rfl rfl rfl ?_
      refine g_istore 54 [(5, .int 0), (4, .ref o10), (0, .ref a), (3, .ref o9)] rfl (Nat.le_of_ble_eq_true rfl) rfl rfl ?_
      exact g_sub (Sc rfl (Sc rfl (Sc rfl (Sc rfl (Sn _))))) (F_40_54 d _ a ha (some o9) (fun z hz => by cases hz; exact (hv3 o9 ho9)) (some o10) (fun z hz => by cases hz; exact (hz0 o10 ho10)) 0 _ _ _ h)
def f_40 (a : Nat) (x1 : Nat) (x2 : Int32) (U : sU) : Option (Int32 × sU) :=
  match mat x1 x2 U with
  | none =>
    f_40_22 a none none U
  | some o11 =>
    f_40_22 a (some o11) (tat x1 (U.1 o11 3) U) U
set_option maxRecDepth 10000 in
set_option maxHeartbeats 2000000 in
theorem F_40 (d : Nat) (a : Nat) (ha : sh a = 4) (x1 : Nat) (hx1 : sh x1 = 7) (x2 : Int32) {U : sU} {r : Int32} {U' : sU} (h : f_40 a x1 x2 U = some (r, U')) : Rn (d + 4) sm_I40 [.ref a, .ref x1, .int x2] U (some (.int r)) U' := by
  refine Rn_of [(0, .ref a), (1, .ref x1), (2, .int x2)] (Nat.le_of_ble_eq_true rfl) (Sc rfl (Sc rfl (Sc rfl (Sn _)))) ?_
  first | rw [f_40] at h | rw [f_40.eq_def] at h
  refine g_aload_n 1 rfl rfl rfl ?_
  refine g_iload_n 2 rfl rfl rfl ?_
  refine g_callV (J := sm_I94) 5 rfl (Nat.le_of_ble_eq_true rfl) rfl rfl (Nat.le_of_ble_eq_true rfl) hx1 (Nat.le_of_ble_eq_true rfl) (Nat.le_of_ble_eq_true rfl) rfl rfl (U_94 (d + 3) x1 hx1 x2 U) ?_
  refine g_astore_nq (x := mat x1 x2 U) 6 [(3, va_rf (mat x1 x2 U)), (0, .ref a), (1, .ref x1), (2, .int x2)] rfl (Nat.le_of_ble_eq_true rfl) rfl rfl ?_
  refine g_aload_nq (x := mat x1 x2 U) 7 rfl rfl rfl ?_
  rcases ho11 : mat x1 x2 U with _ | o11
  · rw [ho11] at h
    dsimp only at h
    refine g_ifnonnullN 10 rfl rfl ?_
    refine g_aconst_null 11 rfl rfl ?_
    refine g_goto 22 rfl ?_
    exact g_sub (Sc rfl (Sc rfl (Sn _))) (F_40_22 d a ha none (fun z hz => by cases hz) none (fun z hz => by cases hz) h)
  · rw [ho11] at h
    dsimp only at h
    refine g_ifnonnull 14 rfl rfl ?_
    refine g_aload_n 15 rfl rfl rfl ?_
    refine g_aload_n 16 rfl rfl rfl ?_
    refine g_get 19 rfl ((fun z hz => tagU_94 x1 hx1 x2 U z hz) o11 ho11) (Nat.le_of_ble_eq_true rfl) rfl rfl ?_
    refine g_callV (J := sm_I93) 22 rfl (Nat.le_of_ble_eq_true rfl) rfl rfl (Nat.le_of_ble_eq_true rfl) hx1 (Nat.le_of_ble_eq_true rfl) (Nat.le_of_ble_eq_true rfl) rfl rfl (U_93 (d + 3) x1 hx1 (U.1 o11 3) U) ?_
    exact g_sub (Sc rfl (Sc rfl (Sn _))) (F_40_22 d a ha (some o11) (fun z hz => by cases hz; exact ((fun z hz => tagU_94 x1 hx1 x2 U z hz) o11 ho11)) (tat x1 (U.1 o11 3) U) (fun z hz => tagU_93 x1 hx1 (U.1 o11 3) U z hz) h)

def f_102 (a : Nat) (x1 : Int32) (U : sU) : Int32 :=
  if x1 < 0 then
    0
  else
    if (U.1 a 2) ≤ x1 then
      0
    else
      1
set_option maxRecDepth 10000 in
set_option maxHeartbeats 2000000 in
theorem F_102 (d : Nat) (a : Nat) (ha : sh a = 8) (x1 : Int32) (U : sU) : Rn (d + 0) sm_I102 [.ref a, .int x1] U (some (.int (f_102 a x1 U))) U := by
  refine Rn_of [(0, .ref a), (1, .int x1)] (Nat.le_of_ble_eq_true rfl) (Sc rfl (Sc rfl (Sn _))) ?_
  generalize h : f_102 a x1 U = r
  first | rw [f_102] at h | rw [f_102.eq_def] at h
  refine g_iload_n 1 rfl rfl rfl ?_
  refine g_if_lt 16 4 rfl rfl (fun c1 => ?_) (fun c1 => ?_)
  · rw [if_pos c1] at h
    refine g_iconst (v := 0) 17 rfl rfl rfl ?_
    subst h
    exact g_zret rfl rfl (Or.inl rfl)
  · rw [if_neg c1] at h
    refine g_iload_n 5 rfl rfl rfl ?_
    refine g_aload_n 6 rfl rfl rfl ?_
    refine g_get 9 rfl ha (Nat.le_of_ble_eq_true rfl) rfl rfl ?_
    refine g_icmp_ge 16 12 rfl rfl (fun c2 => ?_) (fun c2 => ?_)
    · rw [if_pos c2] at h
      refine g_iconst (v := 0) 17 rfl rfl rfl ?_
      subst h
      exact g_zret rfl rfl (Or.inl rfl)
    · rw [if_neg c2] at h
      refine g_iconst (v := 1) 13 rfl rfl rfl ?_
      refine g_goto 17 rfl ?_
      subst h
      exact g_zret rfl rfl (Or.inr rfl)

def f_44 (a : Nat) (x1 : Int32) (U : sU) : Int32 :=
  f_102 (tk U a) x1 U
set_option maxRecDepth 10000 in
set_option maxHeartbeats 2000000 in
theorem F_44 (d : Nat) (a : Nat) (ha : sh a = 4) (x1 : Int32) (U : sU) : Rn (d + 1) sm_I44 [.ref a, .int x1] U (some (.int (f_44 a x1 U))) U := by
  refine Rn_of [(0, .ref a), (1, .int x1)] (Nat.le_of_ble_eq_true rfl) (Sc rfl (Sc rfl (Sn _))) ?_
  generalize h : f_44 a x1 U = r
  first | rw [f_44] at h | rw [f_44.eq_def] at h
  refine g_aload_n 1 rfl rfl rfl ?_
  refine g_get 4 rfl ha (Nat.le_of_ble_eq_true rfl) rfl rfl ?_
  refine g_iload_n 5 rfl rfl rfl ?_
  have r1 := F_102 d (tk U a) (tk_sh U a) x1 U
  refine g_callV (J := sm_I102) 8 rfl (Nat.le_of_ble_eq_true rfl) rfl rfl (Nat.le_of_ble_eq_true rfl) (tk_sh U a) (Nat.le_of_ble_eq_true rfl) (Nat.le_of_ble_eq_true rfl) rfl rfl r1 ?_
  subst h
  exact g_zret rfl rfl (Rn_z rfl r1)

def f_45 (a : Nat) (x1 : Int32) (U : sU) : Int32 :=
  iget (a + 1) x1 U
set_option maxRecDepth 10000 in
set_option maxHeartbeats 2000000 in
theorem F_45 (d : Nat) (a : Nat) (ha : sh a = 4) (x1 : Int32) (U : sU) : Rn (d + 1) sm_I45 [.ref a, .int x1] U (some (.int (f_45 a x1 U))) U := by
  refine Rn_of [(0, .ref a), (1, .int x1)] (Nat.le_of_ble_eq_true rfl) (Sc rfl (Sc rfl (Sn _))) ?_
  generalize h : f_45 a x1 U = r
  first | rw [f_45] at h | rw [f_45.eq_def] at h
  refine g_aload_n 1 rfl rfl rfl ?_
  refine g_get 4 rfl ha (Nat.le_of_ble_eq_true rfl) rfl rfl ?_
  refine g_iload_n 5 rfl rfl rfl ?_
  refine g_callV (J := sm_I9) 8 rfl (Nat.le_of_ble_eq_true rfl) rfl rfl (Nat.le_of_ble_eq_true rfl) (sh_4_1 ha) (Nat.le_of_ble_eq_true rfl) (Nat.le_of_ble_eq_true rfl) rfl rfl (U_9 d (a + 1) (sh_4_1 ha) x1 U) ?_
  subst h
  exact g_iret rfl rfl

def f_46 (a : Nat) (x1 : Int32) (U : sU) : Int32 :=
  iget (a + 3) x1 U
set_option maxRecDepth 10000 in
set_option maxHeartbeats 2000000 in
theorem F_46 (d : Nat) (a : Nat) (ha : sh a = 4) (x1 : Int32) (U : sU) : Rn (d + 1) sm_I46 [.ref a, .int x1] U (some (.int (f_46 a x1 U))) U := by
  refine Rn_of [(0, .ref a), (1, .int x1)] (Nat.le_of_ble_eq_true rfl) (Sc rfl (Sc rfl (Sn _))) ?_
  generalize h : f_46 a x1 U = r
  first | rw [f_46] at h | rw [f_46.eq_def] at h
  refine g_aload_n 1 rfl rfl rfl ?_
  refine g_get 4 rfl ha (Nat.le_of_ble_eq_true rfl) rfl rfl ?_
  refine g_iload_n 5 rfl rfl rfl ?_
  refine g_callV (J := sm_I9) 8 rfl (Nat.le_of_ble_eq_true rfl) rfl rfl (Nat.le_of_ble_eq_true rfl) (sh_4_3 ha) (Nat.le_of_ble_eq_true rfl) (Nat.le_of_ble_eq_true rfl) rfl rfl (U_9 d (a + 3) (sh_4_3 ha) x1 U) ?_
  subst h
  exact g_iret rfl rfl

def f_47_4 : Nat → Nat → Int32 → Int32 → Int32 → sU → Option Int32
  | 0, _, _, _, _, _ => none
  | n + 1, a, v1, v2, v3, U =>
    if (U.1 (tk U a) 2) ≤ v3 then
      some v2
    else
      if (iget (a + 1) v3 U) = v1 then
        f_47_4 n a v1 (v2 ||| (1 <<< (v3 &&& 31))) (v3 + 1) U
      else
        f_47_4 n a v1 (v2 ||| 0) (v3 + 1) U
set_option maxRecDepth 10000 in
set_option maxHeartbeats 2000000 in
theorem F_47_4 (d : Nat)   : ∀ (n : Nat) (a : Nat) (ha : sh a = 4) (v1 : Int32) (v2 : Int32) (v3 : Int32) (U : sU) (r : Int32), f_47_4 n a v1 v2 v3 U = some r → G (d + 1) sm_I47 4 [(0, .ref a), (1, .int v1), (2, .int v2), (3, .int v3)] [] U (some (.int r)) U := by
  intro n
  induction n with
  | zero => intro a ha v1 v2 v3 U r h; cases h
  | succ n ih =>
    intro a ha v1 v2 v3 U r h
    first | rw [f_47_4] at h | (rw [f_47_4.eq_def] at h; dsimp only at h)
    refine g_iload_n 5 rfl rfl rfl ?_
    refine g_aload_n 6 rfl rfl rfl ?_
    refine g_get 9 rfl ha (Nat.le_of_ble_eq_true rfl) rfl rfl ?_
    refine g_get 12 rfl (tk_sh U a) (Nat.le_of_ble_eq_true rfl) rfl rfl ?_
    refine g_icmp_ge 43 15 rfl rfl (fun c1 => ?_) (fun c1 => ?_)
    · rw [if_pos c1] at h
      refine g_iload_n 44 rfl rfl rfl ?_
      cases h
      exact g_iret rfl rfl
    · rw [if_neg c1] at h
      refine g_iload_n 16 rfl rfl rfl ?_
      refine g_aload_n 17 rfl rfl rfl ?_
      refine g_get 20 rfl ha (Nat.le_of_ble_eq_true rfl) rfl rfl ?_
      refine g_iload_n 21 rfl rfl rfl ?_
      refine g_callV (J := sm_I9) 24 rfl (Nat.le_of_ble_eq_true rfl) rfl rfl (Nat.le_of_ble_eq_true rfl) (sh_4_1 ha) (Nat.le_of_ble_eq_true rfl) (Nat.le_of_ble_eq_true rfl) rfl rfl (U_9 d (a + 1) (sh_4_1 ha) v3 U) ?_
      refine g_iload_n 25 rfl rfl rfl ?_
      refine g_icmp_ne 34 28 rfl rfl (fun c2 => ?_) (fun c2 => ?_)
      · rw [if_neg c2] at h
        refine g_iconst (v := 0) 35 rfl rfl rfl ?_
        refine g_ior 36 rfl rfl ?_
        refine g_istore_n 37 [(2, .int (v2 ||| 0)), (0, .ref a), (1, .int v1), (3, .int v3)] rfl (Nat.le_of_ble_eq_true rfl) rfl rfl ?_
        refine g_iinc (v := v3 + 1) 40 [(3, .int (v3 + 1)), (2, .int (v2 ||| 0)), (0, .ref a), (1, .int v1)] rfl rfl (Nat.le_of_ble_eq_true rfl) rfl rfl rfl ?_
        refine g_goto 4 rfl ?_
        exact g_sub (Sc rfl (Sc rfl (Sc rfl (Sc rfl (Sn _))))) (ih a ha v1 (v2 ||| 0) (v3 + 1) _ _ h)
      · rw [if_pos c2] at h
        refine g_iconst (v := 1) 29 rfl rfl rfl ?_
        refine g_iload_n 30 rfl rfl rfl ?_
        refine g_ishl 31 rfl rfl ?_
        refine g_goto 35 rfl ?_
        refine g_ior 36 rfl rfl ?_
        refine g_istore_n 37 [(2, .int (v2 ||| (1 <<< (v3 &&& 31)))), (0, .ref a), (1, .int v1), (3, .int v3)] rfl (Nat.le_of_ble_eq_true rfl) rfl rfl ?_
        refine g_iinc (v := v3 + 1) 40 [(3, .int (v3 + 1)), (2, .int (v2 ||| (1 <<< (v3 &&& 31)))), (0, .ref a), (1, .int v1)] rfl rfl (Nat.le_of_ble_eq_true rfl) rfl rfl rfl ?_
        refine g_goto 4 rfl ?_
        exact g_sub (Sc rfl (Sc rfl (Sc rfl (Sc rfl (Sn _))))) (ih a ha v1 (v2 ||| (1 <<< (v3 &&& 31))) (v3 + 1) _ _ h)
def f_47 (a : Nat) (x1 : Int32) (U : sU) : Option Int32 :=
  f_47_4 FU a x1 0 0 U
set_option maxRecDepth 10000 in
set_option maxHeartbeats 2000000 in
theorem F_47 (d : Nat) (a : Nat) (ha : sh a = 4) (x1 : Int32) {U : sU} {r : Int32} (h : f_47 a x1 U = some r) : Rn (d + 1) sm_I47 [.ref a, .int x1] U (some (.int r)) U := by
  refine Rn_of [(0, .ref a), (1, .int x1)] (Nat.le_of_ble_eq_true rfl) (Sc rfl (Sc rfl (Sn _))) ?_
  first | rw [f_47] at h | rw [f_47.eq_def] at h
  refine g_iconst (v := 0) 1 rfl rfl rfl ?_
  refine g_istore_n 2 [(2, .int 0), (0, .ref a), (1, .int x1)] rfl (Nat.le_of_ble_eq_true rfl) rfl rfl ?_
  refine g_iconst (v := 0) 3 rfl rfl rfl ?_
  refine g_istore_n 4 [(3, .int 0), (2, .int 0), (0, .ref a), (1, .int x1)] rfl (Nat.le_of_ble_eq_true rfl) rfl rfl ?_
  exact g_sub (Sc rfl (Sc rfl (Sc rfl (Sc rfl (Sn _))))) (F_47_4 d _ a ha x1 0 0 _ _ h)

def f_105 (a : Nat) (x1 : Int64) (U : sU) : Int64 :=
  if (U.1 a 6) = 0 then
    x1 * x1
  else
    if 0 ≤ (lg_cmp x1 0) then
      x1
    else
      -x1
set_option maxRecDepth 10000 in
set_option maxHeartbeats 2000000 in
theorem F_105 (d : Nat) (a : Nat) (ha : sh a = 8) (x1 : Int64) (U : sU) : Rn (d + 0) sm_I105 [.ref a, .long x1] U (some (.long (f_105 a x1 U))) U := by
  refine Rn_of [(0, .ref a), (1, .long x1)] (Nat.le_of_ble_eq_true rfl) (Sc rfl (Sc rfl (Sn _))) ?_
  generalize h : f_105 a x1 U = r
  first | rw [f_105] at h | rw [f_105.eq_def] at h
  refine g_aload_n 1 rfl rfl rfl ?_
  refine g_get 4 rfl ha (Nat.le_of_ble_eq_true rfl) rfl rfl ?_
  refine g_if_ne 11 7 rfl rfl (fun c1 => ?_) (fun c1 => ?_)
  · rw [if_neg c1] at h
    refine g_lload_n 12 rfl rfl rfl ?_
    refine g_lconst (v := 0) 13 rfl rfl rfl ?_
    refine g_lcmp 14 rfl rfl ?_
    refine g_if_ge 22 17 rfl rfl (fun c2 => ?_) (fun c2 => ?_)
    · rw [if_pos c2] at h
      refine g_lload_n 23 rfl rfl rfl ?_
      subst h
      exact g_lret rfl rfl
    · rw [if_neg c2] at h
      refine g_lload_n 18 rfl rfl rfl ?_
      refine g_lneg 19 rfl rfl ?_
      refine g_goto 23 rfl ?_
      subst h
      exact g_lret rfl rfl
  · rw [if_pos c1] at h
    refine g_lload_n 8 rfl rfl rfl ?_
    refine g_lload_n 9 rfl rfl rfl ?_
    refine g_lmul 10 rfl rfl ?_
    subst h
    exact g_lret rfl rfl

def f_52 (a : Nat) (x1 : Int32) (x2 : Int32) (x3 : Int32) (U : sU) : Int64 :=
  f_105 (tk U a) ((((iget (a + 3) x2 U) - (iget ((tk U a) + 1) x1 U)) - x3).toInt64) U
set_option maxRecDepth 10000 in
set_option maxHeartbeats 2000000 in
theorem F_52 (d : Nat) (a : Nat) (ha : sh a = 4) (x1 : Int32) (x2 : Int32) (x3 : Int32) (U : sU) : Rn (d + 1) sm_I52 [.ref a, .int x1, .int x2, .int x3] U (some (.long (f_52 a x1 x2 x3 U))) U := by
  refine Rn_of [(0, .ref a), (1, .int x1), (2, .int x2), (3, .int x3)] (Nat.le_of_ble_eq_true rfl) (Sc rfl (Sc rfl (Sc rfl (Sc rfl (Sn _))))) ?_
  generalize h : f_52 a x1 x2 x3 U = r
  first | rw [f_52] at h | rw [f_52.eq_def] at h
  refine g_aload_n 1 rfl rfl rfl ?_
  refine g_get 4 rfl ha (Nat.le_of_ble_eq_true rfl) rfl rfl ?_
  refine g_aload_n 5 rfl rfl rfl ?_
  refine g_get 8 rfl ha (Nat.le_of_ble_eq_true rfl) rfl rfl ?_
  refine g_iload_n 9 rfl rfl rfl ?_
  refine g_callV (J := sm_I9) 12 rfl (Nat.le_of_ble_eq_true rfl) rfl rfl (Nat.le_of_ble_eq_true rfl) (sh_4_3 ha) (Nat.le_of_ble_eq_true rfl) (Nat.le_of_ble_eq_true rfl) rfl rfl (U_9 d (a + 3) (sh_4_3 ha) x2 U) ?_
  refine g_aload_n 13 rfl rfl rfl ?_
  refine g_get 16 rfl ha (Nat.le_of_ble_eq_true rfl) rfl rfl ?_
  refine g_get 19 rfl (tk_sh U a) (Nat.le_of_ble_eq_true rfl) rfl rfl ?_
  refine g_iload_n 20 rfl rfl rfl ?_
  refine g_callV (J := sm_I9) 23 rfl (Nat.le_of_ble_eq_true rfl) rfl rfl (Nat.le_of_ble_eq_true rfl) (sh_8_1 (tk_sh U a)) (Nat.le_of_ble_eq_true rfl) (Nat.le_of_ble_eq_true rfl) rfl rfl (U_9 d ((tk U a) + 1) (sh_8_1 (tk_sh U a)) x1 U) ?_
  refine g_isub 24 rfl rfl ?_
  refine g_iload_n 25 rfl rfl rfl ?_
  refine g_isub 26 rfl rfl ?_
  refine g_i2l 27 rfl rfl ?_
  refine g_callV (J := sm_I105) 30 rfl (Nat.le_of_ble_eq_true rfl) rfl rfl (Nat.le_of_ble_eq_true rfl) (tk_sh U a) (Nat.le_of_ble_eq_true rfl) (Nat.le_of_ble_eq_true rfl) rfl rfl (F_105 d (tk U a) (tk_sh U a) ((((iget (a + 3) x2 U) - (iget ((tk U a) + 1) x1 U)) - x3).toInt64) U) ?_
  subst h
  exact g_lret rfl rfl

def f_53_21 : Nat → Nat → Int32 → Int32 → Int32 → Int64 → Int32 → sU → Option Int64
  | 0, _, _, _, _, _, _, _ => none
  | n + 1, a, v1, v2, v3, v4, v6, U =>
    if 12 ≤ v6 then
      some (((((U.1 a 13).toInt64) * ((U.1 a 10).toInt64)) * (f_52 a v1 v2 v3 U)) + (((100 - (U.1 a 13)).toInt64) * v4))
    else
      if (f_43 a v6 U) = 0 then
        f_53_21 n a v1 v2 v3 (v4 + 0) (v6 + 1) U
      else
        f_53_21 n a v1 v2 v3 (v4 + (f_52 a v1 v6 v3 U)) (v6 + 1) U
set_option maxRecDepth 10000 in
set_option maxHeartbeats 2000000 in
theorem F_53_21 (d : Nat)   : ∀ (n : Nat) (a : Nat) (ha : sh a = 4) (v1 : Int32) (v2 : Int32) (v3 : Int32) (v4 : Int64) (v6 : Int32) (U : sU) (r : Int64), f_53_21 n a v1 v2 v3 v4 v6 U = some r → G (d + 2) sm_I53 21 [(0, .ref a), (1, .int v1), (2, .int v2), (3, .int v3), (4, .long v4), (6, .int v6)] [] U (some (.long r)) U := by
  intro n
  induction n with
  | zero => intro a ha v1 v2 v3 v4 v6 U r h; cases h
  | succ n ih =>
    intro a ha v1 v2 v3 v4 v6 U r h
    first | rw [f_53_21] at h | (rw [f_53_21.eq_def] at h; dsimp only at h)
    refine g_iload 23 rfl rfl rfl ?_
    refine g_bipush (v := 12) 25 rfl (by decide) rfl ?_
    refine g_icmp_ge 60 28 rfl rfl (fun c1 => ?_) (fun c1 => ?_)
    · rw [if_pos c1] at h
      refine g_aload_n 61 rfl rfl rfl ?_
      refine g_get 64 rfl ha (Nat.le_of_ble_eq_true rfl) rfl rfl ?_
      refine g_i2l 65 rfl rfl ?_
      refine g_aload_n 66 rfl rfl rfl ?_
      refine g_get 69 rfl ha (Nat.le_of_ble_eq_true rfl) rfl rfl ?_
      refine g_i2l 70 rfl rfl ?_
      refine g_lmul 71 rfl rfl ?_
      refine g_aload_n 72 rfl rfl rfl ?_
      refine g_iload_n 73 rfl rfl rfl ?_
      refine g_iload_n 74 rfl rfl rfl ?_
      refine g_iload_n 75 rfl rfl rfl ?_
      refine g_callV (J := sm_I52) 78 rfl (Nat.le_of_ble_eq_true rfl) rfl rfl (Nat.le_of_ble_eq_true rfl) ha (Nat.le_of_ble_eq_true rfl) (Nat.le_of_ble_eq_true rfl) rfl rfl (F_52 d a ha v1 v2 v3 U) ?_
      refine g_lmul 79 rfl rfl ?_
      refine g_bipush (v := 100) 81 rfl (by decide) rfl ?_
      refine g_aload_n 82 rfl rfl rfl ?_
      refine g_get 85 rfl ha (Nat.le_of_ble_eq_true rfl) rfl rfl ?_
      refine g_isub 86 rfl rfl ?_
      refine g_i2l 87 rfl rfl ?_
      refine g_lload 89 rfl rfl rfl ?_
      refine g_lmul 90 rfl rfl ?_
      refine g_ladd 91 rfl rfl ?_
      cases h
      exact g_lret rfl rfl
    · rw [if_neg c1] at h
      refine g_lload 30 rfl rfl rfl ?_
      refine g_aload_n 31 rfl rfl rfl ?_
      refine g_iload 33 rfl rfl rfl ?_
      have r2 := F_43 (d + 1) a ha v6 U
      refine g_callV (J := sm_I43) 36 rfl (Nat.le_of_ble_eq_true rfl) rfl rfl (Nat.le_of_ble_eq_true rfl) ha (Nat.le_of_ble_eq_true rfl) (Nat.le_of_ble_eq_true rfl) rfl rfl r2 ?_
      refine g_if_eq 50 39 rfl rfl (fun c3 => ?_) (fun c3 => ?_)
      · rw [if_pos c3] at h
        refine g_lconst (v := 0) 51 rfl rfl rfl ?_
        refine g_ladd 52 rfl rfl ?_
        refine g_lstore 54 [(4, .long (v4 + 0)), (0, .ref a), (1, .int v1), (2, .int v2), (3, .int v3), (6, .int v6)] rfl (Nat.le_of_ble_eq_true rfl) rfl rfl ?_
        refine g_iinc (v := v6 + 1) 57 [(6, .int (v6 + 1)), (4, .long (v4 + 0)), (0, .ref a), (1, .int v1), (2, .int v2), (3, .int v3)] rfl rfl (Nat.le_of_ble_eq_true rfl) rfl rfl rfl ?_
        refine g_goto 21 rfl ?_
        exact g_sub (Sc rfl (Sc rfl (Sc rfl (Sc rfl (Sc rfl (Sc rfl (Sn _))))))) (ih a ha v1 v2 v3 (v4 + 0) (v6 + 1) _ _ h)
      · rw [if_neg c3] at h
        refine g_aload_n 40 rfl rfl rfl ?_
        refine g_iload_n 41 rfl rfl rfl ?_
        refine g_iload 43 rfl rfl rfl ?_
        refine g_iload_n 44 rfl rfl rfl ?_
        refine g_callV (J := sm_I52) 47 rfl (Nat.le_of_ble_eq_true rfl) rfl rfl (Nat.le_of_ble_eq_true rfl) ha (Nat.le_of_ble_eq_true rfl) (Nat.le_of_ble_eq_true rfl) rfl rfl (F_52 d a ha v1 v6 v3 U) ?_
        refine g_goto 51 rfl ?_
        refine g_ladd 52 rfl rfl ?_
        refine g_lstore 54 [(4, .long (v4 + (f_52 a v1 v6 v3 U))), (0, .ref a), (1, .int v1), (2, .int v2), (3, .int v3), (6, .int v6)] rfl (Nat.le_of_ble_eq_true rfl) rfl rfl ?_
        refine g_iinc (v := v6 + 1) 57 [(6, .int (v6 + 1)), (4, .long (v4 + (f_52 a v1 v6 v3 U))), (0, .ref a), (1, .int v1), (2, .int v2), (3, .int v3)] rfl rfl (Nat.le_of_ble_eq_true rfl) rfl rfl rfl ?_
        refine g_goto 21 rfl ?_
        exact g_sub (Sc rfl (Sc rfl (Sc rfl (Sc rfl (Sc rfl (Sc rfl (Sn _))))))) (ih a ha v1 v2 v3 (v4 + (f_52 a v1 v6 v3 U)) (v6 + 1) _ _ h)
def f_53 (a : Nat) (x1 : Int32) (x2 : Int32) (x3 : Int32) (U : sU) : Option Int64 :=
  if (U.1 a 11) = 0 then
    some (f_52 a x1 x2 x3 U)
  else
    f_53_21 FU a x1 x2 x3 0 0 U
set_option maxRecDepth 10000 in
set_option maxHeartbeats 2000000 in
theorem F_53 (d : Nat) (a : Nat) (ha : sh a = 4) (x1 : Int32) (x2 : Int32) (x3 : Int32) {U : sU} {r : Int64} (h : f_53 a x1 x2 x3 U = some r) : Rn (d + 2) sm_I53 [.ref a, .int x1, .int x2, .int x3] U (some (.long r)) U := by
  refine Rn_of [(0, .ref a), (1, .int x1), (2, .int x2), (3, .int x3)] (Nat.le_of_ble_eq_true rfl) (Sc rfl (Sc rfl (Sc rfl (Sc rfl (Sn _))))) ?_
  first | rw [f_53] at h | rw [f_53.eq_def] at h
  refine g_aload_n 1 rfl rfl rfl ?_
  refine g_get 4 rfl ha (Nat.le_of_ble_eq_true rfl) rfl rfl ?_
  refine g_if_ne 15 7 rfl rfl (fun c4 => ?_) (fun c4 => ?_)
  · rw [if_neg c4] at h
    refine g_lconst (v := 0) 16 rfl rfl rfl ?_
    refine g_lstore 18 [(4, .long 0), (0, .ref a), (1, .int x1), (2, .int x2), (3, .int x3)] rfl (Nat.le_of_ble_eq_true rfl) rfl rfl ?_
    refine g_iconst (v := 0) 19 rfl rfl rfl ?_
    refine g_istore 21 [(6, .int 0), (4, .long 0), (0, .ref a), (1, .int x1), (2, .int x2), (3, .int x3)] rfl (Nat.le_of_ble_eq_true rfl) rfl rfl ?_
    exact g_sub (Sc rfl (Sc rfl (Sc rfl (Sc rfl (Sc rfl (Sc rfl (Sn _))))))) (F_53_21 d _ a ha x1 x2 x3 0 0 _ _ h)
  · rw [if_pos c4] at h
    refine g_aload_n 8 rfl rfl rfl ?_
    refine g_iload_n 9 rfl rfl rfl ?_
    refine g_iload_n 10 rfl rfl rfl ?_
    refine g_iload_n 11 rfl rfl rfl ?_
    refine g_callV (J := sm_I52) 14 rfl (Nat.le_of_ble_eq_true rfl) rfl rfl (Nat.le_of_ble_eq_true rfl) ha (Nat.le_of_ble_eq_true rfl) (Nat.le_of_ble_eq_true rfl) rfl rfl (F_52 d a ha x1 x2 x3 U) ?_
    cases h
    exact g_lret rfl rfl

def f_54 (a : Nat) (x1 : Int32) (x2 : Int32) (U : sU) : Option Int64 :=
  Option.bind (f_53 a x1 x2 (U.1 a 8) U) fun q1 =>
  some q1
set_option maxRecDepth 10000 in
set_option maxHeartbeats 2000000 in
theorem F_54 (d : Nat) (a : Nat) (ha : sh a = 4) (x1 : Int32) (x2 : Int32) {U : sU} {r : Int64} (h : f_54 a x1 x2 U = some r) : Rn (d + 3) sm_I54 [.ref a, .int x1, .int x2] U (some (.long r)) U := by
  refine Rn_of [(0, .ref a), (1, .int x1), (2, .int x2)] (Nat.le_of_ble_eq_true rfl) (Sc rfl (Sc rfl (Sc rfl (Sn _)))) ?_
  first | rw [f_54] at h | rw [f_54.eq_def] at h
  refine g_aload_n 1 rfl rfl rfl ?_
  refine g_iload_n 2 rfl rfl rfl ?_
  refine g_iload_n 3 rfl rfl rfl ?_
  refine g_aload_n 4 rfl rfl rfl ?_
  refine g_get 7 rfl ha (Nat.le_of_ble_eq_true rfl) rfl rfl ?_
  obtain ⟨q1, hq1, h⟩ := Option.bind_eq_some_iff.mp h
  refine g_callV (J := sm_I53) 10 rfl (Nat.le_of_ble_eq_true rfl) rfl rfl (Nat.le_of_ble_eq_true rfl) ha (Nat.le_of_ble_eq_true rfl) (Nat.le_of_ble_eq_true rfl) rfl rfl (F_53 d a ha x1 x2 (U.1 a 8) hq1) ?_
  cases h
  exact g_lret rfl rfl

def f_55 (a : Nat) (x1 : Int32) (x2 : Int32) (U : sU) : Int64 :=
  f_52 a x1 x2 (U.1 a 8) U
set_option maxRecDepth 10000 in
set_option maxHeartbeats 2000000 in
theorem F_55 (d : Nat) (a : Nat) (ha : sh a = 4) (x1 : Int32) (x2 : Int32) (U : sU) : Rn (d + 2) sm_I55 [.ref a, .int x1, .int x2] U (some (.long (f_55 a x1 x2 U))) U := by
  refine Rn_of [(0, .ref a), (1, .int x1), (2, .int x2)] (Nat.le_of_ble_eq_true rfl) (Sc rfl (Sc rfl (Sc rfl (Sn _)))) ?_
  generalize h : f_55 a x1 x2 U = r
  first | rw [f_55] at h | rw [f_55.eq_def] at h
  refine g_aload_n 1 rfl rfl rfl ?_
  refine g_iload_n 2 rfl rfl rfl ?_
  refine g_iload_n 3 rfl rfl rfl ?_
  refine g_aload_n 4 rfl rfl rfl ?_
  refine g_get 7 rfl ha (Nat.le_of_ble_eq_true rfl) rfl rfl ?_
  refine g_callV (J := sm_I52) 10 rfl (Nat.le_of_ble_eq_true rfl) rfl rfl (Nat.le_of_ble_eq_true rfl) ha (Nat.le_of_ble_eq_true rfl) (Nat.le_of_ble_eq_true rfl) rfl rfl (F_52 d a ha x1 x2 (U.1 a 8) U) ?_
  subst h
  exact g_lret rfl rfl
