/-! methods turned -/
def f_56_21 : Nat → Nat → Int32 → Int64 → Int32 → sU → Option Int64
  | 0, _, _, _, _, _ => none
  | n + 1, a, v2, v3, v5, U =>
    if (U.1 (tk U a) 2) ≤ v5 then
      some v3
    else
      Option.bind (f_53 a v5 (iget (a + 1) v5 U) v2 U) fun q2 =>
      f_56_21 n a v2 (v3 + (((iget ((tk U a) + 3) v5 U).toInt64) * q2)) (v5 + 1) U
set_option maxRecDepth 10000 in
set_option maxHeartbeats 2000000 in
theorem F_56_21 (d : Nat)   : ∀ (n : Nat) (a : Nat) (ha : sh a = 4) (v2 : Int32) (v3 : Int64) (v5 : Int32) (U : sU) (r : Int64), f_56_21 n a v2 v3 v5 U = some r → G (d + 3) sm_I56 21 [(0, .ref a), (2, .int v2), (3, .long v3), (5, .int v5)] [] U (some (.long r)) U := by
  intro n
  induction n with
  | zero => intro a ha v2 v3 v5 U r h; cases h
  | succ n ih =>
    intro a ha v2 v3 v5 U r h
    first | rw [f_56_21] at h | (rw [f_56_21.eq_def] at h; dsimp only at h)
    refine g_iload 23 rfl rfl rfl ?_
    refine g_aload_n 24 rfl rfl rfl ?_
    refine g_get 27 rfl ha (Nat.le_of_ble_eq_true rfl) rfl rfl ?_
    refine g_get 30 rfl (tk_sh U a) (Nat.le_of_ble_eq_true rfl) rfl rfl ?_
    refine g_icmp_ge 72 33 rfl rfl (fun c1 => ?_) (fun c1 => ?_)
    · rw [if_pos c1] at h
      refine g_lload_n 73 rfl rfl rfl ?_
      cases h
      exact g_lret rfl rfl
    · rw [if_neg c1] at h
      refine g_lload_n 34 rfl rfl rfl ?_
      refine g_aload_n 35 rfl rfl rfl ?_
      refine g_get 38 rfl ha (Nat.le_of_ble_eq_true rfl) rfl rfl ?_
      refine g_get 41 rfl (tk_sh U a) (Nat.le_of_ble_eq_true rfl) rfl rfl ?_
      refine g_iload 43 rfl rfl rfl ?_
      refine g_callV (J := sm_I9) 46 rfl (Nat.le_of_ble_eq_true rfl) rfl rfl (Nat.le_of_ble_eq_true rfl) (sh_8_3 (tk_sh U a)) (Nat.le_of_ble_eq_true rfl) (Nat.le_of_ble_eq_true rfl) rfl rfl (U_9 (d + 2) ((tk U a) + 3) (sh_8_3 (tk_sh U a)) v5 U) ?_
      refine g_i2l 47 rfl rfl ?_
      refine g_aload_n 48 rfl rfl rfl ?_
      refine g_iload 50 rfl rfl rfl ?_
      refine g_aload_n 51 rfl rfl rfl ?_
      refine g_get 54 rfl ha (Nat.le_of_ble_eq_true rfl) rfl rfl ?_
      refine g_iload 56 rfl rfl rfl ?_
      refine g_callV (J := sm_I9) 59 rfl (Nat.le_of_ble_eq_true rfl) rfl rfl (Nat.le_of_ble_eq_true rfl) (sh_4_1 ha) (Nat.le_of_ble_eq_true rfl) (Nat.le_of_ble_eq_true rfl) rfl rfl (U_9 (d + 2) (a + 1) (sh_4_1 ha) v5 U) ?_
      refine g_iload_n 60 rfl rfl rfl ?_
      obtain ⟨q2, hq2, h⟩ := Option.bind_eq_some_iff.mp h
      refine g_callV (J := sm_I53) 63 rfl (Nat.le_of_ble_eq_true rfl) rfl rfl (Nat.le_of_ble_eq_true rfl) ha (Nat.le_of_ble_eq_true rfl) (Nat.le_of_ble_eq_true rfl) rfl rfl (F_53 d a ha v5 (iget (a + 1) v5 U) v2 hq2) ?_
      refine g_lmul 64 rfl rfl ?_
      refine g_ladd 65 rfl rfl ?_
      refine g_lstore_n 66 [(3, .long (v3 + (((iget ((tk U a) + 3) v5 U).toInt64) * q2))), (0, .ref a), (2, .int v2), (5, .int v5)] rfl (Nat.le_of_ble_eq_true rfl) rfl rfl ?_
      refine g_iinc (v := v5 + 1) 69 [(5, .int (v5 + 1)), (3, .long (v3 + (((iget ((tk U a) + 3) v5 U).toInt64) * q2))), (0, .ref a), (2, .int v2)] rfl rfl (Nat.le_of_ble_eq_true rfl) rfl rfl rfl ?_
      refine g_goto 21 rfl ?_
      exact g_sub (Sc rfl (Sc rfl (Sc rfl (Sc rfl (Sn _))))) (ih a ha v2 (v3 + (((iget ((tk U a) + 3) v5 U).toInt64) * q2)) (v5 + 1) _ _ h)
def f_56 (a : Nat) (x1 : Int32) (U : sU) : Option Int64 :=
  if x1 = 0 then
    f_56_21 FU a (U.1 a 7) 0 0 U
  else
    f_56_21 FU a (U.1 a 8) 0 0 U
set_option maxRecDepth 10000 in
set_option maxHeartbeats 2000000 in
theorem F_56 (d : Nat) (a : Nat) (ha : sh a = 4) (x1 : Int32) {U : sU} {r : Int64} (h : f_56 a x1 U = some r) : Rn (d + 3) sm_I56 [.ref a, .int x1] U (some (.long r)) U := by
  refine Rn_of [(0, .ref a), (1, .int x1)] (Nat.le_of_ble_eq_true rfl) (Sc rfl (Sc rfl (Sn _))) ?_
  first | rw [f_56] at h | rw [f_56.eq_def] at h
  refine g_iload_n 1 rfl rfl rfl ?_
  refine g_if_ne 11 4 rfl rfl (fun c3 => ?_) (fun c3 => ?_)
  · rw [if_neg c3] at h
    refine g_aload_n 12 rfl rfl rfl ?_
    refine g_get 15 rfl ha (Nat.le_of_ble_eq_true rfl) rfl rfl ?_
    refine g_istore_n 16 [(2, .int (U.1 a 8)), (0, .ref a), (1, .int x1)] rfl (Nat.le_of_ble_eq_true rfl) rfl rfl ?_
    refine g_lconst (v := 0) 17 rfl rfl rfl ?_
    refine g_lstore_n 18 [(3, .long 0), (2, .int (U.1 a 8)), (0, .ref a), (1, .int x1)] rfl (Nat.le_of_ble_eq_true rfl) rfl rfl ?_
    refine g_iconst (v := 0) 19 rfl rfl rfl ?_
    refine g_istore 21 [(5, .int 0), (3, .long 0), (2, .int (U.1 a 8)), (0, .ref a), (1, .int x1)] rfl (Nat.le_of_ble_eq_true rfl) rfl rfl ?_
    exact g_sub (Sc rfl (Sc rfl (Sc rfl (Sc rfl (Sn _))))) (F_56_21 d _ a ha (U.1 a 8) 0 0 _ _ h)
  · rw [if_pos c3] at h
    refine g_aload_n 5 rfl rfl rfl ?_
    refine g_get 8 rfl ha (Nat.le_of_ble_eq_true rfl) rfl rfl ?_
    refine g_goto 15 rfl ?_
    refine g_istore_n 16 [(2, .int (U.1 a 7)), (0, .ref a), (1, .int x1)] rfl (Nat.le_of_ble_eq_true rfl) rfl rfl ?_
    refine g_lconst (v := 0) 17 rfl rfl rfl ?_
    refine g_lstore_n 18 [(3, .long 0), (2, .int (U.1 a 7)), (0, .ref a), (1, .int x1)] rfl (Nat.le_of_ble_eq_true rfl) rfl rfl ?_
    refine g_iconst (v := 0) 19 rfl rfl rfl ?_
    refine g_istore 21 [(5, .int 0), (3, .long 0), (2, .int (U.1 a 7)), (0, .ref a), (1, .int x1)] rfl (Nat.le_of_ble_eq_true rfl) rfl rfl ?_
    exact g_sub (Sc rfl (Sc rfl (Sc rfl (Sc rfl (Sn _))))) (F_56_21 d _ a ha (U.1 a 7) 0 0 _ _ h)

def f_57_30 (k2 : Nat → Int32 → sU → Option Int32) : Nat → Nat → Int32 → Int64 → Int32 → sU → Option Int32
  | 0, _, _, _, _, _ => none
  | n + 1, a, v1, v2, v4, U =>
    if 12 ≤ v4 then
      k2 a (v1 + 1) U
    else
      if ((U.1 a 9) >>> (v4 &&& 31)) = 0 then
        k2 a (v1 + 1) U
      else
        if (f_43 a v4 U) = 0 then
          f_57_30 k2 n a v1 v2 (v4 + 1) U
        else
          if 0 ≤ (lg_cmp (f_55 a v1 v4 U) v2) then
            f_57_30 k2 n a v1 v2 (v4 + 1) U
          else
            some ((100 * v1) + v4)
set_option maxRecDepth 10000 in
set_option maxHeartbeats 2000000 in
theorem F_57_30 (d : Nat) {k2 : Nat → Int32 → sU → Option Int32} (hk2 : ∀ (a : Nat) (ha : sh a = 4) (v1 : Int32) (U : sU) (r : Int32), k2 a v1 U = some r → G (d + 3) sm_I57 2 [(0, .ref a), (1, .int v1)] [] U (some (.int r)) U) : ∀ (n : Nat) (a : Nat) (ha : sh a = 4) (v1 : Int32) (v2 : Int64) (v4 : Int32) (U : sU) (r : Int32), f_57_30 k2 n a v1 v2 v4 U = some r → G (d + 3) sm_I57 30 [(0, .ref a), (1, .int v1), (2, .long v2), (4, .int v4)] [] U (some (.int r)) U := by
  intro n
  induction n with
  | zero => intro a ha v1 v2 v4 U r h; cases h
  | succ n ih =>
    intro a ha v1 v2 v4 U r h
    first | rw [f_57_30] at h | (rw [f_57_30.eq_def] at h; dsimp only at h)
    refine g_iload 32 rfl rfl rfl ?_
    refine g_bipush (v := 12) 34 rfl (by decide) rfl ?_
    refine g_icmp_ge 82 37 rfl rfl (fun c1 => ?_) (fun c1 => ?_)
    · rw [if_pos c1] at h
      refine g_iinc (v := v1 + 1) 85 [(1, .int (v1 + 1)), (0, .ref a), (2, .long v2), (4, .int v4)] rfl rfl (Nat.le_of_ble_eq_true rfl) rfl rfl rfl ?_
      refine g_goto 2 rfl ?_
      exact g_sub (Sc rfl (Sc rfl (Sn _))) (hk2 a ha (v1 + 1) _ _ h)
    · rw [if_neg c1] at h
      refine g_aload_n 38 rfl rfl rfl ?_
      refine g_get 41 rfl ha (Nat.le_of_ble_eq_true rfl) rfl rfl ?_
      refine g_iload 43 rfl rfl rfl ?_
      refine g_ishr 44 rfl rfl ?_
      refine g_if_eq 82 47 rfl rfl (fun c2 => ?_) (fun c2 => ?_)
      · rw [if_pos c2] at h
        refine g_iinc (v := v1 + 1) 85 [(1, .int (v1 + 1)), (0, .ref a), (2, .long v2), (4, .int v4)] rfl rfl (Nat.le_of_ble_eq_true rfl) rfl rfl rfl ?_
        refine g_goto 2 rfl ?_
        exact g_sub (Sc rfl (Sc rfl (Sn _))) (hk2 a ha (v1 + 1) _ _ h)
      · rw [if_neg c2] at h
        refine g_aload_n 48 rfl rfl rfl ?_
        refine g_iload 50 rfl rfl rfl ?_
        have r3 := F_43 (d + 2) a ha v4 U
        refine g_callV (J := sm_I43) 53 rfl (Nat.le_of_ble_eq_true rfl) rfl rfl (Nat.le_of_ble_eq_true rfl) ha (Nat.le_of_ble_eq_true rfl) (Nat.le_of_ble_eq_true rfl) rfl rfl r3 ?_
        refine g_if_eq 76 56 rfl rfl (fun c4 => ?_) (fun c4 => ?_)
        · rw [if_pos c4] at h
          refine g_iinc (v := v4 + 1) 79 [(4, .int (v4 + 1)), (0, .ref a), (1, .int v1), (2, .long v2)] rfl rfl (Nat.le_of_ble_eq_true rfl) rfl rfl rfl ?_
          refine g_goto 30 rfl ?_
          exact g_sub (Sc rfl (Sc rfl (Sc rfl (Sc rfl (Sn _))))) (ih a ha v1 v2 (v4 + 1) _ _ h)
        · rw [if_neg c4] at h
          refine g_aload_n 57 rfl rfl rfl ?_
          refine g_iload_n 58 rfl rfl rfl ?_
          refine g_iload 60 rfl rfl rfl ?_
          refine g_callV (J := sm_I55) 63 rfl (Nat.le_of_ble_eq_true rfl) rfl rfl (Nat.le_of_ble_eq_true rfl) ha (Nat.le_of_ble_eq_true rfl) (Nat.le_of_ble_eq_true rfl) rfl rfl (F_55 d a ha v1 v4 U) ?_
          refine g_lload_n 64 rfl rfl rfl ?_
          refine g_lcmp 65 rfl rfl ?_
          refine g_if_ge 76 68 rfl rfl (fun c5 => ?_) (fun c5 => ?_)
          · rw [if_pos c5] at h
            refine g_iinc (v := v4 + 1) 79 [(4, .int (v4 + 1)), (0, .ref a), (1, .int v1), (2, .long v2)] rfl rfl (Nat.le_of_ble_eq_true rfl) rfl rfl rfl ?_
            refine g_goto 30 rfl ?_
            exact g_sub (Sc rfl (Sc rfl (Sc rfl (Sc rfl (Sn _))))) (ih a ha v1 v2 (v4 + 1) _ _ h)
          · rw [if_neg c5] at h
            refine g_bipush (v := 100) 70 rfl (by decide) rfl ?_
            refine g_iload_n 71 rfl rfl rfl ?_
            refine g_imul 72 rfl rfl ?_
            refine g_iload 74 rfl rfl rfl ?_
            refine g_iadd 75 rfl rfl ?_
            cases h
            exact g_iret rfl rfl
def f_57_2 : Nat → Nat → Int32 → sU → Option Int32
  | 0, _, _, _ => none
  | n + 1, a, v1, U =>
    if (U.1 (tk U a) 2) ≤ v1 then
      some ((-1))
    else
      f_57_30 (fun a v1 U => f_57_2 n a v1 U) FU a v1 (f_55 a v1 (iget (a + 1) v1 U) U) 0 U
set_option maxRecDepth 10000 in
set_option maxHeartbeats 2000000 in
theorem F_57_2 (d : Nat)   : ∀ (n : Nat) (a : Nat) (ha : sh a = 4) (v1 : Int32) (U : sU) (r : Int32), f_57_2 n a v1 U = some r → G (d + 3) sm_I57 2 [(0, .ref a), (1, .int v1)] [] U (some (.int r)) U := by
  intro n
  induction n with
  | zero => intro a ha v1 U r h; cases h
  | succ n ih =>
    intro a ha v1 U r h
    first | rw [f_57_2] at h | (rw [f_57_2.eq_def] at h; dsimp only at h)
    refine g_iload_n 3 rfl rfl rfl ?_
    refine g_aload_n 4 rfl rfl rfl ?_
    refine g_get 7 rfl ha (Nat.le_of_ble_eq_true rfl) rfl rfl ?_
    refine g_get 10 rfl (tk_sh U a) (Nat.le_of_ble_eq_true rfl) rfl rfl ?_
    refine g_icmp_ge 88 13 rfl rfl (fun c6 => ?_) (fun c6 => ?_)
    · rw [if_pos c6] at h
      refine g_iconst (v := (-1)) 89 rfl rfl rfl ?_
      cases h
      exact g_iret rfl rfl
    · rw [if_neg c6] at h
      refine g_aload_n 14 rfl rfl rfl ?_
      refine g_iload_n 15 rfl rfl rfl ?_
      refine g_aload_n 16 rfl rfl rfl ?_
      refine g_get 19 rfl ha (Nat.le_of_ble_eq_true rfl) rfl rfl ?_
      refine g_iload_n 20 rfl rfl rfl ?_
      refine g_callV (J := sm_I9) 23 rfl (Nat.le_of_ble_eq_true rfl) rfl rfl (Nat.le_of_ble_eq_true rfl) (sh_4_1 ha) (Nat.le_of_ble_eq_true rfl) (Nat.le_of_ble_eq_true rfl) rfl rfl (U_9 (d + 2) (a + 1) (sh_4_1 ha) v1 U) ?_
      refine g_callV (J := sm_I55) 26 rfl (Nat.le_of_ble_eq_true rfl) rfl rfl (Nat.le_of_ble_eq_true rfl) ha (Nat.le_of_ble_eq_true rfl) (Nat.le_of_ble_eq_true rfl) rfl rfl (F_55 d a ha v1 (iget (a + 1) v1 U) U) ?_
      refine g_lstore_n 27 [(2, .long (f_55 a v1 (iget (a + 1) v1 U) U)), (0, .ref a), (1, .int v1)] rfl (Nat.le_of_ble_eq_true rfl) rfl rfl ?_
      refine g_iconst (v := 0) 28 rfl rfl rfl ?_
      refine g_istore 30 [(4, .int 0), (2, .long (f_55 a v1 (iget (a + 1) v1 U) U)), (0, .ref a), (1, .int v1)] rfl (Nat.le_of_ble_eq_true rfl) rfl rfl ?_
      exact g_sub (Sc rfl (Sc rfl (Sc rfl (Sc rfl (Sn _))))) (F_57_30 d (fun a ha v1 U r h => ih a ha v1 U r h) _ a ha v1 (f_55 a v1 (iget (a + 1) v1 U) U) 0 _ _ h)
def f_57 (a : Nat) (U : sU) : Option Int32 :=
  f_57_2 FU a 0 U
set_option maxRecDepth 10000 in
set_option maxHeartbeats 2000000 in
theorem F_57 (d : Nat) (a : Nat) (ha : sh a = 4) {U : sU} {r : Int32} (h : f_57 a U = some r) : Rn (d + 3) sm_I57 [.ref a] U (some (.int r)) U := by
  refine Rn_of [(0, .ref a)] (Nat.le_of_ble_eq_true rfl) (Sc rfl (Sn _)) ?_
  first | rw [f_57] at h | rw [f_57.eq_def] at h
  refine g_iconst (v := 0) 1 rfl rfl rfl ?_
  refine g_istore_n 2 [(1, .int 0), (0, .ref a)] rfl (Nat.le_of_ble_eq_true rfl) rfl rfl ?_
  exact g_sub (Sc rfl (Sc rfl (Sn _))) (F_57_2 d _ a ha 0 _ _ h)

def f_59_5 : Nat → Nat → Int32 → Int32 → Int64 → Int32 → sU → Option Int64
  | 0, _, _, _, _, _, _ => none
  | n + 1, a, v1, v2, v3, v5, U =>
    if (U.1 (tk U a) 2) ≤ v5 then
      some v3
    else
      if (iget (a + 1) v5 U) = v1 then
        f_59_5 n a v1 v2 (v3 + (((iget ((tk U a) + 3) v5 U).toInt64) * (f_105 (tk U a) (((v2 - (iget ((tk U a) + 1) v5 U)) - (U.1 a 7)).toInt64) U))) (v5 + 1) U
      else
        f_59_5 n a v1 v2 (v3 + 0) (v5 + 1) U
set_option maxRecDepth 10000 in
set_option maxHeartbeats 2000000 in
theorem F_59_5 (d : Nat)   : ∀ (n : Nat) (a : Nat) (ha : sh a = 4) (v1 : Int32) (v2 : Int32) (v3 : Int64) (v5 : Int32) (U : sU) (r : Int64), f_59_5 n a v1 v2 v3 v5 U = some r → G (d + 1) sm_I59 5 [(0, .ref a), (1, .int v1), (2, .int v2), (3, .long v3), (5, .int v5)] [] U (some (.long r)) U := by
  intro n
  induction n with
  | zero => intro a ha v1 v2 v3 v5 U r h; cases h
  | succ n ih =>
    intro a ha v1 v2 v3 v5 U r h
    first | rw [f_59_5] at h | (rw [f_59_5.eq_def] at h; dsimp only at h)
    refine g_iload 7 rfl rfl rfl ?_
    refine g_aload_n 8 rfl rfl rfl ?_
    refine g_get 11 rfl ha (Nat.le_of_ble_eq_true rfl) rfl rfl ?_
    refine g_get 14 rfl (tk_sh U a) (Nat.le_of_ble_eq_true rfl) rfl rfl ?_
    refine g_icmp_ge 88 17 rfl rfl (fun c1 => ?_) (fun c1 => ?_)
    · rw [if_pos c1] at h
      refine g_lload_n 89 rfl rfl rfl ?_
      cases h
      exact g_lret rfl rfl
    · rw [if_neg c1] at h
      refine g_aload_n 18 rfl rfl rfl ?_
      refine g_get 21 rfl ha (Nat.le_of_ble_eq_true rfl) rfl rfl ?_
      refine g_iload_n 22 rfl rfl rfl ?_
      refine g_aload_n 23 rfl rfl rfl ?_
      refine g_get 26 rfl ha (Nat.le_of_ble_eq_true rfl) rfl rfl ?_
      refine g_get 29 rfl (tk_sh U a) (Nat.le_of_ble_eq_true rfl) rfl rfl ?_
      refine g_iload 31 rfl rfl rfl ?_
      refine g_callV (J := sm_I9) 34 rfl (Nat.le_of_ble_eq_true rfl) rfl rfl (Nat.le_of_ble_eq_true rfl) (sh_8_1 (tk_sh U a)) (Nat.le_of_ble_eq_true rfl) (Nat.le_of_ble_eq_true rfl) rfl rfl (U_9 d ((tk U a) + 1) (sh_8_1 (tk_sh U a)) v5 U) ?_
      refine g_isub 35 rfl rfl ?_
      refine g_aload_n 36 rfl rfl rfl ?_
      refine g_get 39 rfl ha (Nat.le_of_ble_eq_true rfl) rfl rfl ?_
      refine g_isub 40 rfl rfl ?_
      refine g_i2l 41 rfl rfl ?_
      refine g_callV (J := sm_I105) 44 rfl (Nat.le_of_ble_eq_true rfl) rfl rfl (Nat.le_of_ble_eq_true rfl) (tk_sh U a) (Nat.le_of_ble_eq_true rfl) (Nat.le_of_ble_eq_true rfl) rfl rfl (F_105 d (tk U a) (tk_sh U a) (((v2 - (iget ((tk U a) + 1) v5 U)) - (U.1 a 7)).toInt64) U) ?_
      refine g_lstore 46 [(6, .long (f_105 (tk U a) (((v2 - (iget ((tk U a) + 1) v5 U)) - (U.1 a 7)).toInt64) U)), (0, .ref a), (1, .int v1), (2, .int v2), (3, .long v3), (5, .int v5)] rfl (Nat.le_of_ble_eq_true rfl) rfl rfl ?_
      refine g_lload_n 47 rfl rfl rfl ?_
      refine g_aload_n 48 rfl rfl rfl ?_
      refine g_get 51 rfl ha (Nat.le_of_ble_eq_true rfl) rfl rfl ?_
      refine g_iload 53 rfl rfl rfl ?_
      refine g_callV (J := sm_I9) 56 rfl (Nat.le_of_ble_eq_true rfl) rfl rfl (Nat.le_of_ble_eq_true rfl) (sh_4_1 ha) (Nat.le_of_ble_eq_true rfl) (Nat.le_of_ble_eq_true rfl) rfl rfl (U_9 d (a + 1) (sh_4_1 ha) v5 U) ?_
      refine g_iload_n 57 rfl rfl rfl ?_
      refine g_icmp_ne 79 60 rfl rfl (fun c2 => ?_) (fun c2 => ?_)
      · rw [if_neg c2] at h
        refine g_lconst (v := 0) 80 rfl rfl rfl ?_
        refine g_ladd 81 rfl rfl ?_
        refine g_lstore_n 82 [(3, .long (v3 + 0)), (6, .long (f_105 (tk U a) (((v2 - (iget ((tk U a) + 1) v5 U)) - (U.1 a 7)).toInt64) U)), (0, .ref a), (1, .int v1), (2, .int v2), (5, .int v5)] rfl (Nat.le_of_ble_eq_true rfl) rfl rfl ?_
        refine g_iinc (v := v5 + 1) 85 [(5, .int (v5 + 1)), (3, .long (v3 + 0)), (6, .long (f_105 (tk U a) (((v2 - (iget ((tk U a) + 1) v5 U)) - (U.1 a 7)).toInt64) U)), (0, .ref a), (1, .int v1), (2, .int v2)] rfl rfl (Nat.le_of_ble_eq_true rfl) rfl rfl rfl ?_
        refine g_goto 5 rfl ?_
        exact g_sub (Sc rfl (Sc rfl (Sc rfl (Sc rfl (Sc rfl (Sn _)))))) (ih a ha v1 v2 (v3 + 0) (v5 + 1) _ _ h)
      · rw [if_pos c2] at h
        refine g_aload_n 61 rfl rfl rfl ?_
        refine g_get 64 rfl ha (Nat.le_of_ble_eq_true rfl) rfl rfl ?_
        refine g_get 67 rfl (tk_sh U a) (Nat.le_of_ble_eq_true rfl) rfl rfl ?_
        refine g_iload 69 rfl rfl rfl ?_
        refine g_callV (J := sm_I9) 72 rfl (Nat.le_of_ble_eq_true rfl) rfl rfl (Nat.le_of_ble_eq_true rfl) (sh_8_3 (tk_sh U a)) (Nat.le_of_ble_eq_true rfl) (Nat.le_of_ble_eq_true rfl) rfl rfl (U_9 d ((tk U a) + 3) (sh_8_3 (tk_sh U a)) v5 U) ?_
        refine g_i2l 73 rfl rfl ?_
        refine g_lload 75 rfl rfl rfl ?_
        refine g_lmul 76 rfl rfl ?_
        refine g_goto 80 rfl ?_
        refine g_ladd 81 rfl rfl ?_
        refine g_lstore_n 82 [(3, .long (v3 + (((iget ((tk U a) + 3) v5 U).toInt64) * (f_105 (tk U a) (((v2 - (iget ((tk U a) + 1) v5 U)) - (U.1 a 7)).toInt64) U)))), (6, .long (f_105 (tk U a) (((v2 - (iget ((tk U a) + 1) v5 U)) - (U.1 a 7)).toInt64) U)), (0, .ref a), (1, .int v1), (2, .int v2), (5, .int v5)] rfl (Nat.le_of_ble_eq_true rfl) rfl rfl ?_
        refine g_iinc (v := v5 + 1) 85 [(5, .int (v5 + 1)), (3, .long (v3 + (((iget ((tk U a) + 3) v5 U).toInt64) * (f_105 (tk U a) (((v2 - (iget ((tk U a) + 1) v5 U)) - (U.1 a 7)).toInt64) U)))), (6, .long (f_105 (tk U a) (((v2 - (iget ((tk U a) + 1) v5 U)) - (U.1 a 7)).toInt64) U)), (0, .ref a), (1, .int v1), (2, .int v2)] rfl rfl (Nat.le_of_ble_eq_true rfl) rfl rfl rfl ?_
        refine g_goto 5 rfl ?_
        exact g_sub (Sc rfl (Sc rfl (Sc rfl (Sc rfl (Sc rfl (Sn _)))))) (ih a ha v1 v2 (v3 + (((iget ((tk U a) + 3) v5 U).toInt64) * (f_105 (tk U a) (((v2 - (iget ((tk U a) + 1) v5 U)) - (U.1 a 7)).toInt64) U))) (v5 + 1) _ _ h)
def f_59 (a : Nat) (x1 : Int32) (x2 : Int32) (U : sU) : Option Int64 :=
  f_59_5 FU a x1 x2 0 0 U
set_option maxRecDepth 10000 in
set_option maxHeartbeats 2000000 in
theorem F_59 (d : Nat) (a : Nat) (ha : sh a = 4) (x1 : Int32) (x2 : Int32) {U : sU} {r : Int64} (h : f_59 a x1 x2 U = some r) : Rn (d + 1) sm_I59 [.ref a, .int x1, .int x2] U (some (.long r)) U := by
  refine Rn_of [(0, .ref a), (1, .int x1), (2, .int x2)] (Nat.le_of_ble_eq_true rfl) (Sc rfl (Sc rfl (Sc rfl (Sn _)))) ?_
  first | rw [f_59] at h | rw [f_59.eq_def] at h
  refine g_lconst (v := 0) 1 rfl rfl rfl ?_
  refine g_lstore_n 2 [(3, .long 0), (0, .ref a), (1, .int x1), (2, .int x2)] rfl (Nat.le_of_ble_eq_true rfl) rfl rfl ?_
  refine g_iconst (v := 0) 3 rfl rfl rfl ?_
  refine g_istore 5 [(5, .int 0), (3, .long 0), (0, .ref a), (1, .int x1), (2, .int x2)] rfl (Nat.le_of_ble_eq_true rfl) rfl rfl ?_
  exact g_sub (Sc rfl (Sc rfl (Sc rfl (Sc rfl (Sc rfl (Sn _)))))) (F_59_5 d _ a ha x1 x2 0 0 _ _ h)

def f_58_21 : Nat → Nat → Int32 → sU → Option Int32
  | 0, _, _, _ => none
  | n + 1, a, v2, U =>
    if 12 ≤ v2 then
      some ((-1))
    else
      if (f_43 a v2 U) = 0 then
        f_58_21 n a (v2 + 1) U
      else
        Option.bind (f_49 a v2 U) fun q4 =>
        Option.bind (f_59 a v2 q4 U) fun q5 =>
        Option.bind (f_59 a v2 (iget (a + 3) v2 U) U) fun q6 =>
        if 0 ≤ (lg_cmp q5 q6) then
          f_58_21 n a (v2 + 1) U
        else
          some (10000 + v2)
set_option maxRecDepth 10000 in
set_option maxHeartbeats 2000000 in
theorem F_58_21 (d : Nat)   : ∀ (n : Nat) (a : Nat) (ha : sh a = 4) (v2 : Int32) (U : sU) (r : Int32), f_58_21 n a v2 U = some r → G (d + 4) sm_I58 21 [(0, .ref a), (2, .int v2)] [] U (some (.int r)) U := by
  intro n
  induction n with
  | zero => intro a ha v2 U r h; cases h
  | succ n ih =>
    intro a ha v2 U r h
    first | rw [f_58_21] at h | (rw [f_58_21.eq_def] at h; dsimp only at h)
    refine g_iload_n 22 rfl rfl rfl ?_
    refine g_bipush (v := 12) 24 rfl (by decide) rfl ?_
    refine g_icmp_ge 74 27 rfl rfl (fun c1 => ?_) (fun c1 => ?_)
    · rw [if_pos c1] at h
      refine g_iconst (v := (-1)) 75 rfl rfl rfl ?_
      cases h
      exact g_iret rfl rfl
    · rw [if_neg c1] at h
      refine g_aload_n 28 rfl rfl rfl ?_
      refine g_iload_n 29 rfl rfl rfl ?_
      have r2 := F_43 (d + 3) a ha v2 U
      refine g_callV (J := sm_I43) 32 rfl (Nat.le_of_ble_eq_true rfl) rfl rfl (Nat.le_of_ble_eq_true rfl) ha (Nat.le_of_ble_eq_true rfl) (Nat.le_of_ble_eq_true rfl) rfl rfl r2 ?_
      refine g_if_eq 68 35 rfl rfl (fun c3 => ?_) (fun c3 => ?_)
      · rw [if_pos c3] at h
        refine g_iinc (v := v2 + 1) 71 [(2, .int (v2 + 1)), (0, .ref a)] rfl rfl (Nat.le_of_ble_eq_true rfl) rfl rfl rfl ?_
        refine g_goto 21 rfl ?_
        exact g_sub (Sc rfl (Sc rfl (Sn _))) (ih a ha (v2 + 1) _ _ h)
      · rw [if_neg c3] at h
        refine g_aload_n 36 rfl rfl rfl ?_
        refine g_iload_n 37 rfl rfl rfl ?_
        refine g_aload_n 38 rfl rfl rfl ?_
        refine g_iload_n 39 rfl rfl rfl ?_
        obtain ⟨q4, hq4, h⟩ := Option.bind_eq_some_iff.mp h
        refine g_callV (J := sm_I49) 42 rfl (Nat.le_of_ble_eq_true rfl) rfl rfl (Nat.le_of_ble_eq_true rfl) ha (Nat.le_of_ble_eq_true rfl) (Nat.le_of_ble_eq_true rfl) rfl rfl (F_49 (d + 1) a ha v2 hq4) ?_
        obtain ⟨q5, hq5, h⟩ := Option.bind_eq_some_iff.mp h
        refine g_callV (J := sm_I59) 45 rfl (Nat.le_of_ble_eq_true rfl) rfl rfl (Nat.le_of_ble_eq_true rfl) ha (Nat.le_of_ble_eq_true rfl) (Nat.le_of_ble_eq_true rfl) rfl rfl (F_59 (d + 2) a ha v2 q4 hq5) ?_
        refine g_aload_n 46 rfl rfl rfl ?_
        refine g_iload_n 47 rfl rfl rfl ?_
        refine g_aload_n 48 rfl rfl rfl ?_
        refine g_get 51 rfl ha (Nat.le_of_ble_eq_true rfl) rfl rfl ?_
        refine g_iload_n 52 rfl rfl rfl ?_
        refine g_callV (J := sm_I9) 55 rfl (Nat.le_of_ble_eq_true rfl) rfl rfl (Nat.le_of_ble_eq_true rfl) (sh_4_3 ha) (Nat.le_of_ble_eq_true rfl) (Nat.le_of_ble_eq_true rfl) rfl rfl (U_9 (d + 3) (a + 3) (sh_4_3 ha) v2 U) ?_
        obtain ⟨q6, hq6, h⟩ := Option.bind_eq_some_iff.mp h
        refine g_callV (J := sm_I59) 58 rfl (Nat.le_of_ble_eq_true rfl) rfl rfl (Nat.le_of_ble_eq_true rfl) ha (Nat.le_of_ble_eq_true rfl) (Nat.le_of_ble_eq_true rfl) rfl rfl (F_59 (d + 2) a ha v2 (iget (a + 3) v2 U) hq6) ?_
        refine g_lcmp 59 rfl rfl ?_
        refine g_if_ge 68 62 rfl rfl (fun c7 => ?_) (fun c7 => ?_)
        · rw [if_pos c7] at h
          refine g_iinc (v := v2 + 1) 71 [(2, .int (v2 + 1)), (0, .ref a)] rfl rfl (Nat.le_of_ble_eq_true rfl) rfl rfl rfl ?_
          refine g_goto 21 rfl ?_
          exact g_sub (Sc rfl (Sc rfl (Sn _))) (ih a ha (v2 + 1) _ _ h)
        · rw [if_neg c7] at h
          refine g_sipush (v := 10000) 65 rfl (by decide) rfl ?_
          refine g_iload_n 66 rfl rfl rfl ?_
          refine g_iadd 67 rfl rfl ?_
          cases h
          exact g_iret rfl rfl
def f_58 (a : Nat) (U : sU) : Option Int32 :=
  Option.bind (f_57 a U) fun q8 =>
  if q8 = ((-1)) then
    if (U.1 a 12) = 0 then
      some q8
    else
      f_58_21 FU a 0 U
  else
    some q8
set_option maxRecDepth 10000 in
set_option maxHeartbeats 2000000 in
theorem F_58 (d : Nat) (a : Nat) (ha : sh a = 4) {U : sU} {r : Int32} (h : f_58 a U = some r) : Rn (d + 4) sm_I58 [.ref a] U (some (.int r)) U := by
  refine Rn_of [(0, .ref a)] (Nat.le_of_ble_eq_true rfl) (Sc rfl (Sn _)) ?_
  first | rw [f_58] at h | rw [f_58.eq_def] at h
  refine g_aload_n 1 rfl rfl rfl ?_
  obtain ⟨q8, hq8, h⟩ := Option.bind_eq_some_iff.mp h
  refine g_callV (J := sm_I57) 4 rfl (Nat.le_of_ble_eq_true rfl) rfl rfl (Nat.le_of_ble_eq_true rfl) ha (Nat.le_of_ble_eq_true rfl) (Nat.le_of_ble_eq_true rfl) rfl rfl (F_57 d a ha hq8) ?_
  refine g_istore_n 5 [(1, .int q8), (0, .ref a)] rfl (Nat.le_of_ble_eq_true rfl) rfl rfl ?_
  refine g_iload_n 6 rfl rfl rfl ?_
  refine g_iconst (v := (-1)) 7 rfl rfl rfl ?_
  refine g_icmp_ne 17 10 rfl rfl (fun c9 => ?_) (fun c9 => ?_)
  · rw [if_neg c9] at h
    refine g_iload_n 18 rfl rfl rfl ?_
    cases h
    exact g_iret rfl rfl
  · rw [if_pos c9] at h
    refine g_aload_n 11 rfl rfl rfl ?_
    refine g_get 14 rfl ha (Nat.le_of_ble_eq_true rfl) rfl rfl ?_
    refine g_if_ne 19 17 rfl rfl (fun c10 => ?_) (fun c10 => ?_)
    · rw [if_neg c10] at h
      refine g_iconst (v := 0) 20 rfl rfl rfl ?_
      refine g_istore_n 21 [(2, .int 0), (1, .int q8), (0, .ref a)] rfl (Nat.le_of_ble_eq_true rfl) rfl rfl ?_
      exact g_sub (Sc rfl (Sc rfl (Sn _))) (F_58_21 d _ a ha 0 _ _ h)
    · rw [if_pos c10] at h
      refine g_iload_n 18 rfl rfl rfl ?_
      cases h
      exact g_iret rfl rfl

def f_60_120 (k38 : Nat → Int32 → Int32 → Int32 → Int32 → Int32 → sU → Option Int32) (a : Nat) (v1 : Int32) (v2 : Int32) (v3 : Int32) (v4 : Int32) (v5 : Int32) (v6 : Int32) (U : sU) : Option Int32 :=
  if (f_43 a v5 U) = 0 then
    k38 a v1 v2 v3 v4 (v5 + 1) U
  else
    if v4 ≤ (iget (a + 3) v5 U) then
      k38 a v1 v2 v3 v4 (v5 + 1) U
    else
      Option.bind (f_283 (v6 + 1) 2 U) fun q4 =>
      k38 a (f_286 v1 q4 U) v2 v3 v4 (v5 + 1) U
set_option maxRecDepth 10000 in
set_option maxHeartbeats 2000000 in
theorem F_60_120 (d : Nat) {k38 : Nat → Int32 → Int32 → Int32 → Int32 → Int32 → sU → Option Int32} (hk38 : ∀ (a : Nat) (ha : sh a = 4) (v1 : Int32) (v2 : Int32) (v3 : Int32) (v4 : Int32) (v5 : Int32) (U : sU) (r : Int32), k38 a v1 v2 v3 v4 v5 U = some r → G (d + 1) sm_I60 38 [(0, .ref a), (1, .int v1), (2, .int v2), (3, .int v3), (4, .int v4), (5, .int v5)] [] U (some (.int r)) U) (a : Nat) (ha : sh a = 4) (v1 : Int32) (v2 : Int32) (v3 : Int32) (v4 : Int32) (v5 : Int32) (v6 : Int32) {U : sU} {r : Int32} (h : f_60_120 k38 a v1 v2 v3 v4 v5 v6 U = some r) : G (d + 1) sm_I60 120 [(0, .ref a), (1, .int v1), (2, .int v2), (3, .int v3), (4, .int v4), (5, .int v5), (6, .int v6)] [] U (some (.int r)) U := by
  first | rw [f_60_120] at h | rw [f_60_120.eq_def] at h
  refine g_aload_n 121 rfl rfl rfl ?_
  refine g_iload 123 rfl rfl rfl ?_
  have r1 := F_43 d a ha v5 U
  refine g_callV (J := sm_I43) 126 rfl (Nat.le_of_ble_eq_true rfl) rfl rfl (Nat.le_of_ble_eq_true rfl) ha (Nat.le_of_ble_eq_true rfl) (Nat.le_of_ble_eq_true rfl) rfl rfl r1 ?_
  refine g_if_eq 156 129 rfl rfl (fun c2 => ?_) (fun c2 => ?_)
  · rw [if_pos c2] at h
    refine g_iinc (v := v5 + 1) 159 [(5, .int (v5 + 1)), (0, .ref a), (1, .int v1), (2, .int v2), (3, .int v3), (4, .int v4), (6, .int v6)] rfl rfl (Nat.le_of_ble_eq_true rfl) rfl rfl rfl ?_
    refine g_goto 38 rfl ?_
    exact g_sub (Sc rfl (Sc rfl (Sc rfl (Sc rfl (Sc rfl (Sc rfl (Sn _))))))) (hk38 a ha v1 v2 v3 v4 (v5 + 1) _ _ h)
  · rw [if_neg c2] at h
    refine g_aload_n 130 rfl rfl rfl ?_
    refine g_get 133 rfl ha (Nat.le_of_ble_eq_true rfl) rfl rfl ?_
    refine g_iload 135 rfl rfl rfl ?_
    refine g_callV (J := sm_I9) 138 rfl (Nat.le_of_ble_eq_true rfl) rfl rfl (Nat.le_of_ble_eq_true rfl) (sh_4_3 ha) (Nat.le_of_ble_eq_true rfl) (Nat.le_of_ble_eq_true rfl) rfl rfl (U_9 d (a + 3) (sh_4_3 ha) v5 U) ?_
    refine g_iload 140 rfl rfl rfl ?_
    refine g_icmp_ge 156 143 rfl rfl (fun c3 => ?_) (fun c3 => ?_)
    · rw [if_pos c3] at h
      refine g_iinc (v := v5 + 1) 159 [(5, .int (v5 + 1)), (0, .ref a), (1, .int v1), (2, .int v2), (3, .int v3), (4, .int v4), (6, .int v6)] rfl rfl (Nat.le_of_ble_eq_true rfl) rfl rfl rfl ?_
      refine g_goto 38 rfl ?_
      exact g_sub (Sc rfl (Sc rfl (Sc rfl (Sc rfl (Sc rfl (Sc rfl (Sn _))))))) (hk38 a ha v1 v2 v3 v4 (v5 + 1) _ _ h)
    · rw [if_neg c3] at h
      refine g_iload_n 144 rfl rfl rfl ?_
      refine g_iload 146 rfl rfl rfl ?_
      refine g_iconst (v := 1) 147 rfl rfl rfl ?_
      refine g_iadd 148 rfl rfl ?_
      refine g_iconst (v := 2) 149 rfl rfl rfl ?_
      obtain ⟨q4, hq4, h⟩ := Option.bind_eq_some_iff.mp h
      refine g_callS (J := sm_I283) 152 rfl (by decide) rfl rfl (Nat.le_of_ble_eq_true rfl) (Nat.le_of_ble_eq_true rfl) rfl rfl (F_283 d (v6 + 1) 2 hq4) ?_
      refine g_callS (J := sm_I286) 155 rfl (by decide) rfl rfl (Nat.le_of_ble_eq_true rfl) (Nat.le_of_ble_eq_true rfl) rfl rfl (F_286 d v1 q4 U) ?_
      refine g_istore_n 156 [(1, .int (f_286 v1 q4 U)), (0, .ref a), (2, .int v2), (3, .int v3), (4, .int v4), (5, .int v5), (6, .int v6)] rfl (Nat.le_of_ble_eq_true rfl) rfl rfl ?_
      refine g_iinc (v := v5 + 1) 159 [(5, .int (v5 + 1)), (1, .int (f_286 v1 q4 U)), (0, .ref a), (2, .int v2), (3, .int v3), (4, .int v4), (6, .int v6)] rfl rfl (Nat.le_of_ble_eq_true rfl) rfl rfl rfl ?_
      refine g_goto 38 rfl ?_
      exact g_sub (Sc rfl (Sc rfl (Sc rfl (Sc rfl (Sc rfl (Sc rfl (Sn _))))))) (hk38 a ha (f_286 v1 q4 U) v2 v3 v4 (v5 + 1) _ _ h)
def f_60_38 (k7 : Nat → Int32 → Int32 → Int32 → sU → Option Int32) : Nat → Nat → Int32 → Int32 → Int32 → Int32 → Int32 → sU → Option Int32
  | 0, _, _, _, _, _, _, _ => none
  | n + 1, a, v1, v2, v3, v4, v5, U =>
    if 12 ≤ v5 then
      k7 a v1 v2 (v3 + 1) U
    else
      if ((U.1 a 9) >>> (v5 &&& 31)) = 0 then
        k7 a v1 v2 (v3 + 1) U
      else
        if (f_43 a v5 U) = 0 then
          f_60_120 (fun a v1 v2 v3 v4 v5 U => f_60_38 k7 n a v1 v2 v3 v4 v5 U) a v1 v2 v3 v4 v5 ((v4 + (iget (a + 3) v5 U)) - (2 * (iget ((tk U a) + 1) v3 U))) U
        else
          if (iget (a + 3) v5 U) ≤ v4 then
            f_60_120 (fun a v1 v2 v3 v4 v5 U => f_60_38 k7 n a v1 v2 v3 v4 v5 U) a v1 v2 v3 v4 v5 ((v4 + (iget (a + 3) v5 U)) - (2 * (iget ((tk U a) + 1) v3 U))) U
          else
            Option.bind (f_283 ((v4 + (iget (a + 3) v5 U)) - (2 * (iget ((tk U a) + 1) v3 U))) 2 U) fun q10 =>
            f_60_38 k7 n a v1 (f_287 v2 q10 U) v3 v4 (v5 + 1) U
set_option maxRecDepth 10000 in
set_option maxHeartbeats 2000000 in
theorem F_60_38 (d : Nat) {k7 : Nat → Int32 → Int32 → Int32 → sU → Option Int32} (hk7 : ∀ (a : Nat) (ha : sh a = 4) (v1 : Int32) (v2 : Int32) (v3 : Int32) (U : sU) (r : Int32), k7 a v1 v2 v3 U = some r → G (d + 1) sm_I60 7 [(0, .ref a), (1, .int v1), (2, .int v2), (3, .int v3)] [] U (some (.int r)) U) : ∀ (n : Nat) (a : Nat) (ha : sh a = 4) (v1 : Int32) (v2 : Int32) (v3 : Int32) (v4 : Int32) (v5 : Int32) (U : sU) (r : Int32), f_60_38 k7 n a v1 v2 v3 v4 v5 U = some r → G (d + 1) sm_I60 38 [(0, .ref a), (1, .int v1), (2, .int v2), (3, .int v3), (4, .int v4), (5, .int v5)] [] U (some (.int r)) U := by
  intro n
  induction n with
  | zero => intro a ha v1 v2 v3 v4 v5 U r h; cases h
  | succ n ih =>
    intro a ha v1 v2 v3 v4 v5 U r h
    first | rw [f_60_38] at h | (rw [f_60_38.eq_def] at h; dsimp only at h)
    refine g_iload 40 rfl rfl rfl ?_
    refine g_bipush (v := 12) 42 rfl (by decide) rfl ?_
    refine g_icmp_ge 162 45 rfl rfl (fun c5 => ?_) (fun c5 => ?_)
    · rw [if_pos c5] at h
      refine g_iinc (v := v3 + 1) 165 [(3, .int (v3 + 1)), (0, .ref a), (1, .int v1), (2, .int v2), (4, .int v4), (5, .int v5)] rfl rfl (Nat.le_of_ble_eq_true rfl) rfl rfl rfl ?_
      refine g_goto 7 rfl ?_
      exact g_sub (Sc rfl (Sc rfl (Sc rfl (Sc rfl (Sn _))))) (hk7 a ha v1 v2 (v3 + 1) _ _ h)
    · rw [if_neg c5] at h
      refine g_aload_n 46 rfl rfl rfl ?_
      refine g_get 49 rfl ha (Nat.le_of_ble_eq_true rfl) rfl rfl ?_
      refine g_iload 51 rfl rfl rfl ?_
      refine g_ishr 52 rfl rfl ?_
      refine g_if_eq 162 55 rfl rfl (fun c6 => ?_) (fun c6 => ?_)
      · rw [if_pos c6] at h
        refine g_iinc (v := v3 + 1) 165 [(3, .int (v3 + 1)), (0, .ref a), (1, .int v1), (2, .int v2), (4, .int v4), (5, .int v5)] rfl rfl (Nat.le_of_ble_eq_true rfl) rfl rfl rfl ?_
        refine g_goto 7 rfl ?_
        exact g_sub (Sc rfl (Sc rfl (Sc rfl (Sc rfl (Sn _))))) (hk7 a ha v1 v2 (v3 + 1) _ _ h)
      · rw [if_neg c6] at h
        refine g_iload 57 rfl rfl rfl ?_
        refine g_aload_n 58 rfl rfl rfl ?_
        refine g_get 61 rfl ha (Nat.le_of_ble_eq_true rfl) rfl rfl ?_
        refine g_iload 63 rfl rfl rfl ?_
        refine g_callV (J := sm_I9) 66 rfl (Nat.le_of_ble_eq_true rfl) rfl rfl (Nat.le_of_ble_eq_true rfl) (sh_4_3 ha) (Nat.le_of_ble_eq_true rfl) (Nat.le_of_ble_eq_true rfl) rfl rfl (U_9 d (a + 3) (sh_4_3 ha) v5 U) ?_
        refine g_iadd 67 rfl rfl ?_
        refine g_iconst (v := 2) 68 rfl rfl rfl ?_
        refine g_aload_n 69 rfl rfl rfl ?_
        refine g_get 72 rfl ha (Nat.le_of_ble_eq_true rfl) rfl rfl ?_
        refine g_get 75 rfl (tk_sh U a) (Nat.le_of_ble_eq_true rfl) rfl rfl ?_
        refine g_iload_n 76 rfl rfl rfl ?_
        refine g_callV (J := sm_I9) 79 rfl (Nat.le_of_ble_eq_true rfl) rfl rfl (Nat.le_of_ble_eq_true rfl) (sh_8_1 (tk_sh U a)) (Nat.le_of_ble_eq_true rfl) (Nat.le_of_ble_eq_true rfl) rfl rfl (U_9 d ((tk U a) + 1) (sh_8_1 (tk_sh U a)) v3 U) ?_
        refine g_imul 80 rfl rfl ?_
        refine g_isub 81 rfl rfl ?_
        refine g_istore 83 [(6, .int ((v4 + (iget (a + 3) v5 U)) - (2 * (iget ((tk U a) + 1) v3 U)))), (0, .ref a), (1, .int v1), (2, .int v2), (3, .int v3), (4, .int v4), (5, .int v5)] rfl (Nat.le_of_ble_eq_true rfl) rfl rfl ?_
        refine g_aload_n 84 rfl rfl rfl ?_
        refine g_iload 86 rfl rfl rfl ?_
        have r7 := F_43 d a ha v5 U
        refine g_callV (J := sm_I43) 89 rfl (Nat.le_of_ble_eq_true rfl) rfl rfl (Nat.le_of_ble_eq_true rfl) ha (Nat.le_of_ble_eq_true rfl) (Nat.le_of_ble_eq_true rfl) rfl rfl r7 ?_
        refine g_if_eq 120 92 rfl rfl (fun c8 => ?_) (fun c8 => ?_)
        · rw [if_pos c8] at h
          exact g_sub (Sc rfl (Sc rfl (Sc rfl (Sc rfl (Sc rfl (Sc rfl (Sc rfl (Sn _)))))))) (F_60_120 d (fun a ha v1 v2 v3 v4 v5 U r h => ih a ha v1 v2 v3 v4 v5 U r h) a ha v1 v2 v3 v4 v5 ((v4 + (iget (a + 3) v5 U)) - (2 * (iget ((tk U a) + 1) v3 U))) h)
        · rw [if_neg c8] at h
          refine g_aload_n 93 rfl rfl rfl ?_
          refine g_get 96 rfl ha (Nat.le_of_ble_eq_true rfl) rfl rfl ?_
          refine g_iload 98 rfl rfl rfl ?_
          refine g_callV (J := sm_I9) 101 rfl (Nat.le_of_ble_eq_true rfl) rfl rfl (Nat.le_of_ble_eq_true rfl) (sh_4_3 ha) (Nat.le_of_ble_eq_true rfl) (Nat.le_of_ble_eq_true rfl) rfl rfl (U_9 d (a + 3) (sh_4_3 ha) v5 U) ?_
          refine g_iload 103 rfl rfl rfl ?_
          refine g_icmp_le 120 106 rfl rfl (fun c9 => ?_) (fun c9 => ?_)
          · rw [if_pos c9] at h
            exact g_sub (Sc rfl (Sc rfl (Sc rfl (Sc rfl (Sc rfl (Sc rfl (Sc rfl (Sn _)))))))) (F_60_120 d (fun a ha v1 v2 v3 v4 v5 U r h => ih a ha v1 v2 v3 v4 v5 U r h) a ha v1 v2 v3 v4 v5 ((v4 + (iget (a + 3) v5 U)) - (2 * (iget ((tk U a) + 1) v3 U))) h)
          · rw [if_neg c9] at h
            refine g_iload_n 107 rfl rfl rfl ?_
            refine g_iload 109 rfl rfl rfl ?_
            refine g_iconst (v := 2) 110 rfl rfl rfl ?_
            obtain ⟨q10, hq10, h⟩ := Option.bind_eq_some_iff.mp h
            refine g_callS (J := sm_I283) 113 rfl (by decide) rfl rfl (Nat.le_of_ble_eq_true rfl) (Nat.le_of_ble_eq_true rfl) rfl rfl (F_283 d ((v4 + (iget (a + 3) v5 U)) - (2 * (iget ((tk U a) + 1) v3 U))) 2 hq10) ?_
            refine g_callS (J := sm_I287) 116 rfl (by decide) rfl rfl (Nat.le_of_ble_eq_true rfl) (Nat.le_of_ble_eq_true rfl) rfl rfl (F_287 d v2 q10 U) ?_
            refine g_istore_n 117 [(2, .int (f_287 v2 q10 U)), (6, .int ((v4 + (iget (a + 3) v5 U)) - (2 * (iget ((tk U a) + 1) v3 U)))), (0, .ref a), (1, .int v1), (3, .int v3), (4, .int v4), (5, .int v5)] rfl (Nat.le_of_ble_eq_true rfl) rfl rfl ?_
            refine g_goto 156 rfl ?_
            refine g_iinc (v := v5 + 1) 159 [(5, .int (v5 + 1)), (2, .int (f_287 v2 q10 U)), (6, .int ((v4 + (iget (a + 3) v5 U)) - (2 * (iget ((tk U a) + 1) v3 U)))), (0, .ref a), (1, .int v1), (3, .int v3), (4, .int v4)] rfl rfl (Nat.le_of_ble_eq_true rfl) rfl rfl rfl ?_
            refine g_goto 38 rfl ?_
            exact g_sub (Sc rfl (Sc rfl (Sc rfl (Sc rfl (Sc rfl (Sc rfl (Sn _))))))) (ih a ha v1 (f_287 v2 q10 U) v3 v4 (v5 + 1) _ _ h)
def f_60_7 : Nat → Nat → Int32 → Int32 → Int32 → sU → Option Int32
  | 0, _, _, _, _, _ => none
  | n + 1, a, v1, v2, v3, U =>
    if (U.1 (tk U a) 2) ≤ v3 then
      if v2 < v1 then
        some ((-1))
      else
        some v2
    else
      f_60_38 (fun a v1 v2 v3 U => f_60_7 n a v1 v2 v3 U) FU a v1 v2 v3 (iget (a + 3) (iget (a + 1) v3 U) U) 0 U
set_option maxRecDepth 10000 in
set_option maxHeartbeats 2000000 in
theorem F_60_7 (d : Nat)   : ∀ (n : Nat) (a : Nat) (ha : sh a = 4) (v1 : Int32) (v2 : Int32) (v3 : Int32) (U : sU) (r : Int32), f_60_7 n a v1 v2 v3 U = some r → G (d + 1) sm_I60 7 [(0, .ref a), (1, .int v1), (2, .int v2), (3, .int v3)] [] U (some (.int r)) U := by
  intro n
  induction n with
  | zero => intro a ha v1 v2 v3 U r h; cases h
  | succ n ih =>
    intro a ha v1 v2 v3 U r h
    first | rw [f_60_7] at h | (rw [f_60_7.eq_def] at h; dsimp only at h)
    refine g_iload_n 8 rfl rfl rfl ?_
    refine g_aload_n 9 rfl rfl rfl ?_
    refine g_get 12 rfl ha (Nat.le_of_ble_eq_true rfl) rfl rfl ?_
    refine g_get 15 rfl (tk_sh U a) (Nat.le_of_ble_eq_true rfl) rfl rfl ?_
    refine g_icmp_ge 168 18 rfl rfl (fun c11 => ?_) (fun c11 => ?_)
    · rw [if_pos c11] at h
      refine g_iload_n 169 rfl rfl rfl ?_
      refine g_iload_n 170 rfl rfl rfl ?_
      refine g_icmp_gt 177 173 rfl rfl (fun c12 => ?_) (fun c12 => ?_)
      · rw [if_pos c12] at h
        refine g_iconst (v := (-1)) 178 rfl rfl rfl ?_
        cases h
        exact g_iret rfl rfl
      · rw [if_neg c12] at h
        refine g_iload_n 174 rfl rfl rfl ?_
        refine g_goto 178 rfl ?_
        cases h
        exact g_iret rfl rfl
    · rw [if_neg c11] at h
      refine g_aload_n 19 rfl rfl rfl ?_
      refine g_get 22 rfl ha (Nat.le_of_ble_eq_true rfl) rfl rfl ?_
      refine g_aload_n 23 rfl rfl rfl ?_
      refine g_get 26 rfl ha (Nat.le_of_ble_eq_true rfl) rfl rfl ?_
      refine g_iload_n 27 rfl rfl rfl ?_
      refine g_callV (J := sm_I9) 30 rfl (Nat.le_of_ble_eq_true rfl) rfl rfl (Nat.le_of_ble_eq_true rfl) (sh_4_1 ha) (Nat.le_of_ble_eq_true rfl) (Nat.le_of_ble_eq_true rfl) rfl rfl (U_9 d (a + 1) (sh_4_1 ha) v3 U) ?_
      refine g_callV (J := sm_I9) 33 rfl (Nat.le_of_ble_eq_true rfl) rfl rfl (Nat.le_of_ble_eq_true rfl) (sh_4_3 ha) (Nat.le_of_ble_eq_true rfl) (Nat.le_of_ble_eq_true rfl) rfl rfl (U_9 d (a + 3) (sh_4_3 ha) (iget (a + 1) v3 U) U) ?_
      refine g_istore 35 [(4, .int (iget (a + 3) (iget (a + 1) v3 U) U)), (0, .ref a), (1, .int v1), (2, .int v2), (3, .int v3)] rfl (Nat.le_of_ble_eq_true rfl) rfl rfl ?_
      refine g_iconst (v := 0) 36 rfl rfl rfl ?_
      refine g_istore 38 [(5, .int 0), (4, .int (iget (a + 3) (iget (a + 1) v3 U) U)), (0, .ref a), (1, .int v1), (2, .int v2), (3, .int v3)] rfl (Nat.le_of_ble_eq_true rfl) rfl rfl ?_
      exact g_sub (Sc rfl (Sc rfl (Sc rfl (Sc rfl (Sc rfl (Sc rfl (Sn _))))))) (F_60_38 d (fun a ha v1 v2 v3 U r h => ih a ha v1 v2 v3 U r h) _ a ha v1 v2 v3 (iget (a + 3) (iget (a + 1) v3 U) U) 0 _ _ h)
def f_60 (a : Nat) (U : sU) : Option Int32 :=
  f_60_7 FU a 0 63 0 U
set_option maxRecDepth 10000 in
set_option maxHeartbeats 2000000 in
theorem F_60 (d : Nat) (a : Nat) (ha : sh a = 4) {U : sU} {r : Int32} (h : f_60 a U = some r) : Rn (d + 1) sm_I60 [.ref a] U (some (.int r)) U := by
  refine Rn_of [(0, .ref a)] (Nat.le_of_ble_eq_true rfl) (Sc rfl (Sn _)) ?_
  first | rw [f_60] at h | rw [f_60.eq_def] at h
  refine g_iconst (v := 0) 1 rfl rfl rfl ?_
  refine g_istore_n 2 [(1, .int 0), (0, .ref a)] rfl (Nat.le_of_ble_eq_true rfl) rfl rfl ?_
  refine g_bipush (v := 63) 4 rfl (by decide) rfl ?_
  refine g_istore_n 5 [(2, .int 63), (1, .int 0), (0, .ref a)] rfl (Nat.le_of_ble_eq_true rfl) rfl rfl ?_
  refine g_iconst (v := 0) 6 rfl rfl rfl ?_
  refine g_istore_n 7 [(3, .int 0), (2, .int 63), (1, .int 0), (0, .ref a)] rfl (Nat.le_of_ble_eq_true rfl) rfl rfl ?_
  exact g_sub (Sc rfl (Sc rfl (Sc rfl (Sc rfl (Sn _))))) (F_60_7 d _ a ha 0 63 0 _ _ h)

def f_62_6 : Nat → Nat → Int32 → sU → Option sU
  | 0, _, _, _ => none
  | n + 1, a, v1, U =>
    if (U.1 (tk U a) 2) ≤ v1 then
      some U
    else
      f_62_6 n a (v1 + 1) (f_38 a v1 (iget (a + 1) v1 U) U)
set_option maxRecDepth 10000 in
set_option maxHeartbeats 2000000 in
theorem F_62_6 (d : Nat)   : ∀ (n : Nat) (a : Nat) (ha : sh a = 4) (v1 : Int32) (U : sU) (U' : sU), f_62_6 n a v1 U = some U' → G (d + 2) sm_I62 6 [(0, .ref a), (1, .int v1)] [] U none U' := by
  intro n
  induction n with
  | zero => intro a ha v1 U U' h; cases h
  | succ n ih =>
    intro a ha v1 U U' h
    first | rw [f_62_6] at h | (rw [f_62_6.eq_def] at h; dsimp only at h)
    refine g_iload_n 7 rfl rfl rfl ?_
    refine g_aload_n 8 rfl rfl rfl ?_
    refine g_get 11 rfl ha (Nat.le_of_ble_eq_true rfl) rfl rfl ?_
    refine g_get 14 rfl (tk_sh U a) (Nat.le_of_ble_eq_true rfl) rfl rfl ?_
    refine g_icmp_ge 36 17 rfl rfl (fun c1 => ?_) (fun c1 => ?_)
    · rw [if_pos c1] at h
      cases h
      exact g_vret rfl rfl
    · rw [if_neg c1] at h
      refine g_aload_n 18 rfl rfl rfl ?_
      refine g_iload_n 19 rfl rfl rfl ?_
      refine g_aload_n 20 rfl rfl rfl ?_
      refine g_get 23 rfl ha (Nat.le_of_ble_eq_true rfl) rfl rfl ?_
      refine g_iload_n 24 rfl rfl rfl ?_
      refine g_callV (J := sm_I9) 27 rfl (Nat.le_of_ble_eq_true rfl) rfl rfl (Nat.le_of_ble_eq_true rfl) (sh_4_1 ha) (Nat.le_of_ble_eq_true rfl) (Nat.le_of_ble_eq_true rfl) rfl rfl (U_9 (d + 1) (a + 1) (sh_4_1 ha) v1 U) ?_
      refine g_callV (J := sm_I38) 30 rfl (Nat.le_of_ble_eq_true rfl) rfl rfl (Nat.le_of_ble_eq_true rfl) ha (Nat.le_of_ble_eq_true rfl) (Nat.le_of_ble_eq_true rfl) rfl rfl (F_38 d a ha v1 (iget (a + 1) v1 U) U) ?_
      refine g_iinc (v := v1 + 1) 33 [(1, .int (v1 + 1)), (0, .ref a)] rfl rfl (Nat.le_of_ble_eq_true rfl) rfl rfl rfl ?_
      refine g_goto 6 rfl ?_
      exact g_sub (Sc rfl (Sc rfl (Sn _))) (ih a ha (v1 + 1) _ _ h)
def f_62 (a : Nat) (U : sU) : Option sU :=
  f_62_6 FU a 0 (f_37 a U)
set_option maxRecDepth 10000 in
set_option maxHeartbeats 2000000 in
theorem F_62 (d : Nat) (a : Nat) (ha : sh a = 4) {U : sU} {U' : sU} (h : f_62 a U = some U') : Rn (d + 2) sm_I62 [.ref a] U none U' := by
  refine Rn_of [(0, .ref a)] (Nat.le_of_ble_eq_true rfl) (Sc rfl (Sn _)) ?_
  first | rw [f_62] at h | rw [f_62.eq_def] at h
  refine g_aload_n 1 rfl rfl rfl ?_
  refine g_callV (J := sm_I37) 4 rfl (Nat.le_of_ble_eq_true rfl) rfl rfl (Nat.le_of_ble_eq_true rfl) ha (Nat.le_of_ble_eq_true rfl) (Nat.le_of_ble_eq_true rfl) rfl rfl (F_37 (d + 1) a ha U) ?_
  refine g_iconst (v := 0) 5 rfl rfl rfl ?_
  refine g_istore_n 6 [(1, .int 0), (0, .ref a)] rfl (Nat.le_of_ble_eq_true rfl) rfl rfl ?_
  exact g_sub (Sc rfl (Sc rfl (Sn _))) (F_62_6 d _ a ha 0 _ _ h)

def f_61_96 : Nat → Nat → Int32 → sU → Option (Int32 × sU)
  | 0, _, _, _ => none
  | n + 1, a, v3, U =>
    if (U.1 (tk U a) 2) ≤ v3 then
      Option.bind (f_62 a U) fun q2 =>
      some (1, q2)
    else
      f_61_96 n a (v3 + 1) (iput (a + 1) v3 0 U)
set_option maxRecDepth 10000 in
set_option maxHeartbeats 2000000 in
theorem F_61_96 (d : Nat)   : ∀ (n : Nat) (a : Nat) (ha : sh a = 4) (v3 : Int32) (U : sU) (r : Int32) (U' : sU), f_61_96 n a v3 U = some (r, U') → G (d + 3) sm_I61 96 [(0, .ref a), (3, .int v3)] [] U (some (.int r)) U' := by
  intro n
  induction n with
  | zero => intro a ha v3 U r U' h; cases h
  | succ n ih =>
    intro a ha v3 U r U' h
    first | rw [f_61_96] at h | (rw [f_61_96.eq_def] at h; dsimp only at h)
    refine g_iload_n 97 rfl rfl rfl ?_
    refine g_aload_n 98 rfl rfl rfl ?_
    refine g_get 101 rfl ha (Nat.le_of_ble_eq_true rfl) rfl rfl ?_
    refine g_get 104 rfl (tk_sh U a) (Nat.le_of_ble_eq_true rfl) rfl rfl ?_
    refine g_icmp_ge 122 107 rfl rfl (fun c1 => ?_) (fun c1 => ?_)
    · rw [if_pos c1] at h
      refine g_aload_n 123 rfl rfl rfl ?_
      obtain ⟨q2, hq2, h⟩ := Option.bind_eq_some_iff.mp h
      refine g_callV (J := sm_I62) 126 rfl (Nat.le_of_ble_eq_true rfl) rfl rfl (Nat.le_of_ble_eq_true rfl) ha (Nat.le_of_ble_eq_true rfl) (Nat.le_of_ble_eq_true rfl) rfl rfl (F_62 d a ha hq2) ?_
      refine g_iconst (v := 1) 127 rfl rfl rfl ?_
      cases h
      exact g_zret rfl rfl (Or.inr rfl)
    · rw [if_neg c1] at h
      refine g_aload_n 108 rfl rfl rfl ?_
      refine g_get 111 rfl ha (Nat.le_of_ble_eq_true rfl) rfl rfl ?_
      refine g_iload_n 112 rfl rfl rfl ?_
      refine g_iconst (v := 0) 113 rfl rfl rfl ?_
      refine g_callV (J := sm_I10) 116 rfl (Nat.le_of_ble_eq_true rfl) rfl rfl (Nat.le_of_ble_eq_true rfl) (sh_4_1 ha) (Nat.le_of_ble_eq_true rfl) (Nat.le_of_ble_eq_true rfl) rfl rfl (U_10 (d + 2) (a + 1) (sh_4_1 ha) v3 0 U) ?_
      refine g_iinc (v := v3 + 1) 119 [(3, .int (v3 + 1)), (0, .ref a)] rfl rfl (Nat.le_of_ble_eq_true rfl) rfl rfl rfl ?_
      refine g_goto 96 rfl ?_
      exact g_sub (Sc rfl (Sc rfl (Sn _))) (ih a ha (v3 + 1) _ _ _ h)
def f_61_18 (k10 : Nat → Int32 → sU → Option (Int32 × sU)) : Nat → Nat → Int32 → Int32 → Int32 → sU → Option (Int32 × sU)
  | 0, _, _, _, _, _ => none
  | n + 1, a, v1, v2, v3, U =>
    if v1 ≤ v3 then
      if v2 < (iget (a + 1) v1 U) then
        k10 a (v1 + (-1)) U
      else
        if (U.1 (tk U a) 5) ≤ ((iget (a + 1) v1 U) + 1) then
          k10 a (v1 + (-1)) U
        else
          f_61_96 FU a (v1 + 1) (iput (a + 1) v1 ((iget (a + 1) v1 U) + 1) U)
    else
      f_61_18 k10 n a v1 (f_286 v2 (iget (a + 1) v3 U) U) (v3 + 1) U
set_option maxRecDepth 10000 in
set_option maxHeartbeats 2000000 in
theorem F_61_18 (d : Nat) {k10 : Nat → Int32 → sU → Option (Int32 × sU)} (hk10 : ∀ (a : Nat) (ha : sh a = 4) (v1 : Int32) (U : sU) (r : Int32) (U' : sU), k10 a v1 U = some (r, U') → G (d + 3) sm_I61 10 [(0, .ref a), (1, .int v1)] [] U (some (.int r)) U') : ∀ (n : Nat) (a : Nat) (ha : sh a = 4) (v1 : Int32) (v2 : Int32) (v3 : Int32) (U : sU) (r : Int32) (U' : sU), f_61_18 k10 n a v1 v2 v3 U = some (r, U') → G (d + 3) sm_I61 18 [(0, .ref a), (1, .int v1), (2, .int v2), (3, .int v3)] [] U (some (.int r)) U' := by
  intro n
  induction n with
  | zero => intro a ha v1 v2 v3 U r U' h; cases h
  | succ n ih =>
    intro a ha v1 v2 v3 U r U' h
    first | rw [f_61_18] at h | (rw [f_61_18.eq_def] at h; dsimp only at h)
    refine g_iload_n 19 rfl rfl rfl ?_
    refine g_iload_n 20 rfl rfl rfl ?_
    refine g_icmp_ge 42 23 rfl rfl (fun c3 => ?_) (fun c3 => ?_)
    · rw [if_pos c3] at h
      refine g_aload_n 43 rfl rfl rfl ?_
      refine g_get 46 rfl ha (Nat.le_of_ble_eq_true rfl) rfl rfl ?_
      refine g_iload_n 47 rfl rfl rfl ?_
      refine g_callV (J := sm_I9) 50 rfl (Nat.le_of_ble_eq_true rfl) rfl rfl (Nat.le_of_ble_eq_true rfl) (sh_4_1 ha) (Nat.le_of_ble_eq_true rfl) (Nat.le_of_ble_eq_true rfl) rfl rfl (U_9 (d + 2) (a + 1) (sh_4_1 ha) v1 U) ?_
      refine g_iload_n 51 rfl rfl rfl ?_
      refine g_icmp_gt 128 54 rfl rfl (fun c4 => ?_) (fun c4 => ?_)
      · rw [if_pos c4] at h
        refine g_iinc (v := v1 + (-1)) 131 [(1, .int (v1 + (-1))), (0, .ref a), (2, .int v2), (3, .int v3)] rfl rfl (Nat.le_of_ble_eq_true rfl) rfl rfl rfl ?_
        refine g_goto 10 rfl ?_
        exact g_sub (Sc rfl (Sc rfl (Sn _))) (hk10 a ha (v1 + (-1)) _ _ _ h)
      · rw [if_neg c4] at h
        refine g_aload_n 55 rfl rfl rfl ?_
        refine g_get 58 rfl ha (Nat.le_of_ble_eq_true rfl) rfl rfl ?_
        refine g_iload_n 59 rfl rfl rfl ?_
        refine g_callV (J := sm_I9) 62 rfl (Nat.le_of_ble_eq_true rfl) rfl rfl (Nat.le_of_ble_eq_true rfl) (sh_4_1 ha) (Nat.le_of_ble_eq_true rfl) (Nat.le_of_ble_eq_true rfl) rfl rfl (U_9 (d + 2) (a + 1) (sh_4_1 ha) v1 U) ?_
        refine g_iconst (v := 1) 63 rfl rfl rfl ?_
        refine g_iadd 64 rfl rfl ?_
        refine g_aload_n 65 rfl rfl rfl ?_
        refine g_get 68 rfl ha (Nat.le_of_ble_eq_true rfl) rfl rfl ?_
        refine g_get 71 rfl (tk_sh U a) (Nat.le_of_ble_eq_true rfl) rfl rfl ?_
        refine g_icmp_ge 128 74 rfl rfl (fun c5 => ?_) (fun c5 => ?_)
        · rw [if_pos c5] at h
          refine g_iinc (v := v1 + (-1)) 131 [(1, .int (v1 + (-1))), (0, .ref a), (2, .int v2), (3, .int v3)] rfl rfl (Nat.le_of_ble_eq_true rfl) rfl rfl rfl ?_
          refine g_goto 10 rfl ?_
          exact g_sub (Sc rfl (Sc rfl (Sn _))) (hk10 a ha (v1 + (-1)) _ _ _ h)
        · rw [if_neg c5] at h
          refine g_aload_n 75 rfl rfl rfl ?_
          refine g_get 78 rfl ha (Nat.le_of_ble_eq_true rfl) rfl rfl ?_
          refine g_iload_n 79 rfl rfl rfl ?_
          refine g_aload_n 80 rfl rfl rfl ?_
          refine g_get 83 rfl ha (Nat.le_of_ble_eq_true rfl) rfl rfl ?_
          refine g_iload_n 84 rfl rfl rfl ?_
          refine g_callV (J := sm_I9) 87 rfl (Nat.le_of_ble_eq_true rfl) rfl rfl (Nat.le_of_ble_eq_true rfl) (sh_4_1 ha) (Nat.le_of_ble_eq_true rfl) (Nat.le_of_ble_eq_true rfl) rfl rfl (U_9 (d + 2) (a + 1) (sh_4_1 ha) v1 U) ?_
          refine g_iconst (v := 1) 88 rfl rfl rfl ?_
          refine g_iadd 89 rfl rfl ?_
          refine g_callV (J := sm_I10) 92 rfl (Nat.le_of_ble_eq_true rfl) rfl rfl (Nat.le_of_ble_eq_true rfl) (sh_4_1 ha) (Nat.le_of_ble_eq_true rfl) (Nat.le_of_ble_eq_true rfl) rfl rfl (U_10 (d + 2) (a + 1) (sh_4_1 ha) v1 ((iget (a + 1) v1 U) + 1) U) ?_
          refine g_iload_n 93 rfl rfl rfl ?_
          refine g_iconst (v := 1) 94 rfl rfl rfl ?_
          refine g_iadd 95 rfl rfl ?_
          refine g_istore_n 96 [(3, .int (v1 + 1)), (0, .ref a), (1, .int v1), (2, .int v2)] rfl (Nat.le_of_ble_eq_true rfl) rfl rfl ?_
          exact g_sub (Sc rfl (Sc rfl (Sn _))) (F_61_96 d _ a ha (v1 + 1) _ _ _ h)
    · rw [if_neg c3] at h
      refine g_iload_n 24 rfl rfl rfl ?_
      refine g_aload_n 25 rfl rfl rfl ?_
      refine g_get 28 rfl ha (Nat.le_of_ble_eq_true rfl) rfl rfl ?_
      refine g_iload_n 29 rfl rfl rfl ?_
      refine g_callV (J := sm_I9) 32 rfl (Nat.le_of_ble_eq_true rfl) rfl rfl (Nat.le_of_ble_eq_true rfl) (sh_4_1 ha) (Nat.le_of_ble_eq_true rfl) (Nat.le_of_ble_eq_true rfl) rfl rfl (U_9 (d + 2) (a + 1) (sh_4_1 ha) v3 U) ?_
      refine g_callS (J := sm_I286) 35 rfl (by decide) rfl rfl (Nat.le_of_ble_eq_true rfl) (Nat.le_of_ble_eq_true rfl) rfl rfl (F_286 (d + 2) v2 (iget (a + 1) v3 U) U) ?_
      refine g_istore_n 36 [(2, .int (f_286 v2 (iget (a + 1) v3 U) U)), (0, .ref a), (1, .int v1), (3, .int v3)] rfl (Nat.le_of_ble_eq_true rfl) rfl rfl ?_
      refine g_iinc (v := v3 + 1) 39 [(3, .int (v3 + 1)), (2, .int (f_286 v2 (iget (a + 1) v3 U) U)), (0, .ref a), (1, .int v1)] rfl rfl (Nat.le_of_ble_eq_true rfl) rfl rfl rfl ?_
      refine g_goto 18 rfl ?_
      exact g_sub (Sc rfl (Sc rfl (Sc rfl (Sc rfl (Sn _))))) (ih a ha v1 (f_286 v2 (iget (a + 1) v3 U) U) (v3 + 1) _ _ _ h)
def f_61_10 : Nat → Nat → Int32 → sU → Option (Int32 × sU)
  | 0, _, _, _ => none
  | n + 1, a, v1, U =>
    if v1 ≤ 0 then
      some (0, U)
    else
      f_61_18 (fun a v1 U => f_61_10 n a v1 U) FU a v1 0 0 U
set_option maxRecDepth 10000 in
set_option maxHeartbeats 2000000 in
theorem F_61_10 (d : Nat)   : ∀ (n : Nat) (a : Nat) (ha : sh a = 4) (v1 : Int32) (U : sU) (r : Int32) (U' : sU), f_61_10 n a v1 U = some (r, U') → G (d + 3) sm_I61 10 [(0, .ref a), (1, .int v1)] [] U (some (.int r)) U' := by
  intro n
  induction n with
  | zero => intro a ha v1 U r U' h; cases h
  | succ n ih =>
    intro a ha v1 U r U' h
    first | rw [f_61_10] at h | (rw [f_61_10.eq_def] at h; dsimp only at h)
    refine g_iload_n 11 rfl rfl rfl ?_
    refine g_if_le 134 14 rfl rfl (fun c6 => ?_) (fun c6 => ?_)
    · rw [if_pos c6] at h
      refine g_iconst (v := 0) 135 rfl rfl rfl ?_
      cases h
      exact g_zret rfl rfl (Or.inl rfl)
    · rw [if_neg c6] at h
      refine g_iconst (v := 0) 15 rfl rfl rfl ?_
      refine g_istore_n 16 [(2, .int 0), (0, .ref a), (1, .int v1)] rfl (Nat.le_of_ble_eq_true rfl) rfl rfl ?_
      refine g_iconst (v := 0) 17 rfl rfl rfl ?_
      refine g_istore_n 18 [(3, .int 0), (2, .int 0), (0, .ref a), (1, .int v1)] rfl (Nat.le_of_ble_eq_true rfl) rfl rfl ?_
      exact g_sub (Sc rfl (Sc rfl (Sc rfl (Sc rfl (Sn _))))) (F_61_18 d (fun a ha v1 U r U' h => ih a ha v1 U r U' h) _ a ha v1 0 0 _ _ _ h)
def f_61 (a : Nat) (U : sU) : Option (Int32 × sU) :=
  f_61_10 FU a ((U.1 (tk U a) 2) - 1) U
set_option maxRecDepth 10000 in
set_option maxHeartbeats 2000000 in
theorem F_61 (d : Nat) (a : Nat) (ha : sh a = 4) {U : sU} {r : Int32} {U' : sU} (h : f_61 a U = some (r, U')) : Rn (d + 3) sm_I61 [.ref a] U (some (.int r)) U' := by
  refine Rn_of [(0, .ref a)] (Nat.le_of_ble_eq_true rfl) (Sc rfl (Sn _)) ?_
  first | rw [f_61] at h | rw [f_61.eq_def] at h
  refine g_aload_n 1 rfl rfl rfl ?_
  refine g_get 4 rfl ha (Nat.le_of_ble_eq_true rfl) rfl rfl ?_
  refine g_get 7 rfl (tk_sh U a) (Nat.le_of_ble_eq_true rfl) rfl rfl ?_
  refine g_iconst (v := 1) 8 rfl rfl rfl ?_
  refine g_isub 9 rfl rfl ?_
  refine g_istore_n 10 [(1, .int ((U.1 (tk U a) 2) - 1)), (0, .ref a)] rfl (Nat.le_of_ble_eq_true rfl) rfl rfl ?_
  exact g_sub (Sc rfl (Sc rfl (Sn _))) (F_61_10 d _ a ha ((U.1 (tk U a) 2) - 1) _ _ _ h)

def f_64 (a : Nat) (x1 : Int32) (U : sU) : Option (Int32 × sU) :=
  if x1 ≤ 0 then
    some (0, sI U a 14 ((((U.1 a 14) * 1103515245) + 12345) &&& 2147483647))
  else
    if ¬ x1 = 0 then
    some ((((sI U a 14 ((((U.1 a 14) * 1103515245) + 12345) &&& 2147483647)).1 a 14) >>> (16 &&& 31)) - (((sI U a 14 ((((U.1 a 14) * 1103515245) + 12345) &&& 2147483647)).1 a 14) >>> (16 &&& 31)) / x1 * x1, sI U a 14 ((((U.1 a 14) * 1103515245) + 12345) &&& 2147483647))
    else none
set_option maxRecDepth 10000 in
set_option maxHeartbeats 2000000 in
theorem F_64 (d : Nat) (a : Nat) (ha : sh a = 4) (x1 : Int32) {U : sU} {r : Int32} {U' : sU} (h : f_64 a x1 U = some (r, U')) : Rn (d + 0) sm_I64 [.ref a, .int x1] U (some (.int r)) U' := by
  refine Rn_of [(0, .ref a), (1, .int x1)] (Nat.le_of_ble_eq_true rfl) (Sc rfl (Sc rfl (Sn _))) ?_
  first | rw [f_64] at h | rw [f_64.eq_def] at h
  refine g_aload_n 1 rfl rfl rfl ?_
  refine g_aload_n 2 rfl rfl rfl ?_
  refine g_get 5 rfl ha (Nat.le_of_ble_eq_true rfl) rfl rfl ?_
  refine g_ldc (v := 1103515245) 7 rfl (by decide) rfl ?_
  refine g_imul 8 rfl rfl ?_
  refine g_sipush (v := 12345) 11 rfl (by decide) rfl ?_
  refine g_iadd 12 rfl rfl ?_
  refine g_ldc (v := 2147483647) 14 rfl (by decide) rfl ?_
  refine g_iand 15 rfl rfl ?_
  refine g_putI 18 rfl ha (Nat.le_of_ble_eq_true rfl) (Nat.le_of_ble_eq_true rfl) rfl fs_4_14 rfl ?_
  refine g_iload_n 19 rfl rfl rfl ?_
  refine g_if_le 34 22 rfl rfl (fun c1 => ?_) (fun c1 => ?_)
  · rw [if_pos c1] at h
    refine g_iconst (v := 0) 35 rfl rfl rfl ?_
    cases h
    exact g_iret rfl rfl
  · rw [if_neg c1] at h
    refine g_aload_n 23 rfl rfl rfl ?_
    refine g_get 26 rfl ha (Nat.le_of_ble_eq_true rfl) rfl rfl ?_
    refine g_bipush (v := 16) 28 rfl (by decide) rfl ?_
    refine g_ishr 29 rfl rfl ?_
    refine g_iload_n 30 rfl rfl rfl ?_
    by_cases n2 : ¬ x1 = 0
    case neg => rw [if_neg n2] at h; cases h
    rw [if_pos n2] at h
    refine g_irem 31 rfl n2 rfl ?_
    refine g_goto 35 rfl ?_
    cases h
    exact g_iret rfl rfl

def f_65_4 : Nat → Nat → Int32 → Int32 → Int32 → sU → Option Int32
  | 0, _, _, _, _, _ => none
  | n + 1, a, v1, v2, v3, U =>
    if (U.1 (tk U a) 2) ≤ v3 then
      some 0
    else
      if (v2 + (iget ((tk U a) + 3) v3 U)) ≤ v1 then
        f_65_4 n a v1 (v2 + (iget ((tk U a) + 3) v3 U)) (v3 + 1) U
      else
        some v3
set_option maxRecDepth 10000 in
set_option maxHeartbeats 2000000 in
theorem F_65_4 (d : Nat)   : ∀ (n : Nat) (a : Nat) (ha : sh a = 4) (v1 : Int32) (v2 : Int32) (v3 : Int32) (U : sU) (r : Int32), f_65_4 n a v1 v2 v3 U = some r → G (d + 1) sm_I65 4 [(0, .ref a), (1, .int v1), (2, .int v2), (3, .int v3)] [] U (some (.int r)) U := by
  intro n
  induction n with
  | zero => intro a ha v1 v2 v3 U r h; cases h
  | succ n ih =>
    intro a ha v1 v2 v3 U r h
    first | rw [f_65_4] at h | (rw [f_65_4.eq_def] at h; dsimp only at h)
    refine g_iload_n 5 rfl rfl rfl ?_
    refine g_aload_n 6 rfl rfl rfl ?_
    refine g_get 9 rfl ha (Nat.le_of_ble_eq_true rfl) rfl rfl ?_
    refine g_get 12 rfl (tk_sh U a) (Nat.le_of_ble_eq_true rfl) rfl rfl ?_
    refine g_icmp_ge 42 15 rfl rfl (fun c1 => ?_) (fun c1 => ?_)
    · rw [if_pos c1] at h
      refine g_iconst (v := 0) 43 rfl rfl rfl ?_
      cases h
      exact g_iret rfl rfl
    · rw [if_neg c1] at h
      refine g_iload_n 16 rfl rfl rfl ?_
      refine g_aload_n 17 rfl rfl rfl ?_
      refine g_get 20 rfl ha (Nat.le_of_ble_eq_true rfl) rfl rfl ?_
      refine g_get 23 rfl (tk_sh U a) (Nat.le_of_ble_eq_true rfl) rfl rfl ?_
      refine g_iload_n 24 rfl rfl rfl ?_
      refine g_callV (J := sm_I9) 27 rfl (Nat.le_of_ble_eq_true rfl) rfl rfl (Nat.le_of_ble_eq_true rfl) (sh_8_3 (tk_sh U a)) (Nat.le_of_ble_eq_true rfl) (Nat.le_of_ble_eq_true rfl) rfl rfl (U_9 d ((tk U a) + 3) (sh_8_3 (tk_sh U a)) v3 U) ?_
      refine g_iadd 28 rfl rfl ?_
      refine g_istore_n 29 [(2, .int (v2 + (iget ((tk U a) + 3) v3 U))), (0, .ref a), (1, .int v1), (3, .int v3)] rfl (Nat.le_of_ble_eq_true rfl) rfl rfl ?_
      refine g_iload_n 30 rfl rfl rfl ?_
      refine g_iload_n 31 rfl rfl rfl ?_
      refine g_icmp_ge 36 34 rfl rfl (fun c2 => ?_) (fun c2 => ?_)
      · rw [if_pos c2] at h
        refine g_iinc (v := v3 + 1) 39 [(3, .int (v3 + 1)), (2, .int (v2 + (iget ((tk U a) + 3) v3 U))), (0, .ref a), (1, .int v1)] rfl rfl (Nat.le_of_ble_eq_true rfl) rfl rfl rfl ?_
        refine g_goto 4 rfl ?_
        exact g_sub (Sc rfl (Sc rfl (Sc rfl (Sc rfl (Sn _))))) (ih a ha v1 (v2 + (iget ((tk U a) + 3) v3 U)) (v3 + 1) _ _ h)
      · rw [if_neg c2] at h
        refine g_iload_n 35 rfl rfl rfl ?_
        cases h
        exact g_iret rfl rfl
def f_65 (a : Nat) (x1 : Int32) (U : sU) : Option Int32 :=
  f_65_4 FU a x1 0 0 U
set_option maxRecDepth 10000 in
set_option maxHeartbeats 2000000 in
theorem F_65 (d : Nat) (a : Nat) (ha : sh a = 4) (x1 : Int32) {U : sU} {r : Int32} (h : f_65 a x1 U = some r) : Rn (d + 1) sm_I65 [.ref a, .int x1] U (some (.int r)) U := by
  refine Rn_of [(0, .ref a), (1, .int x1)] (Nat.le_of_ble_eq_true rfl) (Sc rfl (Sc rfl (Sn _))) ?_
  first | rw [f_65] at h | rw [f_65.eq_def] at h
  refine g_iconst (v := 0) 1 rfl rfl rfl ?_
  refine g_istore_n 2 [(2, .int 0), (0, .ref a), (1, .int x1)] rfl (Nat.le_of_ble_eq_true rfl) rfl rfl ?_
  refine g_iconst (v := 0) 3 rfl rfl rfl ?_
  refine g_istore_n 4 [(3, .int 0), (2, .int 0), (0, .ref a), (1, .int x1)] rfl (Nat.le_of_ble_eq_true rfl) rfl rfl ?_
  exact g_sub (Sc rfl (Sc rfl (Sc rfl (Sc rfl (Sn _))))) (F_65_4 d _ a ha x1 0 0 _ _ h)

def f_66_33 : Nat → Nat → Int32 → Int32 → Int32 → sU → Option (Int32 × sU)
  | 0, _, _, _, _, _ => none
  | n + 1, a, v1, v2, v3, U =>
    if 12 ≤ v3 then
      some (v1, U)
    else
      if (f_43 a v3 U) = 0 then
        f_66_33 n a v1 v2 (v3 + 1) U
      else
        if v2 = 0 then
          some (v3, U)
        else
          f_66_33 n a v1 (v2 + (-1)) (v3 + 1) U
set_option maxRecDepth 10000 in
set_option maxHeartbeats 2000000 in
theorem F_66_33 (d : Nat)   : ∀ (n : Nat) (a : Nat) (ha : sh a = 4) (v1 : Int32) (v2 : Int32) (v3 : Int32) (U : sU) (r : Int32) (U' : sU), f_66_33 n a v1 v2 v3 U = some (r, U') → G (d + 1) sm_I66 33 [(0, .ref a), (1, .int v1), (2, .int v2), (3, .int v3)] [] U (some (.int r)) U' := by
  intro n
  induction n with
  | zero => intro a ha v1 v2 v3 U r U' h; cases h
  | succ n ih =>
    intro a ha v1 v2 v3 U r U' h
    first | rw [f_66_33] at h | (rw [f_66_33.eq_def] at h; dsimp only at h)
    refine g_iload_n 34 rfl rfl rfl ?_
    refine g_bipush (v := 12) 36 rfl (by decide) rfl ?_
    refine g_icmp_ge 62 39 rfl rfl (fun c1 => ?_) (fun c1 => ?_)
    · rw [if_pos c1] at h
      refine g_iload_n 63 rfl rfl rfl ?_
      cases h
      exact g_iret rfl rfl
    · rw [if_neg c1] at h
      refine g_aload_n 40 rfl rfl rfl ?_
      refine g_iload_n 41 rfl rfl rfl ?_
      have r2 := F_43 d a ha v3 U
      refine g_callV (J := sm_I43) 44 rfl (Nat.le_of_ble_eq_true rfl) rfl rfl (Nat.le_of_ble_eq_true rfl) ha (Nat.le_of_ble_eq_true rfl) (Nat.le_of_ble_eq_true rfl) rfl rfl r2 ?_
      refine g_if_eq 56 47 rfl rfl (fun c3 => ?_) (fun c3 => ?_)
      · rw [if_pos c3] at h
        refine g_iinc (v := v3 + 1) 59 [(3, .int (v3 + 1)), (0, .ref a), (1, .int v1), (2, .int v2)] rfl rfl (Nat.le_of_ble_eq_true rfl) rfl rfl rfl ?_
        refine g_goto 33 rfl ?_
        exact g_sub (Sc rfl (Sc rfl (Sc rfl (Sc rfl (Sn _))))) (ih a ha v1 v2 (v3 + 1) _ _ _ h)
      · rw [if_neg c3] at h
        refine g_iload_n 48 rfl rfl rfl ?_
        refine g_if_ne 53 51 rfl rfl (fun c4 => ?_) (fun c4 => ?_)
        · rw [if_neg c4] at h
          refine g_iinc (v := v2 + (-1)) 56 [(2, .int (v2 + (-1))), (0, .ref a), (1, .int v1), (3, .int v3)] rfl rfl (Nat.le_of_ble_eq_true rfl) rfl rfl rfl ?_
          refine g_iinc (v := v3 + 1) 59 [(3, .int (v3 + 1)), (2, .int (v2 + (-1))), (0, .ref a), (1, .int v1)] rfl rfl (Nat.le_of_ble_eq_true rfl) rfl rfl rfl ?_
          refine g_goto 33 rfl ?_
          exact g_sub (Sc rfl (Sc rfl (Sc rfl (Sc rfl (Sn _))))) (ih a ha v1 (v2 + (-1)) (v3 + 1) _ _ _ h)
        · rw [if_pos c4] at h
          refine g_iload_n 52 rfl rfl rfl ?_
          cases h
          exact g_iret rfl rfl
def f_66 (a : Nat) (x1 : Int32) (U : sU) : Option (Int32 × sU) :=
  if (U.1 a 11) = 0 then
    some (x1, U)
  else
    Option.bind (f_64 a 100 U) fun q6 =>
    if ((q6.2).1 a 13) ≤ q6.1 then
      Option.bind (f_64 a ((q6.2).1 a 10) q6.2) fun q8 =>
      f_66_33 FU a x1 q8.1 0 q8.2
    else
      some (x1, q6.2)
set_option maxRecDepth 10000 in
set_option maxHeartbeats 2000000 in
theorem F_66 (d : Nat) (a : Nat) (ha : sh a = 4) (x1 : Int32) {U : sU} {r : Int32} {U' : sU} (h : f_66 a x1 U = some (r, U')) : Rn (d + 1) sm_I66 [.ref a, .int x1] U (some (.int r)) U' := by
  refine Rn_of [(0, .ref a), (1, .int x1)] (Nat.le_of_ble_eq_true rfl) (Sc rfl (Sc rfl (Sn _))) ?_
  first | rw [f_66] at h | rw [f_66.eq_def] at h
  refine g_aload_n 1 rfl rfl rfl ?_
  refine g_get 4 rfl ha (Nat.le_of_ble_eq_true rfl) rfl rfl ?_
  refine g_if_eq 20 7 rfl rfl (fun c5 => ?_) (fun c5 => ?_)
  · rw [if_pos c5] at h
    refine g_iload_n 21 rfl rfl rfl ?_
    cases h
    exact g_iret rfl rfl
  · rw [if_neg c5] at h
    refine g_aload_n 8 rfl rfl rfl ?_
    refine g_bipush (v := 100) 10 rfl (by decide) rfl ?_
    obtain ⟨q6, hq6, h⟩ := Option.bind_eq_some_iff.mp h
    refine g_callV (J := sm_I64) 13 rfl (Nat.le_of_ble_eq_true rfl) rfl rfl (Nat.le_of_ble_eq_true rfl) ha (Nat.le_of_ble_eq_true rfl) (Nat.le_of_ble_eq_true rfl) rfl rfl (F_64 d a ha 100 hq6) ?_
    refine g_aload_n 14 rfl rfl rfl ?_
    refine g_get 17 rfl ha (Nat.le_of_ble_eq_true rfl) rfl rfl ?_
    refine g_icmp_ge 22 20 rfl rfl (fun c7 => ?_) (fun c7 => ?_)
    · rw [if_pos c7] at h
      refine g_aload_n 23 rfl rfl rfl ?_
      refine g_aload_n 24 rfl rfl rfl ?_
      refine g_get 27 rfl ha (Nat.le_of_ble_eq_true rfl) rfl rfl ?_
      obtain ⟨q8, hq8, h⟩ := Option.bind_eq_some_iff.mp h
      refine g_callV (J := sm_I64) 30 rfl (Nat.le_of_ble_eq_true rfl) rfl rfl (Nat.le_of_ble_eq_true rfl) ha (Nat.le_of_ble_eq_true rfl) (Nat.le_of_ble_eq_true rfl) rfl rfl (F_64 d a ha ((q6.2).1 a 10) hq8) ?_
      refine g_istore_n 31 [(2, .int q8.1), (0, .ref a), (1, .int x1)] rfl (Nat.le_of_ble_eq_true rfl) rfl rfl ?_
      refine g_iconst (v := 0) 32 rfl rfl rfl ?_
      refine g_istore_n 33 [(3, .int 0), (2, .int q8.1), (0, .ref a), (1, .int x1)] rfl (Nat.le_of_ble_eq_true rfl) rfl rfl ?_
      exact g_sub (Sc rfl (Sc rfl (Sc rfl (Sc rfl (Sn _))))) (F_66_33 d _ a ha x1 q8.1 0 _ _ _ h)
    · rw [if_neg c7] at h
      refine g_iload_n 21 rfl rfl rfl ?_
      cases h
      exact g_iret rfl rfl

def f_106_4 : Nat → Nat → Int32 → Int32 → sU → Option Int32
  | 0, _, _, _, _ => none
  | n + 1, a, v1, v2, U =>
    if (U.1 a 2) ≤ v2 then
      some v1
    else
      f_106_4 n a (v1 + (iget (a + 3) v2 U)) (v2 + 1) U
set_option maxRecDepth 10000 in
set_option maxHeartbeats 2000000 in
theorem F_106_4 (d : Nat)   : ∀ (n : Nat) (a : Nat) (ha : sh a = 8) (v1 : Int32) (v2 : Int32) (U : sU) (r : Int32), f_106_4 n a v1 v2 U = some r → G (d + 1) sm_I106 4 [(0, .ref a), (1, .int v1), (2, .int v2)] [] U (some (.int r)) U := by
  intro n
  induction n with
  | zero => intro a ha v1 v2 U r h; cases h
  | succ n ih =>
    intro a ha v1 v2 U r h
    first | rw [f_106_4] at h | (rw [f_106_4.eq_def] at h; dsimp only at h)
    refine g_iload_n 5 rfl rfl rfl ?_
    refine g_aload_n 6 rfl rfl rfl ?_
    refine g_get 9 rfl ha (Nat.le_of_ble_eq_true rfl) rfl rfl ?_
    refine g_icmp_ge 29 12 rfl rfl (fun c1 => ?_) (fun c1 => ?_)
    · rw [if_pos c1] at h
      refine g_iload_n 30 rfl rfl rfl ?_
      cases h
      exact g_iret rfl rfl
    · rw [if_neg c1] at h
      refine g_iload_n 13 rfl rfl rfl ?_
      refine g_aload_n 14 rfl rfl rfl ?_
      refine g_get 17 rfl ha (Nat.le_of_ble_eq_true rfl) rfl rfl ?_
      refine g_iload_n 18 rfl rfl rfl ?_
      refine g_callV (J := sm_I9) 21 rfl (Nat.le_of_ble_eq_true rfl) rfl rfl (Nat.le_of_ble_eq_true rfl) (sh_8_3 ha) (Nat.le_of_ble_eq_true rfl) (Nat.le_of_ble_eq_true rfl) rfl rfl (U_9 d (a + 3) (sh_8_3 ha) v2 U) ?_
      refine g_iadd 22 rfl rfl ?_
      refine g_istore_n 23 [(1, .int (v1 + (iget (a + 3) v2 U))), (0, .ref a), (2, .int v2)] rfl (Nat.le_of_ble_eq_true rfl) rfl rfl ?_
      refine g_iinc (v := v2 + 1) 26 [(2, .int (v2 + 1)), (1, .int (v1 + (iget (a + 3) v2 U))), (0, .ref a)] rfl rfl (Nat.le_of_ble_eq_true rfl) rfl rfl rfl ?_
      refine g_goto 4 rfl ?_
      exact g_sub (Sc rfl (Sc rfl (Sc rfl (Sn _)))) (ih a ha (v1 + (iget (a + 3) v2 U)) (v2 + 1) _ _ h)
def f_106 (a : Nat) (U : sU) : Option Int32 :=
  f_106_4 FU a 0 0 U
set_option maxRecDepth 10000 in
set_option maxHeartbeats 2000000 in
theorem F_106 (d : Nat) (a : Nat) (ha : sh a = 8) {U : sU} {r : Int32} (h : f_106 a U = some r) : Rn (d + 1) sm_I106 [.ref a] U (some (.int r)) U := by
  refine Rn_of [(0, .ref a)] (Nat.le_of_ble_eq_true rfl) (Sc rfl (Sn _)) ?_
  first | rw [f_106] at h | rw [f_106.eq_def] at h
  refine g_iconst (v := 0) 1 rfl rfl rfl ?_
  refine g_istore_n 2 [(1, .int 0), (0, .ref a)] rfl (Nat.le_of_ble_eq_true rfl) rfl rfl ?_
  refine g_iconst (v := 0) 3 rfl rfl rfl ?_
  refine g_istore_n 4 [(2, .int 0), (1, .int 0), (0, .ref a)] rfl (Nat.le_of_ble_eq_true rfl) rfl rfl ?_
  exact g_sub (Sc rfl (Sc rfl (Sc rfl (Sn _)))) (F_106_4 d _ a ha 0 0 _ _ h)

def f_63_13 : Nat → Nat → Int32 → Int64 → Int32 → sU → Option (Int64 × sU)
  | 0, _, _, _, _, _ => none
  | n + 1, a, v2, v3, v5, U =>
    if v2 ≤ v5 then
      some (v3, U)
    else
      Option.bind (f_106 (tk U a) U) fun q2 =>
      Option.bind (f_64 a q2 U) fun q3 =>
      Option.bind (f_65 a q3.1 q3.2) fun q4 =>
      Option.bind (f_66 a (iget (a + 1) q4 q3.2) q3.2) fun q5 =>
      f_63_13 n a v2 (v3 + (f_52 a q4 q5.1 ((q5.2).1 a 7) q5.2)) (v5 + 1) q5.2
set_option maxRecDepth 10000 in
set_option maxHeartbeats 2000000 in
theorem F_63_13 (d : Nat)   : ∀ (n : Nat) (a : Nat) (ha : sh a = 4) (v2 : Int32) (v3 : Int64) (v5 : Int32) (U : sU) (r : Int64) (U' : sU), f_63_13 n a v2 v3 v5 U = some (r, U') → G (d + 2) sm_I63 13 [(0, .ref a), (2, .int v2), (3, .long v3), (5, .int v5)] [] U (some (.long r)) U' := by
  intro n
  induction n with
  | zero => intro a ha v2 v3 v5 U r U' h; cases h
  | succ n ih =>
    intro a ha v2 v3 v5 U r U' h
    first | rw [f_63_13] at h | (rw [f_63_13.eq_def] at h; dsimp only at h)
    refine g_iload 15 rfl rfl rfl ?_
    refine g_iload_n 16 rfl rfl rfl ?_
    refine g_icmp_ge 68 19 rfl rfl (fun c1 => ?_) (fun c1 => ?_)
    · rw [if_pos c1] at h
      refine g_lload_n 69 rfl rfl rfl ?_
      cases h
      exact g_lret rfl rfl
    · rw [if_neg c1] at h
      refine g_aload_n 20 rfl rfl rfl ?_
      refine g_aload_n 21 rfl rfl rfl ?_
      refine g_aload_n 22 rfl rfl rfl ?_
      refine g_get 25 rfl ha (Nat.le_of_ble_eq_true rfl) rfl rfl ?_
      obtain ⟨q2, hq2, h⟩ := Option.bind_eq_some_iff.mp h
      refine g_callV (J := sm_I106) 28 rfl (Nat.le_of_ble_eq_true rfl) rfl rfl (Nat.le_of_ble_eq_true rfl) (tk_sh U a) (Nat.le_of_ble_eq_true rfl) (Nat.le_of_ble_eq_true rfl) rfl rfl (F_106 d (tk U a) (tk_sh U a) hq2) ?_
      obtain ⟨q3, hq3, h⟩ := Option.bind_eq_some_iff.mp h
      refine g_callV (J := sm_I64) 31 rfl (Nat.le_of_ble_eq_true rfl) rfl rfl (Nat.le_of_ble_eq_true rfl) ha (Nat.le_of_ble_eq_true rfl) (Nat.le_of_ble_eq_true rfl) rfl rfl (F_64 (d + 1) a ha q2 hq3) ?_
      obtain ⟨q4, hq4, h⟩ := Option.bind_eq_some_iff.mp h
      refine g_callV (J := sm_I65) 34 rfl (Nat.le_of_ble_eq_true rfl) rfl rfl (Nat.le_of_ble_eq_true rfl) ha (Nat.le_of_ble_eq_true rfl) (Nat.le_of_ble_eq_true rfl) rfl rfl (F_65 d a ha q3.1 hq4) ?_
      refine g_istore 36 [(6, .int q4), (0, .ref a), (2, .int v2), (3, .long v3), (5, .int v5)] rfl (Nat.le_of_ble_eq_true rfl) rfl rfl ?_
      refine g_lload_n 37 rfl rfl rfl ?_
      refine g_aload_n 38 rfl rfl rfl ?_
      refine g_iload 40 rfl rfl rfl ?_
      refine g_aload_n 41 rfl rfl rfl ?_
      refine g_aload_n 42 rfl rfl rfl ?_
      refine g_get 45 rfl ha (Nat.le_of_ble_eq_true rfl) rfl rfl ?_
      refine g_iload 47 rfl rfl rfl ?_
      refine g_callV (J := sm_I9) 50 rfl (Nat.le_of_ble_eq_true rfl) rfl rfl (Nat.le_of_ble_eq_true rfl) (sh_4_1 ha) (Nat.le_of_ble_eq_true rfl) (Nat.le_of_ble_eq_true rfl) rfl rfl (U_9 (d + 1) (a + 1) (sh_4_1 ha) q4 q3.2) ?_
      obtain ⟨q5, hq5, h⟩ := Option.bind_eq_some_iff.mp h
      refine g_callV (J := sm_I66) 53 rfl (Nat.le_of_ble_eq_true rfl) rfl rfl (Nat.le_of_ble_eq_true rfl) ha (Nat.le_of_ble_eq_true rfl) (Nat.le_of_ble_eq_true rfl) rfl rfl (F_66 d a ha (iget (a + 1) q4 q3.2) hq5) ?_
      refine g_aload_n 54 rfl rfl rfl ?_
      refine g_get 57 rfl ha (Nat.le_of_ble_eq_true rfl) rfl rfl ?_
      refine g_callV (J := sm_I52) 60 rfl (Nat.le_of_ble_eq_true rfl) rfl rfl (Nat.le_of_ble_eq_true rfl) ha (Nat.le_of_ble_eq_true rfl) (Nat.le_of_ble_eq_true rfl) rfl rfl (F_52 d a ha q4 q5.1 ((q5.2).1 a 7) q5.2) ?_
      refine g_ladd 61 rfl rfl ?_
      refine g_lstore_n 62 [(3, .long (v3 + (f_52 a q4 q5.1 ((q5.2).1 a 7) q5.2))), (6, .int q4), (0, .ref a), (2, .int v2), (5, .int v5)] rfl (Nat.le_of_ble_eq_true rfl) rfl rfl ?_
      refine g_iinc (v := v5 + 1) 65 [(5, .int (v5 + 1)), (3, .long (v3 + (f_52 a q4 q5.1 ((q5.2).1 a 7) q5.2))), (6, .int q4), (0, .ref a), (2, .int v2)] rfl rfl (Nat.le_of_ble_eq_true rfl) rfl rfl rfl ?_
      refine g_goto 13 rfl ?_
      exact g_sub (Sc rfl (Sc rfl (Sc rfl (Sc rfl (Sn _))))) (ih a ha v2 (v3 + (f_52 a q4 q5.1 ((q5.2).1 a 7) q5.2)) (v5 + 1) _ _ _ h)
def f_63 (a : Nat) (x1 : Int32) (x2 : Int32) (U : sU) : Option (Int64 × sU) :=
  f_63_13 FU a x2 0 0 (sI U a 14 (x1 &&& 2147483647))
set_option maxRecDepth 10000 in
set_option maxHeartbeats 2000000 in
theorem F_63 (d : Nat) (a : Nat) (ha : sh a = 4) (x1 : Int32) (x2 : Int32) {U : sU} {r : Int64} {U' : sU} (h : f_63 a x1 x2 U = some (r, U')) : Rn (d + 2) sm_I63 [.ref a, .int x1, .int x2] U (some (.long r)) U' := by
  refine Rn_of [(0, .ref a), (1, .int x1), (2, .int x2)] (Nat.le_of_ble_eq_true rfl) (Sc rfl (Sc rfl (Sc rfl (Sn _)))) ?_
  first | rw [f_63] at h | rw [f_63.eq_def] at h
  refine g_aload_n 1 rfl rfl rfl ?_
  refine g_iload_n 2 rfl rfl rfl ?_
  refine g_ldc (v := 2147483647) 4 rfl (by decide) rfl ?_
  refine g_iand 5 rfl rfl ?_
  refine g_putI 8 rfl ha (Nat.le_of_ble_eq_true rfl) (Nat.le_of_ble_eq_true rfl) rfl fs_4_14 rfl ?_
  refine g_lconst (v := 0) 9 rfl rfl rfl ?_
  refine g_lstore_n 10 [(3, .long 0), (0, .ref a), (1, .int x1), (2, .int x2)] rfl (Nat.le_of_ble_eq_true rfl) rfl rfl ?_
  refine g_iconst (v := 0) 11 rfl rfl rfl ?_
  refine g_istore 13 [(5, .int 0), (3, .long 0), (0, .ref a), (1, .int x1), (2, .int x2)] rfl (Nat.le_of_ble_eq_true rfl) rfl rfl ?_
  exact g_sub (Sc rfl (Sc rfl (Sc rfl (Sc rfl (Sn _))))) (F_63_13 d _ a ha x2 0 0 _ _ _ h)

def f_68 (a : Nat) (x1 : Int32) (U : sU) : Option (Int32 × sU) :=
  Option.bind (f_39 (a + 1) x1 U) fun q1 =>
  Option.bind (f_41 (a + 1) q1) fun q2 =>
  Option.bind (f_57 (a + 1) q2) fun q3 =>
  if q3 = ((-1)) then
    some (1, q2)
  else
    some (0, q2)
set_option maxRecDepth 10000 in
set_option maxHeartbeats 2000000 in
theorem F_68 (d : Nat) (a : Nat) (ha : sh a = 5) (x1 : Int32) {U : sU} {r : Int32} {U' : sU} (h : f_68 a x1 U = some (r, U')) : Rn (d + 4) sm_I68 [.ref a, .int x1] U (some (.int r)) U' := by
  refine Rn_of [(0, .ref a), (1, .int x1)] (Nat.le_of_ble_eq_true rfl) (Sc rfl (Sc rfl (Sn _))) ?_
  first | rw [f_68] at h | rw [f_68.eq_def] at h
  refine g_aload_n 1 rfl rfl rfl ?_
  refine g_get 4 rfl ha (Nat.le_of_ble_eq_true rfl) rfl rfl ?_
  refine g_iload_n 5 rfl rfl rfl ?_
  obtain ⟨q1, hq1, h⟩ := Option.bind_eq_some_iff.mp h
  refine g_callV (J := sm_I39) 8 rfl (Nat.le_of_ble_eq_true rfl) rfl rfl (Nat.le_of_ble_eq_true rfl) (sh_5_1 ha) (Nat.le_of_ble_eq_true rfl) (Nat.le_of_ble_eq_true rfl) rfl rfl (F_39 (d + 1) (a + 1) (sh_5_1 ha) x1 hq1) ?_
  refine g_aload_n 9 rfl rfl rfl ?_
  refine g_get 12 rfl ha (Nat.le_of_ble_eq_true rfl) rfl rfl ?_
  obtain ⟨q2, hq2, h⟩ := Option.bind_eq_some_iff.mp h
  refine g_callV (J := sm_I41) 15 rfl (Nat.le_of_ble_eq_true rfl) rfl rfl (Nat.le_of_ble_eq_true rfl) (sh_5_1 ha) (Nat.le_of_ble_eq_true rfl) (Nat.le_of_ble_eq_true rfl) rfl rfl (F_41 d (a + 1) (sh_5_1 ha) hq2) ?_
  refine g_aload_n 16 rfl rfl rfl ?_
  refine g_get 19 rfl ha (Nat.le_of_ble_eq_true rfl) rfl rfl ?_
  obtain ⟨q3, hq3, h⟩ := Option.bind_eq_some_iff.mp h
  refine g_callV (J := sm_I57) 22 rfl (Nat.le_of_ble_eq_true rfl) rfl rfl (Nat.le_of_ble_eq_true rfl) (sh_5_1 ha) (Nat.le_of_ble_eq_true rfl) (Nat.le_of_ble_eq_true rfl) rfl rfl (F_57 d (a + 1) (sh_5_1 ha) hq3) ?_
  refine g_iconst (v := (-1)) 23 rfl rfl rfl ?_
  refine g_icmp_ne 30 26 rfl rfl (fun c4 => ?_) (fun c4 => ?_)
  · rw [if_neg c4] at h
    refine g_iconst (v := 0) 31 rfl rfl rfl ?_
    cases h
    exact g_zret rfl rfl (Or.inl rfl)
  · rw [if_pos c4] at h
    refine g_iconst (v := 1) 27 rfl rfl rfl ?_
    refine g_goto 31 rfl ?_
    cases h
    exact g_zret rfl rfl (Or.inr rfl)

def f_103 (a : Nat) (U : sU) : Int32 :=
  if (U.1 a 2) ≤ 0 then
    1
  else
    1 <<< (((U.1 a 2) - 1) &&& 31)
set_option maxRecDepth 10000 in
set_option maxHeartbeats 2000000 in
theorem F_103 (d : Nat) (a : Nat) (ha : sh a = 8) (U : sU) : Rn (d + 0) sm_I103 [.ref a] U (some (.int (f_103 a U))) U := by
  refine Rn_of [(0, .ref a)] (Nat.le_of_ble_eq_true rfl) (Sc rfl (Sn _)) ?_
  generalize h : f_103 a U = r
  first | rw [f_103] at h | rw [f_103.eq_def] at h
  refine g_aload_n 1 rfl rfl rfl ?_
  refine g_get 4 rfl ha (Nat.le_of_ble_eq_true rfl) rfl rfl ?_
  refine g_if_le 18 7 rfl rfl (fun c1 => ?_) (fun c1 => ?_)
  · rw [if_pos c1] at h
    refine g_iconst (v := 1) 19 rfl rfl rfl ?_
    subst h
    exact g_iret rfl rfl
  · rw [if_neg c1] at h
    refine g_iconst (v := 1) 8 rfl rfl rfl ?_
    refine g_aload_n 9 rfl rfl rfl ?_
    refine g_get 12 rfl ha (Nat.le_of_ble_eq_true rfl) rfl rfl ?_
    refine g_iconst (v := 1) 13 rfl rfl rfl ?_
    refine g_isub 14 rfl rfl ?_
    refine g_ishl 15 rfl rfl ?_
    refine g_goto 19 rfl ?_
    subst h
    exact g_iret rfl rfl

def f_104 (a : Nat) (x1 : Int32) (U : sU) : Int32 :=
  if (U.1 a 5) ≤ (f_282 x1 U) then
    0
  else
    1
set_option maxRecDepth 10000 in
set_option maxHeartbeats 2000000 in
theorem F_104 (d : Nat) (a : Nat) (ha : sh a = 8) (x1 : Int32) (U : sU) : Rn (d + 1) sm_I104 [.ref a, .int x1] U (some (.int (f_104 a x1 U))) U := by
  refine Rn_of [(0, .ref a), (1, .int x1)] (Nat.le_of_ble_eq_true rfl) (Sc rfl (Sc rfl (Sn _))) ?_
  generalize h : f_104 a x1 U = r
  first | rw [f_104] at h | rw [f_104.eq_def] at h
  refine g_iload_n 1 rfl rfl rfl ?_
  refine g_callS (J := sm_I282) 4 rfl (by decide) rfl rfl (Nat.le_of_ble_eq_true rfl) (Nat.le_of_ble_eq_true rfl) rfl rfl (F_282 d x1 U) ?_
  refine g_aload_n 5 rfl rfl rfl ?_
  refine g_get 8 rfl ha (Nat.le_of_ble_eq_true rfl) rfl rfl ?_
  refine g_icmp_ge 15 11 rfl rfl (fun c1 => ?_) (fun c1 => ?_)
  · rw [if_pos c1] at h
    refine g_iconst (v := 0) 16 rfl rfl rfl ?_
    subst h
    exact g_zret rfl rfl (Or.inl rfl)
  · rw [if_neg c1] at h
    refine g_iconst (v := 1) 12 rfl rfl rfl ?_
    refine g_goto 16 rfl ?_
    subst h
    exact g_zret rfl rfl (Or.inr rfl)

def f_69_20 : Nat → Nat → Nat → Int32 → Int32 → sU → Option (Int32 × sU)
  | 0, _, _, _, _, _ => none
  | n + 1, a, v1, v2, v3, U =>
    if (f_103 v1 U) ≤ v3 then
      some (v2, U)
    else
      if (f_104 v1 v3 U) = 0 then
        f_69_20 n a v1 (v2 + 0) (v3 + 1) U
      else
        Option.bind (f_68 a v3 U) fun q4 =>
        if q4.1 = 0 then
          f_69_20 n a v1 (v2 + 0) (v3 + 1) q4.2
        else
          f_69_20 n a v1 (v2 + 1) (v3 + 1) q4.2
set_option maxRecDepth 10000 in
set_option maxHeartbeats 2000000 in
theorem F_69_20 (d : Nat)   : ∀ (n : Nat) (a : Nat) (ha : sh a = 5) (v1 : Nat) (hv1 : sh v1 = 8) (v2 : Int32) (v3 : Int32) (U : sU) (r : Int32) (U' : sU), f_69_20 n a v1 v2 v3 U = some (r, U') → G (d + 5) sm_I69 20 [(0, .ref a), (1, .ref v1), (2, .int v2), (3, .int v3)] [] U (some (.int r)) U' := by
  intro n
  induction n with
  | zero => intro a ha v1 hv1 v2 v3 U r U' h; cases h
  | succ n ih =>
    intro a ha v1 hv1 v2 v3 U r U' h
    first | rw [f_69_20] at h | (rw [f_69_20.eq_def] at h; dsimp only at h)
    refine g_iload_n 21 rfl rfl rfl ?_
    refine g_aload_n 22 rfl rfl rfl ?_
    refine g_callV (J := sm_I103) 25 rfl (Nat.le_of_ble_eq_true rfl) rfl rfl (Nat.le_of_ble_eq_true rfl) hv1 (Nat.le_of_ble_eq_true rfl) (Nat.le_of_ble_eq_true rfl) rfl rfl (F_103 (d + 4) v1 hv1 U) ?_
    refine g_icmp_ge 58 28 rfl rfl (fun c1 => ?_) (fun c1 => ?_)
    · rw [if_pos c1] at h
      refine g_iload_n 59 rfl rfl rfl ?_
      cases h
      exact g_iret rfl rfl
    · rw [if_neg c1] at h
      refine g_iload_n 29 rfl rfl rfl ?_
      refine g_aload_n 30 rfl rfl rfl ?_
      refine g_iload_n 31 rfl rfl rfl ?_
      have r2 := F_104 (d + 3) v1 hv1 v3 U
      refine g_callV (J := sm_I104) 34 rfl (Nat.le_of_ble_eq_true rfl) rfl rfl (Nat.le_of_ble_eq_true rfl) hv1 (Nat.le_of_ble_eq_true rfl) (Nat.le_of_ble_eq_true rfl) rfl rfl r2 ?_
      refine g_if_eq 49 37 rfl rfl (fun c3 => ?_) (fun c3 => ?_)
      · rw [if_pos c3] at h
        refine g_iconst (v := 0) 50 rfl rfl rfl ?_
        refine g_iadd 51 rfl rfl ?_
        refine g_istore_n 52 [(2, .int (v2 + 0)), (0, .ref a), (1, .ref v1), (3, .int v3)] rfl (Nat.le_of_ble_eq_true rfl) rfl rfl ?_
        refine g_iinc (v := v3 + 1) 55 [(3, .int (v3 + 1)), (2, .int (v2 + 0)), (0, .ref a), (1, .ref v1)] rfl rfl (Nat.le_of_ble_eq_true rfl) rfl rfl rfl ?_
        refine g_goto 20 rfl ?_
        exact g_sub (Sc rfl (Sc rfl (Sc rfl (Sc rfl (Sn _))))) (ih a ha v1 hv1 (v2 + 0) (v3 + 1) _ _ _ h)
      · rw [if_neg c3] at h
        refine g_aload_n 38 rfl rfl rfl ?_
        refine g_iload_n 39 rfl rfl rfl ?_
        obtain ⟨q4, hq4, h⟩ := Option.bind_eq_some_iff.mp h
        have r5 := (F_68 d a ha v3 hq4)
        refine g_callV (J := sm_I68) 42 rfl (Nat.le_of_ble_eq_true rfl) rfl rfl (Nat.le_of_ble_eq_true rfl) ha (Nat.le_of_ble_eq_true rfl) (Nat.le_of_ble_eq_true rfl) rfl rfl r5 ?_
        refine g_if_eq 49 45 rfl rfl (fun c6 => ?_) (fun c6 => ?_)
        · rw [if_pos c6] at h
          refine g_iconst (v := 0) 50 rfl rfl rfl ?_
          refine g_iadd 51 rfl rfl ?_
          refine g_istore_n 52 [(2, .int (v2 + 0)), (0, .ref a), (1, .ref v1), (3, .int v3)] rfl (Nat.le_of_ble_eq_true rfl) rfl rfl ?_
          refine g_iinc (v := v3 + 1) 55 [(3, .int (v3 + 1)), (2, .int (v2 + 0)), (0, .ref a), (1, .ref v1)] rfl rfl (Nat.le_of_ble_eq_true rfl) rfl rfl rfl ?_
          refine g_goto 20 rfl ?_
          exact g_sub (Sc rfl (Sc rfl (Sc rfl (Sc rfl (Sn _))))) (ih a ha v1 hv1 (v2 + 0) (v3 + 1) _ _ _ h)
        · rw [if_neg c6] at h
          refine g_iconst (v := 1) 46 rfl rfl rfl ?_
          refine g_goto 50 rfl ?_
          refine g_iadd 51 rfl rfl ?_
          refine g_istore_n 52 [(2, .int (v2 + 1)), (0, .ref a), (1, .ref v1), (3, .int v3)] rfl (Nat.le_of_ble_eq_true rfl) rfl rfl ?_
          refine g_iinc (v := v3 + 1) 55 [(3, .int (v3 + 1)), (2, .int (v2 + 1)), (0, .ref a), (1, .ref v1)] rfl rfl (Nat.le_of_ble_eq_true rfl) rfl rfl rfl ?_
          refine g_goto 20 rfl ?_
          exact g_sub (Sc rfl (Sc rfl (Sc rfl (Sc rfl (Sn _))))) (ih a ha v1 hv1 (v2 + 1) (v3 + 1) _ _ _ h)
def f_69 (a : Nat) (x1 : Nat) (U : sU) : Option (Int32 × sU) :=
  f_69_20 FU a x1 0 0 (f_35 (a + 1) x1 (U.1 x1 4) (U.1 x1 3) U)
set_option maxRecDepth 10000 in
set_option maxHeartbeats 2000000 in
theorem F_69 (d : Nat) (a : Nat) (ha : sh a = 5) (x1 : Nat) (hx1 : sh x1 = 8) {U : sU} {r : Int32} {U' : sU} (h : f_69 a x1 U = some (r, U')) : Rn (d + 5) sm_I69 [.ref a, .ref x1] U (some (.int r)) U' := by
  refine Rn_of [(0, .ref a), (1, .ref x1)] (Nat.le_of_ble_eq_true rfl) (Sc rfl (Sc rfl (Sn _))) ?_
  first | rw [f_69] at h | rw [f_69.eq_def] at h
  refine g_aload_n 1 rfl rfl rfl ?_
  refine g_get 4 rfl ha (Nat.le_of_ble_eq_true rfl) rfl rfl ?_
  refine g_aload_n 5 rfl rfl rfl ?_
  refine g_aload_n 6 rfl rfl rfl ?_
  refine g_get 9 rfl hx1 (Nat.le_of_ble_eq_true rfl) rfl rfl ?_
  refine g_aload_n 10 rfl rfl rfl ?_
  refine g_get 13 rfl hx1 (Nat.le_of_ble_eq_true rfl) rfl rfl ?_
  refine g_callV (J := sm_I35) 16 rfl (Nat.le_of_ble_eq_true rfl) rfl rfl (Nat.le_of_ble_eq_true rfl) (sh_5_1 ha) (Nat.le_of_ble_eq_true rfl) (Nat.le_of_ble_eq_true rfl) rfl rfl (F_35 (d + 3) (a + 1) (sh_5_1 ha) x1 hx1 (U.1 x1 4) (U.1 x1 3) U) ?_
  refine g_iconst (v := 0) 17 rfl rfl rfl ?_
  refine g_istore_n 18 [(2, .int 0), (0, .ref a), (1, .ref x1)] rfl (Nat.le_of_ble_eq_true rfl) rfl rfl ?_
  refine g_iconst (v := 0) 19 rfl rfl rfl ?_
  refine g_istore_n 20 [(3, .int 0), (2, .int 0), (0, .ref a), (1, .ref x1)] rfl (Nat.le_of_ble_eq_true rfl) rfl rfl ?_
  exact g_sub (Sc rfl (Sc rfl (Sc rfl (Sc rfl (Sn _))))) (F_69_20 d _ a ha x1 hx1 0 0 _ _ _ h)

def f_70_43 (k16 : Nat → Nat → Int32 → Int32 → sU → Option (Int32 × sU)) (a : Nat) (v1 : Nat) (v4 : Int32) (v5 : Int32) (z0 : Int32) (U : sU) : Option (Int32 × sU) :=
  if z0 = 0 then
    k16 a v1 v4 (v5 + 1) U
  else
    if (f_104 v1 v5 U) = 0 then
      k16 a v1 v4 (v5 + 1) U
    else
      Option.bind (f_68 a v5 U) fun q4 =>
      if q4.1 = 0 then
        k16 a v1 v4 (v5 + 1) q4.2
      else
        k16 a v1 v5 (v5 + 1) q4.2
set_option maxRecDepth 10000 in
set_option maxHeartbeats 2000000 in
theorem F_70_43 (d : Nat) {k16 : Nat → Nat → Int32 → Int32 → sU → Option (Int32 × sU)} (hk16 : ∀ (a : Nat) (ha : sh a = 5) (v1 : Nat) (hv1 : sh v1 = 8) (v4 : Int32) (v5 : Int32) (U : sU) (r : Int32) (U' : sU), k16 a v1 v4 v5 U = some (r, U') → G (d + 5) sm_I70 16 [(0, .ref a), (1, .ref v1), (4, .int v4), (5, .int v5)] [] U (some (.int r)) U') (a : Nat) (ha : sh a = 5) (v1 : Nat) (hv1 : sh v1 = 8) (v4 : Int32) (v5 : Int32) (z0 : Int32) {U : sU} {r : Int32} {U' : sU} (h : f_70_43 k16 a v1 v4 v5 z0 U = some (r, U')) : G (d + 5) sm_I70 43 [(0, .ref a), (1, .ref v1), (4, .int v4), (5, .int v5)] [.int z0] U (some (.int r)) U' := by
  first | rw [f_70_43] at h | rw [f_70_43.eq_def] at h
  refine g_istore 45 [(6, .int z0), (0, .ref a), (1, .ref v1), (4, .int v4), (5, .int v5)] rfl (Nat.le_of_ble_eq_true rfl) rfl rfl ?_
  refine g_iload 47 rfl rfl rfl ?_
  refine g_if_eq 72 50 rfl rfl (fun c1 => ?_) (fun c1 => ?_)
  · rw [if_pos c1] at h
    refine g_iinc (v := v5 + 1) 75 [(5, .int (v5 + 1)), (6, .int z0), (0, .ref a), (1, .ref v1), (4, .int v4)] rfl rfl (Nat.le_of_ble_eq_true rfl) rfl rfl rfl ?_
    refine g_goto 16 rfl ?_
    exact g_sub (Sc rfl (Sc rfl (Sc rfl (Sc rfl (Sn _))))) (hk16 a ha v1 hv1 v4 (v5 + 1) _ _ _ h)
  · rw [if_neg c1] at h
    refine g_aload_n 51 rfl rfl rfl ?_
    refine g_iload 53 rfl rfl rfl ?_
    have r2 := F_104 (d + 3) v1 hv1 v5 U
    refine g_callV (J := sm_I104) 56 rfl (Nat.le_of_ble_eq_true rfl) rfl rfl (Nat.le_of_ble_eq_true rfl) hv1 (Nat.le_of_ble_eq_true rfl) (Nat.le_of_ble_eq_true rfl) rfl rfl r2 ?_
    refine g_if_eq 72 59 rfl rfl (fun c3 => ?_) (fun c3 => ?_)
    · rw [if_pos c3] at h
      refine g_iinc (v := v5 + 1) 75 [(5, .int (v5 + 1)), (6, .int z0), (0, .ref a), (1, .ref v1), (4, .int v4)] rfl rfl (Nat.le_of_ble_eq_true rfl) rfl rfl rfl ?_
      refine g_goto 16 rfl ?_
      exact g_sub (Sc rfl (Sc rfl (Sc rfl (Sc rfl (Sn _))))) (hk16 a ha v1 hv1 v4 (v5 + 1) _ _ _ h)
    · rw [if_neg c3] at h
      refine g_aload_n 60 rfl rfl rfl ?_
      refine g_iload 62 rfl rfl rfl ?_
      obtain ⟨q4, hq4, h⟩ := Option.bind_eq_some_iff.mp h
      have r5 := (F_68 d a ha v5 hq4)
      refine g_callV (J := sm_I68) 65 rfl (Nat.le_of_ble_eq_true rfl) rfl rfl (Nat.le_of_ble_eq_true rfl) ha (Nat.le_of_ble_eq_true rfl) (Nat.le_of_ble_eq_true rfl) rfl rfl r5 ?_
      refine g_if_eq 72 68 rfl rfl (fun c6 => ?_) (fun c6 => ?_)
      · rw [if_pos c6] at h
        refine g_iinc (v := v5 + 1) 75 [(5, .int (v5 + 1)), (6, .int z0), (0, .ref a), (1, .ref v1), (4, .int v4)] rfl rfl (Nat.le_of_ble_eq_true rfl) rfl rfl rfl ?_
        refine g_goto 16 rfl ?_
        exact g_sub (Sc rfl (Sc rfl (Sc rfl (Sc rfl (Sn _))))) (hk16 a ha v1 hv1 v4 (v5 + 1) _ _ _ h)
      · rw [if_neg c6] at h
        refine g_iload 70 rfl rfl rfl ?_
        refine g_istore 72 [(4, .int v5), (6, .int z0), (0, .ref a), (1, .ref v1), (5, .int v5)] rfl (Nat.le_of_ble_eq_true rfl) rfl rfl ?_
        refine g_iinc (v := v5 + 1) 75 [(5, .int (v5 + 1)), (4, .int v5), (6, .int z0), (0, .ref a), (1, .ref v1)] rfl rfl (Nat.le_of_ble_eq_true rfl) rfl rfl rfl ?_
        refine g_goto 16 rfl ?_
        exact g_sub (Sc rfl (Sc rfl (Sc rfl (Sc rfl (Sn _))))) (hk16 a ha v1 hv1 v5 (v5 + 1) _ _ _ h)
def f_70_16 : Nat → Nat → Nat → Int32 → Int32 → sU → Option (Int32 × sU)
  | 0, _, _, _, _, _ => none
  | n + 1, a, v1, v4, v5, U =>
    if (f_103 v1 U) ≤ v5 then
      some (v4, U)
    else
      if (f_282 v5 U) ≤ (f_282 v4 U) then
        f_70_43 (fun a v1 v4 v5 U => f_70_16 n a v1 v4 v5 U) a v1 v4 v5 0 U
      else
        f_70_43 (fun a v1 v4 v5 U => f_70_16 n a v1 v4 v5 U) a v1 v4 v5 1 U
set_option maxRecDepth 10000 in
set_option maxHeartbeats 2000000 in
theorem F_70_16 (d : Nat)   : ∀ (n : Nat) (a : Nat) (ha : sh a = 5) (v1 : Nat) (hv1 : sh v1 = 8) (v4 : Int32) (v5 : Int32) (U : sU) (r : Int32) (U' : sU), f_70_16 n a v1 v4 v5 U = some (r, U') → G (d + 5) sm_I70 16 [(0, .ref a), (1, .ref v1), (4, .int v4), (5, .int v5)] [] U (some (.int r)) U' := by
  intro n
  induction n with
  | zero => intro a ha v1 hv1 v4 v5 U r U' h; cases h
  | succ n ih =>
    intro a ha v1 hv1 v4 v5 U r U' h
    first | rw [f_70_16] at h | (rw [f_70_16.eq_def] at h; dsimp only at h)
    refine g_iload 18 rfl rfl rfl ?_
    refine g_aload_n 19 rfl rfl rfl ?_
    refine g_callV (J := sm_I103) 22 rfl (Nat.le_of_ble_eq_true rfl) rfl rfl (Nat.le_of_ble_eq_true rfl) hv1 (Nat.le_of_ble_eq_true rfl) (Nat.le_of_ble_eq_true rfl) rfl rfl (F_103 (d + 4) v1 hv1 U) ?_
    refine g_icmp_ge 78 25 rfl rfl (fun c7 => ?_) (fun c7 => ?_)
    · rw [if_pos c7] at h
      refine g_iload 80 rfl rfl rfl ?_
      cases h
      exact g_iret rfl rfl
    · rw [if_neg c7] at h
      refine g_iload 27 rfl rfl rfl ?_
      refine g_callS (J := sm_I282) 30 rfl (by decide) rfl rfl (Nat.le_of_ble_eq_true rfl) (Nat.le_of_ble_eq_true rfl) rfl rfl (F_282 (d + 4) v5 U) ?_
      refine g_iload 32 rfl rfl rfl ?_
      refine g_callS (J := sm_I282) 35 rfl (by decide) rfl rfl (Nat.le_of_ble_eq_true rfl) (Nat.le_of_ble_eq_true rfl) rfl rfl (F_282 (d + 4) v4 U) ?_
      refine g_icmp_le 42 38 rfl rfl (fun c8 => ?_) (fun c8 => ?_)
      · rw [if_pos c8] at h
        refine g_iconst (v := 0) 43 rfl rfl rfl ?_
        exact g_sub (Sc rfl (Sc rfl (Sc rfl (Sc rfl (Sn _))))) (F_70_43 d (fun a ha v1 hv1 v4 v5 U r U' h => ih a ha v1 hv1 v4 v5 U r U' h) a ha v1 hv1 v4 v5 0 h)
      · rw [if_neg c8] at h
        refine g_iconst (v := 1) 39 rfl rfl rfl ?_
        refine g_goto 43 rfl ?_
        exact g_sub (Sc rfl (Sc rfl (Sc rfl (Sc rfl (Sn _))))) (F_70_43 d (fun a ha v1 hv1 v4 v5 U r U' h => ih a ha v1 hv1 v4 v5 U r U' h) a ha v1 hv1 v4 v5 1 h)
def f_70 (a : Nat) (x1 : Nat) (x2 : Int32) (x3 : Int32) (U : sU) : Option (Int32 × sU) :=
  f_70_16 FU a x1 0 1 (f_35 (a + 1) x1 x2 x3 U)
set_option maxRecDepth 10000 in
set_option maxHeartbeats 2000000 in
theorem F_70 (d : Nat) (a : Nat) (ha : sh a = 5) (x1 : Nat) (hx1 : sh x1 = 8) (x2 : Int32) (x3 : Int32) {U : sU} {r : Int32} {U' : sU} (h : f_70 a x1 x2 x3 U = some (r, U')) : Rn (d + 5) sm_I70 [.ref a, .ref x1, .int x2, .int x3] U (some (.int r)) U' := by
  refine Rn_of [(0, .ref a), (1, .ref x1), (2, .int x2), (3, .int x3)] (Nat.le_of_ble_eq_true rfl) (Sc rfl (Sc rfl (Sc rfl (Sc rfl (Sn _))))) ?_
  first | rw [f_70] at h | rw [f_70.eq_def] at h
  refine g_aload_n 1 rfl rfl rfl ?_
  refine g_get 4 rfl ha (Nat.le_of_ble_eq_true rfl) rfl rfl ?_
  refine g_aload_n 5 rfl rfl rfl ?_
  refine g_iload_n 6 rfl rfl rfl ?_
  refine g_iload_n 7 rfl rfl rfl ?_
  refine g_callV (J := sm_I35) 10 rfl (Nat.le_of_ble_eq_true rfl) rfl rfl (Nat.le_of_ble_eq_true rfl) (sh_5_1 ha) (Nat.le_of_ble_eq_true rfl) (Nat.le_of_ble_eq_true rfl) rfl rfl (F_35 (d + 3) (a + 1) (sh_5_1 ha) x1 hx1 x2 x3 U) ?_
  refine g_iconst (v := 0) 11 rfl rfl rfl ?_
  refine g_istore 13 [(4, .int 0), (0, .ref a), (1, .ref x1), (2, .int x2), (3, .int x3)] rfl (Nat.le_of_ble_eq_true rfl) rfl rfl ?_
  refine g_iconst (v := 1) 14 rfl rfl rfl ?_
  refine g_istore 16 [(5, .int 1), (4, .int 0), (0, .ref a), (1, .ref x1), (2, .int x2), (3, .int x3)] rfl (Nat.le_of_ble_eq_true rfl) rfl rfl ?_
  exact g_sub (Sc rfl (Sc rfl (Sc rfl (Sc rfl (Sn _))))) (F_70_16 d _ a ha x1 hx1 0 1 _ _ _ h)

def f_71 (a : Nat) (x1 : Nat) (x2 : Int32) (x3 : Int32) (U : sU) : Option (Int32 × sU) :=
  Option.bind (f_70 a x1 x2 x3 U) fun q1 =>
  some ((f_282 q1.1 q1.2) + 1, q1.2)
set_option maxRecDepth 10000 in
set_option maxHeartbeats 2000000 in
theorem F_71 (d : Nat) (a : Nat) (ha : sh a = 5) (x1 : Nat) (hx1 : sh x1 = 8) (x2 : Int32) (x3 : Int32) {U : sU} {r : Int32} {U' : sU} (h : f_71 a x1 x2 x3 U = some (r, U')) : Rn (d + 6) sm_I71 [.ref a, .ref x1, .int x2, .int x3] U (some (.int r)) U' := by
  refine Rn_of [(0, .ref a), (1, .ref x1), (2, .int x2), (3, .int x3)] (Nat.le_of_ble_eq_true rfl) (Sc rfl (Sc rfl (Sc rfl (Sc rfl (Sn _))))) ?_
  first | rw [f_71] at h | rw [f_71.eq_def] at h
  refine g_aload_n 1 rfl rfl rfl ?_
  refine g_aload_n 2 rfl rfl rfl ?_
  refine g_iload_n 3 rfl rfl rfl ?_
  refine g_iload_n 4 rfl rfl rfl ?_
  obtain ⟨q1, hq1, h⟩ := Option.bind_eq_some_iff.mp h
  refine g_callV (J := sm_I70) 7 rfl (Nat.le_of_ble_eq_true rfl) rfl rfl (Nat.le_of_ble_eq_true rfl) ha (Nat.le_of_ble_eq_true rfl) (Nat.le_of_ble_eq_true rfl) rfl rfl (F_70 d a ha x1 hx1 x2 x3 hq1) ?_
  refine g_callS (J := sm_I282) 10 rfl (by decide) rfl rfl (Nat.le_of_ble_eq_true rfl) (Nat.le_of_ble_eq_true rfl) rfl rfl (F_282 (d + 5) q1.1 q1.2) ?_
  refine g_iconst (v := 1) 11 rfl rfl rfl ?_
  refine g_iadd 12 rfl rfl ?_
  cases h
  exact g_iret rfl rfl

def f_72_21 : Nat → Nat → Nat → Int32 → Int32 → Int32 → sU → Option (Int32 × sU)
  | 0, _, _, _, _, _, _ => none
  | n + 1, a, v1, v2, v3, v4, U =>
    if (f_103 v1 U) ≤ v4 then
      some (v3, U)
    else
      if (f_104 v1 v4 U) = 0 then
        f_72_21 n a v1 v2 v3 (v4 + 1) U
      else
        Option.bind (f_68 a v4 U) fun q4 =>
        if q4.1 = 0 then
          f_72_21 n a v1 v2 v3 (v4 + 1) q4.2
        else
          Option.bind (f_56 (a + 1) v2 q4.2) fun q7 =>
          if v3 = ((-1)) then
            f_72_21 n a v1 v2 v4 (v4 + 1) (sJ q4.2 a 2 q7)
          else
            if 0 ≤ (lg_cmp q7 (q4.2.2.1 a 2)) then
              f_72_21 n a v1 v2 v3 (v4 + 1) q4.2
            else
              f_72_21 n a v1 v2 v4 (v4 + 1) (sJ q4.2 a 2 q7)
set_option maxRecDepth 10000 in
set_option maxHeartbeats 2000000 in
theorem F_72_21 (d : Nat)   : ∀ (n : Nat) (a : Nat) (ha : sh a = 5) (v1 : Nat) (hv1 : sh v1 = 8) (v2 : Int32) (v3 : Int32) (v4 : Int32) (U : sU) (r : Int32) (U' : sU), f_72_21 n a v1 v2 v3 v4 U = some (r, U') → G (d + 5) sm_I72 21 [(0, .ref a), (1, .ref v1), (2, .int v2), (3, .int v3), (4, .int v4)] [] U (some (.int r)) U' := by
  intro n
  induction n with
  | zero => intro a ha v1 hv1 v2 v3 v4 U r U' h; cases h
  | succ n ih =>
    intro a ha v1 hv1 v2 v3 v4 U r U' h
    first | rw [f_72_21] at h | (rw [f_72_21.eq_def] at h; dsimp only at h)
    refine g_iload 23 rfl rfl rfl ?_
    refine g_aload_n 24 rfl rfl rfl ?_
    refine g_callV (J := sm_I103) 27 rfl (Nat.le_of_ble_eq_true rfl) rfl rfl (Nat.le_of_ble_eq_true rfl) hv1 (Nat.le_of_ble_eq_true rfl) (Nat.le_of_ble_eq_true rfl) rfl rfl (F_103 (d + 4) v1 hv1 U) ?_
    refine g_icmp_ge 88 30 rfl rfl (fun c1 => ?_) (fun c1 => ?_)
    · rw [if_pos c1] at h
      refine g_iload_n 89 rfl rfl rfl ?_
      cases h
      exact g_iret rfl rfl
    · rw [if_neg c1] at h
      refine g_aload_n 31 rfl rfl rfl ?_
      refine g_iload 33 rfl rfl rfl ?_
      have r2 := F_104 (d + 3) v1 hv1 v4 U
      refine g_callV (J := sm_I104) 36 rfl (Nat.le_of_ble_eq_true rfl) rfl rfl (Nat.le_of_ble_eq_true rfl) hv1 (Nat.le_of_ble_eq_true rfl) (Nat.le_of_ble_eq_true rfl) rfl rfl r2 ?_
      refine g_if_eq 82 39 rfl rfl (fun c3 => ?_) (fun c3 => ?_)
      · rw [if_pos c3] at h
        refine g_iinc (v := v4 + 1) 85 [(4, .int (v4 + 1)), (0, .ref a), (1, .ref v1), (2, .int v2), (3, .int v3)] rfl rfl (Nat.le_of_ble_eq_true rfl) rfl rfl rfl ?_
        refine g_goto 21 rfl ?_
        exact g_sub (Sc rfl (Sc rfl (Sc rfl (Sc rfl (Sc rfl (Sn _)))))) (ih a ha v1 hv1 v2 v3 (v4 + 1) _ _ _ h)
      · rw [if_neg c3] at h
        refine g_aload_n 40 rfl rfl rfl ?_
        refine g_iload 42 rfl rfl rfl ?_
        obtain ⟨q4, hq4, h⟩ := Option.bind_eq_some_iff.mp h
        have r5 := (F_68 d a ha v4 hq4)
        refine g_callV (J := sm_I68) 45 rfl (Nat.le_of_ble_eq_true rfl) rfl rfl (Nat.le_of_ble_eq_true rfl) ha (Nat.le_of_ble_eq_true rfl) (Nat.le_of_ble_eq_true rfl) rfl rfl r5 ?_
        refine g_if_eq 82 48 rfl rfl (fun c6 => ?_) (fun c6 => ?_)
        · rw [if_pos c6] at h
          refine g_iinc (v := v4 + 1) 85 [(4, .int (v4 + 1)), (0, .ref a), (1, .ref v1), (2, .int v2), (3, .int v3)] rfl rfl (Nat.le_of_ble_eq_true rfl) rfl rfl rfl ?_
          refine g_goto 21 rfl ?_
          exact g_sub (Sc rfl (Sc rfl (Sc rfl (Sc rfl (Sc rfl (Sn _)))))) (ih a ha v1 hv1 v2 v3 (v4 + 1) _ _ _ h)
        · rw [if_neg c6] at h
          refine g_aload_n 49 rfl rfl rfl ?_
          refine g_get 52 rfl ha (Nat.le_of_ble_eq_true rfl) rfl rfl ?_
          refine g_iload_n 53 rfl rfl rfl ?_
          obtain ⟨q7, hq7, h⟩ := Option.bind_eq_some_iff.mp h
          refine g_callV (J := sm_I56) 56 rfl (Nat.le_of_ble_eq_true rfl) rfl rfl (Nat.le_of_ble_eq_true rfl) (sh_5_1 ha) (Nat.le_of_ble_eq_true rfl) (Nat.le_of_ble_eq_true rfl) rfl rfl (F_56 (d + 1) (a + 1) (sh_5_1 ha) v2 hq7) ?_
          refine g_lstore 58 [(5, .long q7), (0, .ref a), (1, .ref v1), (2, .int v2), (3, .int v3), (4, .int v4)] rfl (Nat.le_of_ble_eq_true rfl) rfl rfl ?_
          refine g_iload_n 59 rfl rfl rfl ?_
          refine g_iconst (v := (-1)) 60 rfl rfl rfl ?_
          refine g_icmp_eq 73 63 rfl rfl (fun c8 => ?_) (fun c8 => ?_)
          · rw [if_pos c8] at h
            refine g_iload 75 rfl rfl rfl ?_
            refine g_istore_n 76 [(3, .int v4), (5, .long q7), (0, .ref a), (1, .ref v1), (2, .int v2), (4, .int v4)] rfl (Nat.le_of_ble_eq_true rfl) rfl rfl ?_
            refine g_aload_n 77 rfl rfl rfl ?_
            refine g_lload 79 rfl rfl rfl ?_
            refine g_putJ 82 rfl ha (Nat.le_of_ble_eq_true rfl) (Nat.le_of_ble_eq_true rfl) rfl fs_5_2 rfl ?_
            refine g_iinc (v := v4 + 1) 85 [(4, .int (v4 + 1)), (3, .int v4), (5, .long q7), (0, .ref a), (1, .ref v1), (2, .int v2)] rfl rfl (Nat.le_of_ble_eq_true rfl) rfl rfl rfl ?_
            refine g_goto 21 rfl ?_
            exact g_sub (Sc rfl (Sc rfl (Sc rfl (Sc rfl (Sc rfl (Sn _)))))) (ih a ha v1 hv1 v2 v4 (v4 + 1) _ _ _ h)
          · rw [if_neg c8] at h
            refine g_lload 65 rfl rfl rfl ?_
            refine g_aload_n 66 rfl rfl rfl ?_
            refine g_get 69 rfl ha (Nat.le_of_ble_eq_true rfl) rfl rfl ?_
            refine g_lcmp 70 rfl rfl ?_
            refine g_if_ge 82 73 rfl rfl (fun c9 => ?_) (fun c9 => ?_)
            · rw [if_pos c9] at h
              refine g_iinc (v := v4 + 1) 85 [(4, .int (v4 + 1)), (5, .long q7), (0, .ref a), (1, .ref v1), (2, .int v2), (3, .int v3)] rfl rfl (Nat.le_of_ble_eq_true rfl) rfl rfl rfl ?_
              refine g_goto 21 rfl ?_
              exact g_sub (Sc rfl (Sc rfl (Sc rfl (Sc rfl (Sc rfl (Sn _)))))) (ih a ha v1 hv1 v2 v3 (v4 + 1) _ _ _ h)
            · rw [if_neg c9] at h
              refine g_iload 75 rfl rfl rfl ?_
              refine g_istore_n 76 [(3, .int v4), (5, .long q7), (0, .ref a), (1, .ref v1), (2, .int v2), (4, .int v4)] rfl (Nat.le_of_ble_eq_true rfl) rfl rfl ?_
              refine g_aload_n 77 rfl rfl rfl ?_
              refine g_lload 79 rfl rfl rfl ?_
              refine g_putJ 82 rfl ha (Nat.le_of_ble_eq_true rfl) (Nat.le_of_ble_eq_true rfl) rfl fs_5_2 rfl ?_
              refine g_iinc (v := v4 + 1) 85 [(4, .int (v4 + 1)), (3, .int v4), (5, .long q7), (0, .ref a), (1, .ref v1), (2, .int v2)] rfl rfl (Nat.le_of_ble_eq_true rfl) rfl rfl rfl ?_
              refine g_goto 21 rfl ?_
              exact g_sub (Sc rfl (Sc rfl (Sc rfl (Sc rfl (Sc rfl (Sn _)))))) (ih a ha v1 hv1 v2 v4 (v4 + 1) _ _ _ h)
def f_72 (a : Nat) (x1 : Nat) (x2 : Int32) (U : sU) : Option (Int32 × sU) :=
  f_72_21 FU a x1 x2 ((-1)) 0 (f_35 (a + 1) x1 (U.1 x1 4) (U.1 x1 3) U)
set_option maxRecDepth 10000 in
set_option maxHeartbeats 2000000 in
theorem F_72 (d : Nat) (a : Nat) (ha : sh a = 5) (x1 : Nat) (hx1 : sh x1 = 8) (x2 : Int32) {U : sU} {r : Int32} {U' : sU} (h : f_72 a x1 x2 U = some (r, U')) : Rn (d + 5) sm_I72 [.ref a, .ref x1, .int x2] U (some (.int r)) U' := by
  refine Rn_of [(0, .ref a), (1, .ref x1), (2, .int x2)] (Nat.le_of_ble_eq_true rfl) (Sc rfl (Sc rfl (Sc rfl (Sn _)))) ?_
  first | rw [f_72] at h | rw [f_72.eq_def] at h
  refine g_aload_n 1 rfl rfl rfl ?_
  refine g_get 4 rfl ha (Nat.le_of_ble_eq_true rfl) rfl rfl ?_
  refine g_aload_n 5 rfl rfl rfl ?_
  refine g_aload_n 6 rfl rfl rfl ?_
  refine g_get 9 rfl hx1 (Nat.le_of_ble_eq_true rfl) rfl rfl ?_
  refine g_aload_n 10 rfl rfl rfl ?_
  refine g_get 13 rfl hx1 (Nat.le_of_ble_eq_true rfl) rfl rfl ?_
  refine g_callV (J := sm_I35) 16 rfl (Nat.le_of_ble_eq_true rfl) rfl rfl (Nat.le_of_ble_eq_true rfl) (sh_5_1 ha) (Nat.le_of_ble_eq_true rfl) (Nat.le_of_ble_eq_true rfl) rfl rfl (F_35 (d + 3) (a + 1) (sh_5_1 ha) x1 hx1 (U.1 x1 4) (U.1 x1 3) U) ?_
  refine g_iconst (v := (-1)) 17 rfl rfl rfl ?_
  refine g_istore_n 18 [(3, .int ((-1))), (0, .ref a), (1, .ref x1), (2, .int x2)] rfl (Nat.le_of_ble_eq_true rfl) rfl rfl ?_
  refine g_iconst (v := 0) 19 rfl rfl rfl ?_
  refine g_istore 21 [(4, .int 0), (3, .int ((-1))), (0, .ref a), (1, .ref x1), (2, .int x2)] rfl (Nat.le_of_ble_eq_true rfl) rfl rfl ?_
  exact g_sub (Sc rfl (Sc rfl (Sc rfl (Sc rfl (Sc rfl (Sn _)))))) (F_72_21 d _ a ha x1 hx1 x2 ((-1)) 0 _ _ _ h)

def f_73_31 : Nat → Nat → Int32 → Int32 → Int32 → sU → Option (Int32 × sU)
  | 0, _, _, _, _, _ => none
  | n + 1, a, v2, v3, v4, U =>
    if v3 = 0 then
      some (v2, U)
    else
      if 203 ≤ v4 then
        some (v2, U)
      else
        Option.bind (f_41 (a + 1) U) fun q3 =>
        Option.bind (f_57 (a + 1) q3) fun q4 =>
        if q4 = ((-1)) then
          Option.bind (f_61 (a + 1) q3) fun q8 =>
          f_73_31 n a (v2 + 1) q8.1 (v4 + 1) q8.2
        else
          Option.bind (f_61 (a + 1) q3) fun q6 =>
          f_73_31 n a (v2 + 0) q6.1 (v4 + 1) q6.2
set_option maxRecDepth 10000 in
set_option maxHeartbeats 2000000 in
theorem F_73_31 (d : Nat)   : ∀ (n : Nat) (a : Nat) (ha : sh a = 5) (v2 : Int32) (v3 : Int32) (v4 : Int32) (U : sU) (r : Int32) (U' : sU), f_73_31 n a v2 v3 v4 U = some (r, U') → G (d + 4) sm_I73 31 [(0, .ref a), (2, .int v2), (3, .int v3), (4, .int v4)] [] U (some (.int r)) U' := by
  intro n
  induction n with
  | zero => intro a ha v2 v3 v4 U r U' h; cases h
  | succ n ih =>
    intro a ha v2 v3 v4 U r U' h
    first | rw [f_73_31] at h | (rw [f_73_31.eq_def] at h; dsimp only at h)
    refine g_iload_n 32 rfl rfl rfl ?_
    refine g_if_eq 83 35 rfl rfl (fun c1 => ?_) (fun c1 => ?_)
    · rw [if_pos c1] at h
      refine g_iload_n 84 rfl rfl rfl ?_
      cases h
      exact g_iret rfl rfl
    · rw [if_neg c1] at h
      refine g_iload 37 rfl rfl rfl ?_
      refine g_sipush (v := 203) 40 rfl (by decide) rfl ?_
      refine g_icmp_ge 83 43 rfl rfl (fun c2 => ?_) (fun c2 => ?_)
      · rw [if_pos c2] at h
        refine g_iload_n 84 rfl rfl rfl ?_
        cases h
        exact g_iret rfl rfl
      · rw [if_neg c2] at h
        refine g_aload_n 44 rfl rfl rfl ?_
        refine g_get 47 rfl ha (Nat.le_of_ble_eq_true rfl) rfl rfl ?_
        obtain ⟨q3, hq3, h⟩ := Option.bind_eq_some_iff.mp h
        refine g_callV (J := sm_I41) 50 rfl (Nat.le_of_ble_eq_true rfl) rfl rfl (Nat.le_of_ble_eq_true rfl) (sh_5_1 ha) (Nat.le_of_ble_eq_true rfl) (Nat.le_of_ble_eq_true rfl) rfl rfl (F_41 d (a + 1) (sh_5_1 ha) hq3) ?_
        refine g_iload_n 51 rfl rfl rfl ?_
        refine g_aload_n 52 rfl rfl rfl ?_
        refine g_get 55 rfl ha (Nat.le_of_ble_eq_true rfl) rfl rfl ?_
        obtain ⟨q4, hq4, h⟩ := Option.bind_eq_some_iff.mp h
        refine g_callV (J := sm_I57) 58 rfl (Nat.le_of_ble_eq_true rfl) rfl rfl (Nat.le_of_ble_eq_true rfl) (sh_5_1 ha) (Nat.le_of_ble_eq_true rfl) (Nat.le_of_ble_eq_true rfl) rfl rfl (F_57 d (a + 1) (sh_5_1 ha) hq4) ?_
        refine g_iconst (v := (-1)) 59 rfl rfl rfl ?_
        refine g_icmp_ne 66 62 rfl rfl (fun c5 => ?_) (fun c5 => ?_)
        · rw [if_neg c5] at h
          refine g_iconst (v := 0) 67 rfl rfl rfl ?_
          refine g_iadd 68 rfl rfl ?_
          refine g_istore_n 69 [(2, .int (v2 + 0)), (0, .ref a), (3, .int v3), (4, .int v4)] rfl (Nat.le_of_ble_eq_true rfl) rfl rfl ?_
          refine g_aload_n 70 rfl rfl rfl ?_
          refine g_get 73 rfl ha (Nat.le_of_ble_eq_true rfl) rfl rfl ?_
          obtain ⟨q6, hq6, h⟩ := Option.bind_eq_some_iff.mp h
          have r7 := (F_61 d (a + 1) (sh_5_1 ha) hq6)
          refine g_callV (J := sm_I61) 76 rfl (Nat.le_of_ble_eq_true rfl) rfl rfl (Nat.le_of_ble_eq_true rfl) (sh_5_1 ha) (Nat.le_of_ble_eq_true rfl) (Nat.le_of_ble_eq_true rfl) rfl rfl r7 ?_
          refine g_istore_n 77 [(3, .int q6.1), (2, .int (v2 + 0)), (0, .ref a), (4, .int v4)] rfl (Nat.le_of_ble_eq_true rfl) rfl rfl ?_
          refine g_iinc (v := v4 + 1) 80 [(4, .int (v4 + 1)), (3, .int q6.1), (2, .int (v2 + 0)), (0, .ref a)] rfl rfl (Nat.le_of_ble_eq_true rfl) rfl rfl rfl ?_
          refine g_goto 31 rfl ?_
          exact g_sub (Sc rfl (Sc rfl (Sc rfl (Sc rfl (Sn _))))) (ih a ha (v2 + 0) q6.1 (v4 + 1) _ _ _ h)
        · rw [if_pos c5] at h
          refine g_iconst (v := 1) 63 rfl rfl rfl ?_
          refine g_goto 67 rfl ?_
          refine g_iadd 68 rfl rfl ?_
          refine g_istore_n 69 [(2, .int (v2 + 1)), (0, .ref a), (3, .int v3), (4, .int v4)] rfl (Nat.le_of_ble_eq_true rfl) rfl rfl ?_
          refine g_aload_n 70 rfl rfl rfl ?_
          refine g_get 73 rfl ha (Nat.le_of_ble_eq_true rfl) rfl rfl ?_
          obtain ⟨q8, hq8, h⟩ := Option.bind_eq_some_iff.mp h
          have r9 := (F_61 d (a + 1) (sh_5_1 ha) hq8)
          refine g_callV (J := sm_I61) 76 rfl (Nat.le_of_ble_eq_true rfl) rfl rfl (Nat.le_of_ble_eq_true rfl) (sh_5_1 ha) (Nat.le_of_ble_eq_true rfl) (Nat.le_of_ble_eq_true rfl) rfl rfl r9 ?_
          refine g_istore_n 77 [(3, .int q8.1), (2, .int (v2 + 1)), (0, .ref a), (4, .int v4)] rfl (Nat.le_of_ble_eq_true rfl) rfl rfl ?_
          refine g_iinc (v := v4 + 1) 80 [(4, .int (v4 + 1)), (3, .int q8.1), (2, .int (v2 + 1)), (0, .ref a)] rfl rfl (Nat.le_of_ble_eq_true rfl) rfl rfl rfl ?_
          refine g_goto 31 rfl ?_
          exact g_sub (Sc rfl (Sc rfl (Sc rfl (Sc rfl (Sn _))))) (ih a ha (v2 + 1) q8.1 (v4 + 1) _ _ _ h)
def f_73 (a : Nat) (x1 : Nat) (U : sU) : Option (Int32 × sU) :=
  Option.bind (f_39 (a + 1) 0 (f_35 (a + 1) x1 (U.1 x1 4) (U.1 x1 3) U)) fun q10 =>
  f_73_31 FU a 0 1 0 q10
set_option maxRecDepth 10000 in
set_option maxHeartbeats 2000000 in
theorem F_73 (d : Nat) (a : Nat) (ha : sh a = 5) (x1 : Nat) (hx1 : sh x1 = 8) {U : sU} {r : Int32} {U' : sU} (h : f_73 a x1 U = some (r, U')) : Rn (d + 4) sm_I73 [.ref a, .ref x1] U (some (.int r)) U' := by
  refine Rn_of [(0, .ref a), (1, .ref x1)] (Nat.le_of_ble_eq_true rfl) (Sc rfl (Sc rfl (Sn _))) ?_
  first | rw [f_73] at h | rw [f_73.eq_def] at h
  refine g_aload_n 1 rfl rfl rfl ?_
  refine g_get 4 rfl ha (Nat.le_of_ble_eq_true rfl) rfl rfl ?_
  refine g_aload_n 5 rfl rfl rfl ?_
  refine g_aload_n 6 rfl rfl rfl ?_
  refine g_get 9 rfl hx1 (Nat.le_of_ble_eq_true rfl) rfl rfl ?_
  refine g_aload_n 10 rfl rfl rfl ?_
  refine g_get 13 rfl hx1 (Nat.le_of_ble_eq_true rfl) rfl rfl ?_
  refine g_callV (J := sm_I35) 16 rfl (Nat.le_of_ble_eq_true rfl) rfl rfl (Nat.le_of_ble_eq_true rfl) (sh_5_1 ha) (Nat.le_of_ble_eq_true rfl) (Nat.le_of_ble_eq_true rfl) rfl rfl (F_35 (d + 2) (a + 1) (sh_5_1 ha) x1 hx1 (U.1 x1 4) (U.1 x1 3) U) ?_
  refine g_aload_n 17 rfl rfl rfl ?_
  refine g_get 20 rfl ha (Nat.le_of_ble_eq_true rfl) rfl rfl ?_
  refine g_iconst (v := 0) 21 rfl rfl rfl ?_
  obtain ⟨q10, hq10, h⟩ := Option.bind_eq_some_iff.mp h
  refine g_callV (J := sm_I39) 24 rfl (Nat.le_of_ble_eq_true rfl) rfl rfl (Nat.le_of_ble_eq_true rfl) (sh_5_1 ha) (Nat.le_of_ble_eq_true rfl) (Nat.le_of_ble_eq_true rfl) rfl rfl (F_39 (d + 1) (a + 1) (sh_5_1 ha) 0 hq10) ?_
  refine g_iconst (v := 0) 25 rfl rfl rfl ?_
  refine g_istore_n 26 [(2, .int 0), (0, .ref a), (1, .ref x1)] rfl (Nat.le_of_ble_eq_true rfl) rfl rfl ?_
  refine g_iconst (v := 1) 27 rfl rfl rfl ?_
  refine g_istore_n 28 [(3, .int 1), (2, .int 0), (0, .ref a), (1, .ref x1)] rfl (Nat.le_of_ble_eq_true rfl) rfl rfl ?_
  refine g_iconst (v := 0) 29 rfl rfl rfl ?_
  refine g_istore 31 [(4, .int 0), (3, .int 1), (2, .int 0), (0, .ref a), (1, .ref x1)] rfl (Nat.le_of_ble_eq_true rfl) rfl rfl ?_
  exact g_sub (Sc rfl (Sc rfl (Sc rfl (Sc rfl (Sn _))))) (F_73_31 d _ a ha 0 1 0 _ _ _ h)

def f_74 (x0 : Nat) (x1 : Int32) (x2 : Int32) (U : sU) : Int32 :=
  if ((f_282 x1 U) + 1) = x2 then
    if (f_104 x0 x1 U) = 0 then
      0
    else
      1
  else
    0
set_option maxRecDepth 10000 in
set_option maxHeartbeats 2000000 in
theorem F_74 (d : Nat) (x0 : Nat) (hx0 : sh x0 = 8) (x1 : Int32) (x2 : Int32) (U : sU) : Rn (d + 2) sm_I74 [.ref x0, .int x1, .int x2] U (some (.int (f_74 x0 x1 x2 U))) U := by
  refine Rn_of [(0, .ref x0), (1, .int x1), (2, .int x2)] (Nat.le_of_ble_eq_true rfl) (Sc rfl (Sc rfl (Sc rfl (Sn _)))) ?_
  generalize h : f_74 x0 x1 x2 U = r
  first | rw [f_74] at h | rw [f_74.eq_def] at h
  refine g_iload_n 1 rfl rfl rfl ?_
  refine g_callS (J := sm_I282) 4 rfl (by decide) rfl rfl (Nat.le_of_ble_eq_true rfl) (Nat.le_of_ble_eq_true rfl) rfl rfl (F_282 (d + 1) x1 U) ?_
  refine g_iconst (v := 1) 5 rfl rfl rfl ?_
  refine g_iadd 6 rfl rfl ?_
  refine g_iload_n 7 rfl rfl rfl ?_
  refine g_icmp_ne 22 10 rfl rfl (fun c1 => ?_) (fun c1 => ?_)
  · rw [if_neg c1] at h
    refine g_iconst (v := 0) 23 rfl rfl rfl ?_
    subst h
    exact g_zret rfl rfl (Or.inl rfl)
  · rw [if_pos c1] at h
    refine g_aload_n 11 rfl rfl rfl ?_
    refine g_iload_n 12 rfl rfl rfl ?_
    have r2 := F_104 d x0 hx0 x1 U
    refine g_callV (J := sm_I104) 15 rfl (Nat.le_of_ble_eq_true rfl) rfl rfl (Nat.le_of_ble_eq_true rfl) hx0 (Nat.le_of_ble_eq_true rfl) (Nat.le_of_ble_eq_true rfl) rfl rfl r2 ?_
    refine g_if_eq 22 18 rfl rfl (fun c3 => ?_) (fun c3 => ?_)
    · rw [if_pos c3] at h
      refine g_iconst (v := 0) 23 rfl rfl rfl ?_
      subst h
      exact g_zret rfl rfl (Or.inl rfl)
    · rw [if_neg c3] at h
      refine g_iconst (v := 1) 19 rfl rfl rfl ?_
      refine g_goto 23 rfl ?_
      subst h
      exact g_zret rfl rfl (Or.inr rfl)

def f_75_21 : Nat → Nat → Nat → Int32 → Int32 → Int32 → sU → Option (Int32 × sU)
  | 0, _, _, _, _, _, _ => none
  | n + 1, a, v1, v2, v3, v4, U =>
    if (f_103 v1 U) ≤ v4 then
      some (v3, U)
    else
      if (f_74 v1 v4 v2 U) = 0 then
        f_75_21 n a v1 v2 v3 (v4 + 1) U
      else
        Option.bind (f_39 (a + 1) v4 U) fun q4 =>
        Option.bind (f_41 (a + 1) q4) fun q5 =>
        Option.bind (f_60 (a + 1) q5) fun q6 =>
        f_75_21 n a v1 v2 (f_286 v3 q6 q5) (v4 + 1) q5
set_option maxRecDepth 10000 in
set_option maxHeartbeats 2000000 in
theorem F_75_21 (d : Nat)   : ∀ (n : Nat) (a : Nat) (ha : sh a = 5) (v1 : Nat) (hv1 : sh v1 = 8) (v2 : Int32) (v3 : Int32) (v4 : Int32) (U : sU) (r : Int32) (U' : sU), f_75_21 n a v1 v2 v3 v4 U = some (r, U') → G (d + 4) sm_I75 21 [(0, .ref a), (1, .ref v1), (2, .int v2), (3, .int v3), (4, .int v4)] [] U (some (.int r)) U' := by
  intro n
  induction n with
  | zero => intro a ha v1 hv1 v2 v3 v4 U r U' h; cases h
  | succ n ih =>
    intro a ha v1 hv1 v2 v3 v4 U r U' h
    first | rw [f_75_21] at h | (rw [f_75_21.eq_def] at h; dsimp only at h)
    refine g_iload 23 rfl rfl rfl ?_
    refine g_aload_n 24 rfl rfl rfl ?_
    refine g_callV (J := sm_I103) 27 rfl (Nat.le_of_ble_eq_true rfl) rfl rfl (Nat.le_of_ble_eq_true rfl) hv1 (Nat.le_of_ble_eq_true rfl) (Nat.le_of_ble_eq_true rfl) rfl rfl (F_103 (d + 3) v1 hv1 U) ?_
    refine g_icmp_ge 74 30 rfl rfl (fun c1 => ?_) (fun c1 => ?_)
    · rw [if_pos c1] at h
      refine g_iload_n 75 rfl rfl rfl ?_
      cases h
      exact g_iret rfl rfl
    · rw [if_neg c1] at h
      refine g_aload_n 31 rfl rfl rfl ?_
      refine g_iload 33 rfl rfl rfl ?_
      refine g_iload_n 34 rfl rfl rfl ?_
      have r2 := F_74 (d + 1) v1 hv1 v4 v2 U
      refine g_callS (J := sm_I74) 37 rfl (by decide) rfl rfl (Nat.le_of_ble_eq_true rfl) (Nat.le_of_ble_eq_true rfl) rfl rfl r2 ?_
      refine g_if_eq 68 40 rfl rfl (fun c3 => ?_) (fun c3 => ?_)
      · rw [if_pos c3] at h
        refine g_iinc (v := v4 + 1) 71 [(4, .int (v4 + 1)), (0, .ref a), (1, .ref v1), (2, .int v2), (3, .int v3)] rfl rfl (Nat.le_of_ble_eq_true rfl) rfl rfl rfl ?_
        refine g_goto 21 rfl ?_
        exact g_sub (Sc rfl (Sc rfl (Sc rfl (Sc rfl (Sc rfl (Sn _)))))) (ih a ha v1 hv1 v2 v3 (v4 + 1) _ _ _ h)
      · rw [if_neg c3] at h
        refine g_aload_n 41 rfl rfl rfl ?_
        refine g_get 44 rfl ha (Nat.le_of_ble_eq_true rfl) rfl rfl ?_
        refine g_iload 46 rfl rfl rfl ?_
        obtain ⟨q4, hq4, h⟩ := Option.bind_eq_some_iff.mp h
        refine g_callV (J := sm_I39) 49 rfl (Nat.le_of_ble_eq_true rfl) rfl rfl (Nat.le_of_ble_eq_true rfl) (sh_5_1 ha) (Nat.le_of_ble_eq_true rfl) (Nat.le_of_ble_eq_true rfl) rfl rfl (F_39 (d + 1) (a + 1) (sh_5_1 ha) v4 hq4) ?_
        refine g_aload_n 50 rfl rfl rfl ?_
        refine g_get 53 rfl ha (Nat.le_of_ble_eq_true rfl) rfl rfl ?_
        obtain ⟨q5, hq5, h⟩ := Option.bind_eq_some_iff.mp h
        refine g_callV (J := sm_I41) 56 rfl (Nat.le_of_ble_eq_true rfl) rfl rfl (Nat.le_of_ble_eq_true rfl) (sh_5_1 ha) (Nat.le_of_ble_eq_true rfl) (Nat.le_of_ble_eq_true rfl) rfl rfl (F_41 d (a + 1) (sh_5_1 ha) hq5) ?_
        refine g_iload_n 57 rfl rfl rfl ?_
        refine g_aload_n 58 rfl rfl rfl ?_
        refine g_get 61 rfl ha (Nat.le_of_ble_eq_true rfl) rfl rfl ?_
        obtain ⟨q6, hq6, h⟩ := Option.bind_eq_some_iff.mp h
        refine g_callV (J := sm_I60) 64 rfl (Nat.le_of_ble_eq_true rfl) rfl rfl (Nat.le_of_ble_eq_true rfl) (sh_5_1 ha) (Nat.le_of_ble_eq_true rfl) (Nat.le_of_ble_eq_true rfl) rfl rfl (F_60 (d + 2) (a + 1) (sh_5_1 ha) hq6) ?_
        refine g_callS (J := sm_I286) 67 rfl (by decide) rfl rfl (Nat.le_of_ble_eq_true rfl) (Nat.le_of_ble_eq_true rfl) rfl rfl (F_286 (d + 3) v3 q6 q5) ?_
        refine g_istore_n 68 [(3, .int (f_286 v3 q6 q5)), (0, .ref a), (1, .ref v1), (2, .int v2), (4, .int v4)] rfl (Nat.le_of_ble_eq_true rfl) rfl rfl ?_
        refine g_iinc (v := v4 + 1) 71 [(4, .int (v4 + 1)), (3, .int (f_286 v3 q6 q5)), (0, .ref a), (1, .ref v1), (2, .int v2)] rfl rfl (Nat.le_of_ble_eq_true rfl) rfl rfl rfl ?_
        refine g_goto 21 rfl ?_
        exact g_sub (Sc rfl (Sc rfl (Sc rfl (Sc rfl (Sc rfl (Sn _)))))) (ih a ha v1 hv1 v2 (f_286 v3 q6 q5) (v4 + 1) _ _ _ h)
def f_75 (a : Nat) (x1 : Nat) (x2 : Int32) (U : sU) : Option (Int32 × sU) :=
  f_75_21 FU a x1 x2 ((-1)) 0 (f_35 (a + 1) x1 (U.1 x1 4) (U.1 x1 3) U)
set_option maxRecDepth 10000 in
set_option maxHeartbeats 2000000 in
theorem F_75 (d : Nat) (a : Nat) (ha : sh a = 5) (x1 : Nat) (hx1 : sh x1 = 8) (x2 : Int32) {U : sU} {r : Int32} {U' : sU} (h : f_75 a x1 x2 U = some (r, U')) : Rn (d + 4) sm_I75 [.ref a, .ref x1, .int x2] U (some (.int r)) U' := by
  refine Rn_of [(0, .ref a), (1, .ref x1), (2, .int x2)] (Nat.le_of_ble_eq_true rfl) (Sc rfl (Sc rfl (Sc rfl (Sn _)))) ?_
  first | rw [f_75] at h | rw [f_75.eq_def] at h
  refine g_aload_n 1 rfl rfl rfl ?_
  refine g_get 4 rfl ha (Nat.le_of_ble_eq_true rfl) rfl rfl ?_
  refine g_aload_n 5 rfl rfl rfl ?_
  refine g_aload_n 6 rfl rfl rfl ?_
  refine g_get 9 rfl hx1 (Nat.le_of_ble_eq_true rfl) rfl rfl ?_
  refine g_aload_n 10 rfl rfl rfl ?_
  refine g_get 13 rfl hx1 (Nat.le_of_ble_eq_true rfl) rfl rfl ?_
  refine g_callV (J := sm_I35) 16 rfl (Nat.le_of_ble_eq_true rfl) rfl rfl (Nat.le_of_ble_eq_true rfl) (sh_5_1 ha) (Nat.le_of_ble_eq_true rfl) (Nat.le_of_ble_eq_true rfl) rfl rfl (F_35 (d + 2) (a + 1) (sh_5_1 ha) x1 hx1 (U.1 x1 4) (U.1 x1 3) U) ?_
  refine g_iconst (v := (-1)) 17 rfl rfl rfl ?_
  refine g_istore_n 18 [(3, .int ((-1))), (0, .ref a), (1, .ref x1), (2, .int x2)] rfl (Nat.le_of_ble_eq_true rfl) rfl rfl ?_
  refine g_iconst (v := 0) 19 rfl rfl rfl ?_
  refine g_istore 21 [(4, .int 0), (3, .int ((-1))), (0, .ref a), (1, .ref x1), (2, .int x2)] rfl (Nat.le_of_ble_eq_true rfl) rfl rfl ?_
  exact g_sub (Sc rfl (Sc rfl (Sc rfl (Sc rfl (Sc rfl (Sn _)))))) (F_75_21 d _ a ha x1 hx1 x2 ((-1)) 0 _ _ _ h)

def f_77_73 (k32 : Nat → Int32 → Int32 → sU → Option (Int32 × sU)) : Nat → Nat → Int32 → Int32 → Int64 → Int32 → sU → Option (Int32 × sU)
  | 0, _, _, _, _, _, _ => none
  | n + 1, a, v2, v3, v5, v7, U =>
    if 12 ≤ v7 then
      k32 a v2 (v3 + 1) U
    else
      if (f_43 (a + 1) v7 U) = 0 then
        f_77_73 k32 n a v2 v3 v5 (v7 + 1) U
      else
        if 0 ≤ (lg_cmp ((f_55 (a + 1) v3 v7 U) + (f_55 (a + 15) v3 v7 U)) v5) then
          f_77_73 k32 n a v2 v3 v5 (v7 + 1) U
        else
          some (0, U)
set_option maxRecDepth 10000 in
set_option maxHeartbeats 2000000 in
theorem F_77_73 (d : Nat) {k32 : Nat → Int32 → Int32 → sU → Option (Int32 × sU)} (hk32 : ∀ (a : Nat) (ha : sh a = 5) (v2 : Int32) (v3 : Int32) (U : sU) (r : Int32) (U' : sU), k32 a v2 v3 U = some (r, U') → G (d + 4) sm_I77 32 [(0, .ref a), (2, .int v2), (3, .int v3)] [] U (some (.int r)) U') : ∀ (n : Nat) (a : Nat) (ha : sh a = 5) (v2 : Int32) (v3 : Int32) (v5 : Int64) (v7 : Int32) (U : sU) (r : Int32) (U' : sU), f_77_73 k32 n a v2 v3 v5 v7 U = some (r, U') → G (d + 4) sm_I77 73 [(0, .ref a), (2, .int v2), (3, .int v3), (5, .long v5), (7, .int v7)] [] U (some (.int r)) U' := by
  intro n
  induction n with
  | zero => intro a ha v2 v3 v5 v7 U r U' h; cases h
  | succ n ih =>
    intro a ha v2 v3 v5 v7 U r U' h
    first | rw [f_77_73] at h | (rw [f_77_73.eq_def] at h; dsimp only at h)
    refine g_iload 75 rfl rfl rfl ?_
    refine g_bipush (v := 12) 77 rfl (by decide) rfl ?_
    refine g_icmp_ge 127 80 rfl rfl (fun c1 => ?_) (fun c1 => ?_)
    · rw [if_pos c1] at h
      refine g_iinc (v := v3 + 1) 130 [(3, .int (v3 + 1)), (0, .ref a), (2, .int v2), (5, .long v5), (7, .int v7)] rfl rfl (Nat.le_of_ble_eq_true rfl) rfl rfl rfl ?_
      refine g_goto 32 rfl ?_
      exact g_sub (Sc rfl (Sc rfl (Sc rfl (Sn _)))) (hk32 a ha v2 (v3 + 1) _ _ _ h)
    · rw [if_neg c1] at h
      refine g_aload_n 81 rfl rfl rfl ?_
      refine g_get 84 rfl ha (Nat.le_of_ble_eq_true rfl) rfl rfl ?_
      refine g_iload 86 rfl rfl rfl ?_
      have r2 := F_43 (d + 3) (a + 1) (sh_5_1 ha) v7 U
      refine g_callV (J := sm_I43) 89 rfl (Nat.le_of_ble_eq_true rfl) rfl rfl (Nat.le_of_ble_eq_true rfl) (sh_5_1 ha) (Nat.le_of_ble_eq_true rfl) (Nat.le_of_ble_eq_true rfl) rfl rfl r2 ?_
      refine g_if_eq 121 92 rfl rfl (fun c3 => ?_) (fun c3 => ?_)
      · rw [if_pos c3] at h
        refine g_iinc (v := v7 + 1) 124 [(7, .int (v7 + 1)), (0, .ref a), (2, .int v2), (3, .int v3), (5, .long v5)] rfl rfl (Nat.le_of_ble_eq_true rfl) rfl rfl rfl ?_
        refine g_goto 73 rfl ?_
        exact g_sub (Sc rfl (Sc rfl (Sc rfl (Sc rfl (Sc rfl (Sn _)))))) (ih a ha v2 v3 v5 (v7 + 1) _ _ _ h)
      · rw [if_neg c3] at h
        refine g_aload_n 93 rfl rfl rfl ?_
        refine g_get 96 rfl ha (Nat.le_of_ble_eq_true rfl) rfl rfl ?_
        refine g_iload_n 97 rfl rfl rfl ?_
        refine g_iload 99 rfl rfl rfl ?_
        refine g_callV (J := sm_I55) 102 rfl (Nat.le_of_ble_eq_true rfl) rfl rfl (Nat.le_of_ble_eq_true rfl) (sh_5_1 ha) (Nat.le_of_ble_eq_true rfl) (Nat.le_of_ble_eq_true rfl) rfl rfl (F_55 (d + 1) (a + 1) (sh_5_1 ha) v3 v7 U) ?_
        refine g_aload_n 103 rfl rfl rfl ?_
        refine g_get 106 rfl ha (Nat.le_of_ble_eq_true rfl) rfl rfl ?_
        refine g_iload_n 107 rfl rfl rfl ?_
        refine g_iload 109 rfl rfl rfl ?_
        refine g_callV (J := sm_I55) 112 rfl (Nat.le_of_ble_eq_true rfl) rfl rfl (Nat.le_of_ble_eq_true rfl) (sh_5_15 ha) (Nat.le_of_ble_eq_true rfl) (Nat.le_of_ble_eq_true rfl) rfl rfl (F_55 (d + 1) (a + 15) (sh_5_15 ha) v3 v7 U) ?_
        refine g_ladd 113 rfl rfl ?_
        refine g_lload 115 rfl rfl rfl ?_
        refine g_lcmp 116 rfl rfl ?_
        refine g_if_ge 121 119 rfl rfl (fun c4 => ?_) (fun c4 => ?_)
        · rw [if_pos c4] at h
          refine g_iinc (v := v7 + 1) 124 [(7, .int (v7 + 1)), (0, .ref a), (2, .int v2), (3, .int v3), (5, .long v5)] rfl rfl (Nat.le_of_ble_eq_true rfl) rfl rfl rfl ?_
          refine g_goto 73 rfl ?_
          exact g_sub (Sc rfl (Sc rfl (Sc rfl (Sc rfl (Sc rfl (Sn _)))))) (ih a ha v2 v3 v5 (v7 + 1) _ _ _ h)
        · rw [if_neg c4] at h
          refine g_iconst (v := 0) 120 rfl rfl rfl ?_
          cases h
          exact g_zret rfl rfl (Or.inl rfl)
def f_77_32 : Nat → Nat → Int32 → Int32 → sU → Option (Int32 × sU)
  | 0, _, _, _, _ => none
  | n + 1, a, v2, v3, U =>
    if v2 ≤ v3 then
      some (1, U)
    else
      f_77_73 (fun a v2 v3 U => f_77_32 n a v2 v3 U) FU a v2 v3 ((f_55 (a + 1) v3 (f_45 (a + 1) v3 U) U) + (f_55 (a + 15) v3 (f_45 (a + 1) v3 U) U)) 0 U
set_option maxRecDepth 10000 in
set_option maxHeartbeats 2000000 in
theorem F_77_32 (d : Nat)   : ∀ (n : Nat) (a : Nat) (ha : sh a = 5) (v2 : Int32) (v3 : Int32) (U : sU) (r : Int32) (U' : sU), f_77_32 n a v2 v3 U = some (r, U') → G (d + 4) sm_I77 32 [(0, .ref a), (2, .int v2), (3, .int v3)] [] U (some (.int r)) U' := by
  intro n
  induction n with
  | zero => intro a ha v2 v3 U r U' h; cases h
  | succ n ih =>
    intro a ha v2 v3 U r U' h
    first | rw [f_77_32] at h | (rw [f_77_32.eq_def] at h; dsimp only at h)
    refine g_iload_n 33 rfl rfl rfl ?_
    refine g_iload_n 34 rfl rfl rfl ?_
    refine g_icmp_ge 133 37 rfl rfl (fun c5 => ?_) (fun c5 => ?_)
    · rw [if_pos c5] at h
      refine g_iconst (v := 1) 134 rfl rfl rfl ?_
      cases h
      exact g_zret rfl rfl (Or.inr rfl)
    · rw [if_neg c5] at h
      refine g_aload_n 38 rfl rfl rfl ?_
      refine g_get 41 rfl ha (Nat.le_of_ble_eq_true rfl) rfl rfl ?_
      refine g_iload_n 42 rfl rfl rfl ?_
      refine g_callV (J := sm_I45) 45 rfl (Nat.le_of_ble_eq_true rfl) rfl rfl (Nat.le_of_ble_eq_true rfl) (sh_5_1 ha) (Nat.le_of_ble_eq_true rfl) (Nat.le_of_ble_eq_true rfl) rfl rfl (F_45 (d + 2) (a + 1) (sh_5_1 ha) v3 U) ?_
      refine g_istore 47 [(4, .int (f_45 (a + 1) v3 U)), (0, .ref a), (2, .int v2), (3, .int v3)] rfl (Nat.le_of_ble_eq_true rfl) rfl rfl ?_
      refine g_aload_n 48 rfl rfl rfl ?_
      refine g_get 51 rfl ha (Nat.le_of_ble_eq_true rfl) rfl rfl ?_
      refine g_iload_n 52 rfl rfl rfl ?_
      refine g_iload 54 rfl rfl rfl ?_
      refine g_callV (J := sm_I55) 57 rfl (Nat.le_of_ble_eq_true rfl) rfl rfl (Nat.le_of_ble_eq_true rfl) (sh_5_1 ha) (Nat.le_of_ble_eq_true rfl) (Nat.le_of_ble_eq_true rfl) rfl rfl (F_55 (d + 1) (a + 1) (sh_5_1 ha) v3 (f_45 (a + 1) v3 U) U) ?_
      refine g_aload_n 58 rfl rfl rfl ?_
      refine g_get 61 rfl ha (Nat.le_of_ble_eq_true rfl) rfl rfl ?_
      refine g_iload_n 62 rfl rfl rfl ?_
      refine g_iload 64 rfl rfl rfl ?_
      refine g_callV (J := sm_I55) 67 rfl (Nat.le_of_ble_eq_true rfl) rfl rfl (Nat.le_of_ble_eq_true rfl) (sh_5_15 ha) (Nat.le_of_ble_eq_true rfl) (Nat.le_of_ble_eq_true rfl) rfl rfl (F_55 (d + 1) (a + 15) (sh_5_15 ha) v3 (f_45 (a + 1) v3 U) U) ?_
      refine g_ladd 68 rfl rfl ?_
      refine g_lstore 70 [(5, .long ((f_55 (a + 1) v3 (f_45 (a + 1) v3 U) U) + (f_55 (a + 15) v3 (f_45 (a + 1) v3 U) U))), (4, .int (f_45 (a + 1) v3 U)), (0, .ref a), (2, .int v2), (3, .int v3)] rfl (Nat.le_of_ble_eq_true rfl) rfl rfl ?_
      refine g_iconst (v := 0) 71 rfl rfl rfl ?_
      refine g_istore 73 [(7, .int 0), (5, .long ((f_55 (a + 1) v3 (f_45 (a + 1) v3 U) U) + (f_55 (a + 15) v3 (f_45 (a + 1) v3 U) U))), (4, .int (f_45 (a + 1) v3 U)), (0, .ref a), (2, .int v2), (3, .int v3)] rfl (Nat.le_of_ble_eq_true rfl) rfl rfl ?_
      exact g_sub (Sc rfl (Sc rfl (Sc rfl (Sc rfl (Sc rfl (Sn _)))))) (F_77_73 d (fun a ha v2 v3 U r U' h => ih a ha v2 v3 U r U' h) _ a ha v2 v3 ((f_55 (a + 1) v3 (f_45 (a + 1) v3 U) U) + (f_55 (a + 15) v3 (f_45 (a + 1) v3 U) U)) 0 _ _ _ h)
def f_77 (a : Nat) (x1 : Int32) (x2 : Int32) (U : sU) : Option (Int32 × sU) :=
  Option.bind (f_39 (a + 1) x1 U) fun q6 =>
  Option.bind (f_41 (a + 1) q6) fun q7 =>
  Option.bind (f_39 (a + 15) x1 q7) fun q8 =>
  Option.bind (f_41 (a + 15) q8) fun q9 =>
  f_77_32 FU a x2 0 q9
set_option maxRecDepth 10000 in
set_option maxHeartbeats 2000000 in
theorem F_77 (d : Nat) (a : Nat) (ha : sh a = 5) (x1 : Int32) (x2 : Int32) {U : sU} {r : Int32} {U' : sU} (h : f_77 a x1 x2 U = some (r, U')) : Rn (d + 4) sm_I77 [.ref a, .int x1, .int x2] U (some (.int r)) U' := by
  refine Rn_of [(0, .ref a), (1, .int x1), (2, .int x2)] (Nat.le_of_ble_eq_true rfl) (Sc rfl (Sc rfl (Sc rfl (Sn _)))) ?_
  first | rw [f_77] at h | rw [f_77.eq_def] at h
  refine g_aload_n 1 rfl rfl rfl ?_
  refine g_get 4 rfl ha (Nat.le_of_ble_eq_true rfl) rfl rfl ?_
  refine g_iload_n 5 rfl rfl rfl ?_
  obtain ⟨q6, hq6, h⟩ := Option.bind_eq_some_iff.mp h
  refine g_callV (J := sm_I39) 8 rfl (Nat.le_of_ble_eq_true rfl) rfl rfl (Nat.le_of_ble_eq_true rfl) (sh_5_1 ha) (Nat.le_of_ble_eq_true rfl) (Nat.le_of_ble_eq_true rfl) rfl rfl (F_39 (d + 1) (a + 1) (sh_5_1 ha) x1 hq6) ?_
  refine g_aload_n 9 rfl rfl rfl ?_
  refine g_get 12 rfl ha (Nat.le_of_ble_eq_true rfl) rfl rfl ?_
  obtain ⟨q7, hq7, h⟩ := Option.bind_eq_some_iff.mp h
  refine g_callV (J := sm_I41) 15 rfl (Nat.le_of_ble_eq_true rfl) rfl rfl (Nat.le_of_ble_eq_true rfl) (sh_5_1 ha) (Nat.le_of_ble_eq_true rfl) (Nat.le_of_ble_eq_true rfl) rfl rfl (F_41 d (a + 1) (sh_5_1 ha) hq7) ?_
  refine g_aload_n 16 rfl rfl rfl ?_
  refine g_get 19 rfl ha (Nat.le_of_ble_eq_true rfl) rfl rfl ?_
  refine g_iload_n 20 rfl rfl rfl ?_
  obtain ⟨q8, hq8, h⟩ := Option.bind_eq_some_iff.mp h
  refine g_callV (J := sm_I39) 23 rfl (Nat.le_of_ble_eq_true rfl) rfl rfl (Nat.le_of_ble_eq_true rfl) (sh_5_15 ha) (Nat.le_of_ble_eq_true rfl) (Nat.le_of_ble_eq_true rfl) rfl rfl (F_39 (d + 1) (a + 15) (sh_5_15 ha) x1 hq8) ?_
  refine g_aload_n 24 rfl rfl rfl ?_
  refine g_get 27 rfl ha (Nat.le_of_ble_eq_true rfl) rfl rfl ?_
  obtain ⟨q9, hq9, h⟩ := Option.bind_eq_some_iff.mp h
  refine g_callV (J := sm_I41) 30 rfl (Nat.le_of_ble_eq_true rfl) rfl rfl (Nat.le_of_ble_eq_true rfl) (sh_5_15 ha) (Nat.le_of_ble_eq_true rfl) (Nat.le_of_ble_eq_true rfl) rfl rfl (F_41 d (a + 15) (sh_5_15 ha) hq9) ?_
  refine g_iconst (v := 0) 31 rfl rfl rfl ?_
  refine g_istore_n 32 [(3, .int 0), (0, .ref a), (1, .int x1), (2, .int x2)] rfl (Nat.le_of_ble_eq_true rfl) rfl rfl ?_
  exact g_sub (Sc rfl (Sc rfl (Sc rfl (Sn _)))) (F_77_32 d _ a ha x2 0 _ _ _ h)

def f_76_36 : Nat → Nat → Nat → Int32 → Int32 → sU → Option (Int32 × sU)
  | 0, _, _, _, _, _ => none
  | n + 1, a, v1, v2, v3, U =>
    if (f_103 v1 U) ≤ v3 then
      some (v2, U)
    else
      if ((f_282 v3 U) + 1) ≤ v2 then
        f_76_36 n a v1 v2 (v3 + 1) U
      else
        if (f_104 v1 v3 U) = 0 then
          f_76_36 n a v1 v2 (v3 + 1) U
        else
          Option.bind (f_77 a v3 (U.1 v1 2) U) fun q5 =>
          if q5.1 = 0 then
            f_76_36 n a v1 v2 (v3 + 1) q5.2
          else
            f_76_36 n a v1 ((f_282 v3 U) + 1) (v3 + 1) q5.2
set_option maxRecDepth 10000 in
set_option maxHeartbeats 2000000 in
theorem F_76_36 (d : Nat)   : ∀ (n : Nat) (a : Nat) (ha : sh a = 5) (v1 : Nat) (hv1 : sh v1 = 8) (v2 : Int32) (v3 : Int32) (U : sU) (r : Int32) (U' : sU), f_76_36 n a v1 v2 v3 U = some (r, U') → G (d + 5) sm_I76 36 [(0, .ref a), (1, .ref v1), (2, .int v2), (3, .int v3)] [] U (some (.int r)) U' := by
  intro n
  induction n with
  | zero => intro a ha v1 hv1 v2 v3 U r U' h; cases h
  | succ n ih =>
    intro a ha v1 hv1 v2 v3 U r U' h
    first | rw [f_76_36] at h | (rw [f_76_36.eq_def] at h; dsimp only at h)
    refine g_iload_n 37 rfl rfl rfl ?_
    refine g_aload_n 38 rfl rfl rfl ?_
    refine g_callV (J := sm_I103) 41 rfl (Nat.le_of_ble_eq_true rfl) rfl rfl (Nat.le_of_ble_eq_true rfl) hv1 (Nat.le_of_ble_eq_true rfl) (Nat.le_of_ble_eq_true rfl) rfl rfl (F_103 (d + 4) v1 hv1 U) ?_
    refine g_icmp_ge 87 44 rfl rfl (fun c1 => ?_) (fun c1 => ?_)
    · rw [if_pos c1] at h
      refine g_iload_n 88 rfl rfl rfl ?_
      cases h
      exact g_iret rfl rfl
    · rw [if_neg c1] at h
      refine g_iload_n 45 rfl rfl rfl ?_
      refine g_callS (J := sm_I282) 48 rfl (by decide) rfl rfl (Nat.le_of_ble_eq_true rfl) (Nat.le_of_ble_eq_true rfl) rfl rfl (F_282 (d + 4) v3 U) ?_
      refine g_iconst (v := 1) 49 rfl rfl rfl ?_
      refine g_iadd 50 rfl rfl ?_
      refine g_istore 52 [(4, .int ((f_282 v3 U) + 1)), (0, .ref a), (1, .ref v1), (2, .int v2), (3, .int v3)] rfl (Nat.le_of_ble_eq_true rfl) rfl rfl ?_
      refine g_iload 54 rfl rfl rfl ?_
      refine g_iload_n 55 rfl rfl rfl ?_
      refine g_icmp_le 81 58 rfl rfl (fun c2 => ?_) (fun c2 => ?_)
      · rw [if_pos c2] at h
        refine g_iinc (v := v3 + 1) 84 [(3, .int (v3 + 1)), (4, .int ((f_282 v3 U) + 1)), (0, .ref a), (1, .ref v1), (2, .int v2)] rfl rfl (Nat.le_of_ble_eq_true rfl) rfl rfl rfl ?_
        refine g_goto 36 rfl ?_
        exact g_sub (Sc rfl (Sc rfl (Sc rfl (Sc rfl (Sn _))))) (ih a ha v1 hv1 v2 (v3 + 1) _ _ _ h)
      · rw [if_neg c2] at h
        refine g_aload_n 59 rfl rfl rfl ?_
        refine g_iload_n 60 rfl rfl rfl ?_
        have r3 := F_104 (d + 3) v1 hv1 v3 U
        refine g_callV (J := sm_I104) 63 rfl (Nat.le_of_ble_eq_true rfl) rfl rfl (Nat.le_of_ble_eq_true rfl) hv1 (Nat.le_of_ble_eq_true rfl) (Nat.le_of_ble_eq_true rfl) rfl rfl r3 ?_
        refine g_if_eq 81 66 rfl rfl (fun c4 => ?_) (fun c4 => ?_)
        · rw [if_pos c4] at h
          refine g_iinc (v := v3 + 1) 84 [(3, .int (v3 + 1)), (4, .int ((f_282 v3 U) + 1)), (0, .ref a), (1, .ref v1), (2, .int v2)] rfl rfl (Nat.le_of_ble_eq_true rfl) rfl rfl rfl ?_
          refine g_goto 36 rfl ?_
          exact g_sub (Sc rfl (Sc rfl (Sc rfl (Sc rfl (Sn _))))) (ih a ha v1 hv1 v2 (v3 + 1) _ _ _ h)
        · rw [if_neg c4] at h
          refine g_aload_n 67 rfl rfl rfl ?_
          refine g_iload_n 68 rfl rfl rfl ?_
          refine g_aload_n 69 rfl rfl rfl ?_
          refine g_get 72 rfl hv1 (Nat.le_of_ble_eq_true rfl) rfl rfl ?_
          obtain ⟨q5, hq5, h⟩ := Option.bind_eq_some_iff.mp h
          have r6 := (F_77 d a ha v3 (U.1 v1 2) hq5)
          refine g_callV (J := sm_I77) 75 rfl (Nat.le_of_ble_eq_true rfl) rfl rfl (Nat.le_of_ble_eq_true rfl) ha (Nat.le_of_ble_eq_true rfl) (Nat.le_of_ble_eq_true rfl) rfl rfl r6 ?_
          refine g_if_eq 81 78 rfl rfl (fun c7 => ?_) (fun c7 => ?_)
          · rw [if_pos c7] at h
            refine g_iinc (v := v3 + 1) 84 [(3, .int (v3 + 1)), (4, .int ((f_282 v3 U) + 1)), (0, .ref a), (1, .ref v1), (2, .int v2)] rfl rfl (Nat.le_of_ble_eq_true rfl) rfl rfl rfl ?_
            refine g_goto 36 rfl ?_
            exact g_sub (Sc rfl (Sc rfl (Sc rfl (Sc rfl (Sn _))))) (ih a ha v1 hv1 v2 (v3 + 1) _ _ _ h)
          · rw [if_neg c7] at h
            refine g_iload 80 rfl rfl rfl ?_
            refine g_istore_n 81 [(2, .int ((f_282 v3 U) + 1)), (4, .int ((f_282 v3 U) + 1)), (0, .ref a), (1, .ref v1), (3, .int v3)] rfl (Nat.le_of_ble_eq_true rfl) rfl rfl ?_
            refine g_iinc (v := v3 + 1) 84 [(3, .int (v3 + 1)), (2, .int ((f_282 v3 U) + 1)), (4, .int ((f_282 v3 U) + 1)), (0, .ref a), (1, .ref v1)] rfl rfl (Nat.le_of_ble_eq_true rfl) rfl rfl rfl ?_
            refine g_goto 36 rfl ?_
            exact g_sub (Sc rfl (Sc rfl (Sc rfl (Sc rfl (Sn _))))) (ih a ha v1 hv1 ((f_282 v3 U) + 1) (v3 + 1) _ _ _ h)
def f_76 (a : Nat) (x1 : Nat) (U : sU) : Option (Int32 × sU) :=
  f_76_36 FU a x1 1 1 (f_35 (a + 15) x1 ((f_35 (a + 1) x1 (U.1 x1 4) (U.1 x1 3) U).1 x1 8) ((f_35 (a + 1) x1 (U.1 x1 4) (U.1 x1 3) U).1 x1 9) (f_35 (a + 1) x1 (U.1 x1 4) (U.1 x1 3) U))
set_option maxRecDepth 10000 in
set_option maxHeartbeats 2000000 in
theorem F_76 (d : Nat) (a : Nat) (ha : sh a = 5) (x1 : Nat) (hx1 : sh x1 = 8) {U : sU} {r : Int32} {U' : sU} (h : f_76 a x1 U = some (r, U')) : Rn (d + 5) sm_I76 [.ref a, .ref x1] U (some (.int r)) U' := by
  refine Rn_of [(0, .ref a), (1, .ref x1)] (Nat.le_of_ble_eq_true rfl) (Sc rfl (Sc rfl (Sn _))) ?_
  first | rw [f_76] at h | rw [f_76.eq_def] at h
  refine g_aload_n 1 rfl rfl rfl ?_
  refine g_get 4 rfl ha (Nat.le_of_ble_eq_true rfl) rfl rfl ?_
  refine g_aload_n 5 rfl rfl rfl ?_
  refine g_aload_n 6 rfl rfl rfl ?_
  refine g_get 9 rfl hx1 (Nat.le_of_ble_eq_true rfl) rfl rfl ?_
  refine g_aload_n 10 rfl rfl rfl ?_
  refine g_get 13 rfl hx1 (Nat.le_of_ble_eq_true rfl) rfl rfl ?_
  refine g_callV (J := sm_I35) 16 rfl (Nat.le_of_ble_eq_true rfl) rfl rfl (Nat.le_of_ble_eq_true rfl) (sh_5_1 ha) (Nat.le_of_ble_eq_true rfl) (Nat.le_of_ble_eq_true rfl) rfl rfl (F_35 (d + 3) (a + 1) (sh_5_1 ha) x1 hx1 (U.1 x1 4) (U.1 x1 3) U) ?_
  refine g_aload_n 17 rfl rfl rfl ?_
  refine g_get 20 rfl ha (Nat.le_of_ble_eq_true rfl) rfl rfl ?_
  refine g_aload_n 21 rfl rfl rfl ?_
  refine g_aload_n 22 rfl rfl rfl ?_
  refine g_get 25 rfl hx1 (Nat.le_of_ble_eq_true rfl) rfl rfl ?_
  refine g_aload_n 26 rfl rfl rfl ?_
  refine g_get 29 rfl hx1 (Nat.le_of_ble_eq_true rfl) rfl rfl ?_
  refine g_callV (J := sm_I35) 32 rfl (Nat.le_of_ble_eq_true rfl) rfl rfl (Nat.le_of_ble_eq_true rfl) (sh_5_15 ha) (Nat.le_of_ble_eq_true rfl) (Nat.le_of_ble_eq_true rfl) rfl rfl (F_35 (d + 3) (a + 15) (sh_5_15 ha) x1 hx1 ((f_35 (a + 1) x1 (U.1 x1 4) (U.1 x1 3) U).1 x1 8) ((f_35 (a + 1) x1 (U.1 x1 4) (U.1 x1 3) U).1 x1 9) (f_35 (a + 1) x1 (U.1 x1 4) (U.1 x1 3) U)) ?_
  refine g_iconst (v := 1) 33 rfl rfl rfl ?_
  refine g_istore_n 34 [(2, .int 1), (0, .ref a), (1, .ref x1)] rfl (Nat.le_of_ble_eq_true rfl) rfl rfl ?_
  refine g_iconst (v := 1) 35 rfl rfl rfl ?_
  refine g_istore_n 36 [(3, .int 1), (2, .int 1), (0, .ref a), (1, .ref x1)] rfl (Nat.le_of_ble_eq_true rfl) rfl rfl ?_
  exact g_sub (Sc rfl (Sc rfl (Sc rfl (Sc rfl (Sn _))))) (F_76_36 d _ a ha x1 hx1 1 1 _ _ _ h)

def f_78_53 (k16 : Nat → Nat → Int32 → Int64 → Int32 → sU → Option sU) : Nat → Nat → Nat → Int32 → Int64 → Int32 → Int32 → sU → Option sU
  | 0, _, _, _, _, _, _, _ => none
  | n + 1, a, v1, v2, v3, v5, v6, U =>
    if (f_103 v1 U) ≤ v6 then
      k16 a v1 v2 v3 (v5 + (-5)) U
    else
      if (f_74 v1 v6 v2 U) = 0 then
        f_78_53 k16 n a v1 v2 v3 v5 (v6 + 1) U
      else
        Option.bind (f_68 a v6 U) fun q4 =>
        if q4.1 = 0 then
          f_78_53 k16 n a v1 v2 v3 v5 (v6 + 1) q4.2
        else
          Option.bind (f_56 (a + 1) 0 q4.2) fun q7 =>
          if ¬ (100 * v2.toInt64) = 0 then
          if ((q4.2).1 a 4) = ((-1)) then
            f_78_53 k16 n a v1 v2 (q7 / (100 * v2.toInt64)) v5 (v6 + 1) (sI (sI q4.2 a 3 v5) a 4 v6)
          else
            if 0 ≤ (lg_cmp (q7 / (100 * v2.toInt64)) v3) then
              f_78_53 k16 n a v1 v2 v3 v5 (v6 + 1) q4.2
            else
              f_78_53 k16 n a v1 v2 (q7 / (100 * v2.toInt64)) v5 (v6 + 1) (sI (sI q4.2 a 3 v5) a 4 v6)
          else none
set_option maxRecDepth 10000 in
set_option maxHeartbeats 2000000 in
theorem F_78_53 (d : Nat) {k16 : Nat → Nat → Int32 → Int64 → Int32 → sU → Option sU} (hk16 : ∀ (a : Nat) (ha : sh a = 5) (v1 : Nat) (hv1 : sh v1 = 8) (v2 : Int32) (v3 : Int64) (v5 : Int32) (U : sU) (U' : sU), k16 a v1 v2 v3 v5 U = some U' → G (d + 5) sm_I78 16 [(0, .ref a), (1, .ref v1), (2, .int v2), (3, .long v3), (5, .int v5)] [] U none U') : ∀ (n : Nat) (a : Nat) (ha : sh a = 5) (v1 : Nat) (hv1 : sh v1 = 8) (v2 : Int32) (v3 : Int64) (v5 : Int32) (v6 : Int32) (U : sU) (U' : sU), f_78_53 k16 n a v1 v2 v3 v5 v6 U = some U' → G (d + 5) sm_I78 53 [(0, .ref a), (1, .ref v1), (2, .int v2), (3, .long v3), (5, .int v5), (6, .int v6)] [] U none U' := by
  intro n
  induction n with
  | zero => intro a ha v1 hv1 v2 v3 v5 v6 U U' h; cases h
  | succ n ih =>
    intro a ha v1 hv1 v2 v3 v5 v6 U U' h
    first | rw [f_78_53] at h | (rw [f_78_53.eq_def] at h; dsimp only at h)
    refine g_iload 55 rfl rfl rfl ?_
    refine g_aload_n 56 rfl rfl rfl ?_
    refine g_callV (J := sm_I103) 59 rfl (Nat.le_of_ble_eq_true rfl) rfl rfl (Nat.le_of_ble_eq_true rfl) hv1 (Nat.le_of_ble_eq_true rfl) (Nat.le_of_ble_eq_true rfl) rfl rfl (F_103 (d + 4) v1 hv1 U) ?_
    refine g_icmp_ge 134 62 rfl rfl (fun c1 => ?_) (fun c1 => ?_)
    · rw [if_pos c1] at h
      refine g_iinc (v := v5 + (-5)) 137 [(5, .int (v5 + (-5))), (0, .ref a), (1, .ref v1), (2, .int v2), (3, .long v3), (6, .int v6)] rfl rfl (Nat.le_of_ble_eq_true rfl) rfl rfl rfl ?_
      refine g_goto 16 rfl ?_
      exact g_sub (Sc rfl (Sc rfl (Sc rfl (Sc rfl (Sc rfl (Sn _)))))) (hk16 a ha v1 hv1 v2 v3 (v5 + (-5)) _ _ h)
    · rw [if_neg c1] at h
      refine g_aload_n 63 rfl rfl rfl ?_
      refine g_iload 65 rfl rfl rfl ?_
      refine g_iload_n 66 rfl rfl rfl ?_
      have r2 := F_74 (d + 2) v1 hv1 v6 v2 U
      refine g_callS (J := sm_I74) 69 rfl (by decide) rfl rfl (Nat.le_of_ble_eq_true rfl) (Nat.le_of_ble_eq_true rfl) rfl rfl r2 ?_
      refine g_if_eq 128 72 rfl rfl (fun c3 => ?_) (fun c3 => ?_)
      · rw [if_pos c3] at h
        refine g_iinc (v := v6 + 1) 131 [(6, .int (v6 + 1)), (0, .ref a), (1, .ref v1), (2, .int v2), (3, .long v3), (5, .int v5)] rfl rfl (Nat.le_of_ble_eq_true rfl) rfl rfl rfl ?_
        refine g_goto 53 rfl ?_
        exact g_sub (Sc rfl (Sc rfl (Sc rfl (Sc rfl (Sc rfl (Sc rfl (Sn _))))))) (ih a ha v1 hv1 v2 v3 v5 (v6 + 1) _ _ h)
      · rw [if_neg c3] at h
        refine g_aload_n 73 rfl rfl rfl ?_
        refine g_iload 75 rfl rfl rfl ?_
        obtain ⟨q4, hq4, h⟩ := Option.bind_eq_some_iff.mp h
        have r5 := (F_68 d a ha v6 hq4)
        refine g_callV (J := sm_I68) 78 rfl (Nat.le_of_ble_eq_true rfl) rfl rfl (Nat.le_of_ble_eq_true rfl) ha (Nat.le_of_ble_eq_true rfl) (Nat.le_of_ble_eq_true rfl) rfl rfl r5 ?_
        refine g_if_eq 128 81 rfl rfl (fun c6 => ?_) (fun c6 => ?_)
        · rw [if_pos c6] at h
          refine g_iinc (v := v6 + 1) 131 [(6, .int (v6 + 1)), (0, .ref a), (1, .ref v1), (2, .int v2), (3, .long v3), (5, .int v5)] rfl rfl (Nat.le_of_ble_eq_true rfl) rfl rfl rfl ?_
          refine g_goto 53 rfl ?_
          exact g_sub (Sc rfl (Sc rfl (Sc rfl (Sc rfl (Sc rfl (Sc rfl (Sn _))))))) (ih a ha v1 hv1 v2 v3 v5 (v6 + 1) _ _ h)
        · rw [if_neg c6] at h
          refine g_aload_n 82 rfl rfl rfl ?_
          refine g_get 85 rfl ha (Nat.le_of_ble_eq_true rfl) rfl rfl ?_
          refine g_iconst (v := 0) 86 rfl rfl rfl ?_
          obtain ⟨q7, hq7, h⟩ := Option.bind_eq_some_iff.mp h
          refine g_callV (J := sm_I56) 89 rfl (Nat.le_of_ble_eq_true rfl) rfl rfl (Nat.le_of_ble_eq_true rfl) (sh_5_1 ha) (Nat.le_of_ble_eq_true rfl) (Nat.le_of_ble_eq_true rfl) rfl rfl (F_56 (d + 1) (a + 1) (sh_5_1 ha) 0 hq7) ?_
          refine g_ldc2_w (v := 100) 92 rfl (by decide) rfl ?_
          refine g_iload_n 93 rfl rfl rfl ?_
          refine g_i2l 94 rfl rfl ?_
          refine g_lmul 95 rfl rfl ?_
          by_cases n8 : ¬ (100 * v2.toInt64) = 0
          case neg => rw [if_neg n8] at h; cases h
          rw [if_pos n8] at h
          refine g_ldiv 96 rfl n8 rfl ?_
          refine g_lstore 98 [(7, .long (q7 / (100 * v2.toInt64))), (0, .ref a), (1, .ref v1), (2, .int v2), (3, .long v3), (5, .int v5), (6, .int v6)] rfl (Nat.le_of_ble_eq_true rfl) rfl rfl ?_
          refine g_aload_n 99 rfl rfl rfl ?_
          refine g_get 102 rfl ha (Nat.le_of_ble_eq_true rfl) rfl rfl ?_
          refine g_iconst (v := (-1)) 103 rfl rfl rfl ?_
          refine g_icmp_eq 113 106 rfl rfl (fun c9 => ?_) (fun c9 => ?_)
          · rw [if_pos c9] at h
            refine g_aload_n 114 rfl rfl rfl ?_
            refine g_iload 116 rfl rfl rfl ?_
            refine g_putI 119 rfl ha (Nat.le_of_ble_eq_true rfl) (Nat.le_of_ble_eq_true rfl) rfl fs_5_3 rfl ?_
            refine g_aload_n 120 rfl rfl rfl ?_
            refine g_iload 122 rfl rfl rfl ?_
            refine g_putI 125 rfl ha (Nat.le_of_ble_eq_true rfl) (Nat.le_of_ble_eq_true rfl) rfl fs_5_4 rfl ?_
            refine g_lload 127 rfl rfl rfl ?_
            refine g_lstore_n 128 [(3, .long (q7 / (100 * v2.toInt64))), (7, .long (q7 / (100 * v2.toInt64))), (0, .ref a), (1, .ref v1), (2, .int v2), (5, .int v5), (6, .int v6)] rfl (Nat.le_of_ble_eq_true rfl) rfl rfl ?_
            refine g_iinc (v := v6 + 1) 131 [(6, .int (v6 + 1)), (3, .long (q7 / (100 * v2.toInt64))), (7, .long (q7 / (100 * v2.toInt64))), (0, .ref a), (1, .ref v1), (2, .int v2), (5, .int v5)] rfl rfl (Nat.le_of_ble_eq_true rfl) rfl rfl rfl ?_
            refine g_goto 53 rfl ?_
            exact g_sub (Sc rfl (Sc rfl (Sc rfl (Sc rfl (Sc rfl (Sc rfl (Sn _))))))) (ih a ha v1 hv1 v2 (q7 / (100 * v2.toInt64)) v5 (v6 + 1) _ _ h)
          · rw [if_neg c9] at h
            refine g_lload 108 rfl rfl rfl ?_
            refine g_lload_n 109 rfl rfl rfl ?_
            refine g_lcmp 110 rfl rfl ?_
            refine g_if_ge 128 113 rfl rfl (fun c10 => ?_) (fun c10 => ?_)
            · rw [if_pos c10] at h
              refine g_iinc (v := v6 + 1) 131 [(6, .int (v6 + 1)), (7, .long (q7 / (100 * v2.toInt64))), (0, .ref a), (1, .ref v1), (2, .int v2), (3, .long v3), (5, .int v5)] rfl rfl (Nat.le_of_ble_eq_true rfl) rfl rfl rfl ?_
              refine g_goto 53 rfl ?_
              exact g_sub (Sc rfl (Sc rfl (Sc rfl (Sc rfl (Sc rfl (Sc rfl (Sn _))))))) (ih a ha v1 hv1 v2 v3 v5 (v6 + 1) _ _ h)
            · rw [if_neg c10] at h
              refine g_aload_n 114 rfl rfl rfl ?_
              refine g_iload 116 rfl rfl rfl ?_
              refine g_putI 119 rfl ha (Nat.le_of_ble_eq_true rfl) (Nat.le_of_ble_eq_true rfl) rfl fs_5_3 rfl ?_
              refine g_aload_n 120 rfl rfl rfl ?_
              refine g_iload 122 rfl rfl rfl ?_
              refine g_putI 125 rfl ha (Nat.le_of_ble_eq_true rfl) (Nat.le_of_ble_eq_true rfl) rfl fs_5_4 rfl ?_
              refine g_lload 127 rfl rfl rfl ?_
              refine g_lstore_n 128 [(3, .long (q7 / (100 * v2.toInt64))), (7, .long (q7 / (100 * v2.toInt64))), (0, .ref a), (1, .ref v1), (2, .int v2), (5, .int v5), (6, .int v6)] rfl (Nat.le_of_ble_eq_true rfl) rfl rfl ?_
              refine g_iinc (v := v6 + 1) 131 [(6, .int (v6 + 1)), (3, .long (q7 / (100 * v2.toInt64))), (7, .long (q7 / (100 * v2.toInt64))), (0, .ref a), (1, .ref v1), (2, .int v2), (5, .int v5)] rfl rfl (Nat.le_of_ble_eq_true rfl) rfl rfl rfl ?_
              refine g_goto 53 rfl ?_
              exact g_sub (Sc rfl (Sc rfl (Sc rfl (Sc rfl (Sc rfl (Sc rfl (Sn _))))))) (ih a ha v1 hv1 v2 (q7 / (100 * v2.toInt64)) v5 (v6 + 1) _ _ h)
def f_78_16 : Nat → Nat → Nat → Int32 → Int64 → Int32 → sU → Option sU
  | 0, _, _, _, _, _, _ => none
  | n + 1, a, v1, v2, v3, v5, U =>
    if v5 < 0 then
      some U
    else
      if v2 ≤ 0 then
        some U
      else
        f_78_53 (fun a v1 v2 v3 v5 U => f_78_16 n a v1 v2 v3 v5 U) FU a v1 v2 v3 v5 0 (f_36 (a + 1) v5 (f_35 (a + 1) v1 (U.1 v1 4) (U.1 v1 3) U))
set_option maxRecDepth 10000 in
set_option maxHeartbeats 2000000 in
theorem F_78_16 (d : Nat)   : ∀ (n : Nat) (a : Nat) (ha : sh a = 5) (v1 : Nat) (hv1 : sh v1 = 8) (v2 : Int32) (v3 : Int64) (v5 : Int32) (U : sU) (U' : sU), f_78_16 n a v1 v2 v3 v5 U = some U' → G (d + 5) sm_I78 16 [(0, .ref a), (1, .ref v1), (2, .int v2), (3, .long v3), (5, .int v5)] [] U none U' := by
  intro n
  induction n with
  | zero => intro a ha v1 hv1 v2 v3 v5 U U' h; cases h
  | succ n ih =>
    intro a ha v1 hv1 v2 v3 v5 U U' h
    first | rw [f_78_16] at h | (rw [f_78_16.eq_def] at h; dsimp only at h)
    refine g_iload 18 rfl rfl rfl ?_
    refine g_if_lt 140 21 rfl rfl (fun c11 => ?_) (fun c11 => ?_)
    · rw [if_pos c11] at h
      cases h
      exact g_vret rfl rfl
    · rw [if_neg c11] at h
      refine g_iload_n 22 rfl rfl rfl ?_
      refine g_if_le 140 25 rfl rfl (fun c12 => ?_) (fun c12 => ?_)
      · rw [if_pos c12] at h
        cases h
        exact g_vret rfl rfl
      · rw [if_neg c12] at h
        refine g_aload_n 26 rfl rfl rfl ?_
        refine g_get 29 rfl ha (Nat.le_of_ble_eq_true rfl) rfl rfl ?_
        refine g_aload_n 30 rfl rfl rfl ?_
        refine g_aload_n 31 rfl rfl rfl ?_
        refine g_get 34 rfl hv1 (Nat.le_of_ble_eq_true rfl) rfl rfl ?_
        refine g_aload_n 35 rfl rfl rfl ?_
        refine g_get 38 rfl hv1 (Nat.le_of_ble_eq_true rfl) rfl rfl ?_
        refine g_callV (J := sm_I35) 41 rfl (Nat.le_of_ble_eq_true rfl) rfl rfl (Nat.le_of_ble_eq_true rfl) (sh_5_1 ha) (Nat.le_of_ble_eq_true rfl) (Nat.le_of_ble_eq_true rfl) rfl rfl (F_35 (d + 3) (a + 1) (sh_5_1 ha) v1 hv1 (U.1 v1 4) (U.1 v1 3) U) ?_
        refine g_aload_n 42 rfl rfl rfl ?_
        refine g_get 45 rfl ha (Nat.le_of_ble_eq_true rfl) rfl rfl ?_
        refine g_iload 47 rfl rfl rfl ?_
        refine g_callV (J := sm_I36) 50 rfl (Nat.le_of_ble_eq_true rfl) rfl rfl (Nat.le_of_ble_eq_true rfl) (sh_5_1 ha) (Nat.le_of_ble_eq_true rfl) (Nat.le_of_ble_eq_true rfl) rfl rfl (F_36 (d + 4) (a + 1) (sh_5_1 ha) v5 (f_35 (a + 1) v1 (U.1 v1 4) (U.1 v1 3) U)) ?_
        refine g_iconst (v := 0) 51 rfl rfl rfl ?_
        refine g_istore 53 [(6, .int 0), (0, .ref a), (1, .ref v1), (2, .int v2), (3, .long v3), (5, .int v5)] rfl (Nat.le_of_ble_eq_true rfl) rfl rfl ?_
        exact g_sub (Sc rfl (Sc rfl (Sc rfl (Sc rfl (Sc rfl (Sc rfl (Sn _))))))) (F_78_53 d (fun a ha v1 hv1 v2 v3 v5 U U' h => ih a ha v1 hv1 v2 v3 v5 U U' h) _ a ha v1 hv1 v2 v3 v5 0 _ _ h)
def f_78 (a : Nat) (x1 : Nat) (x2 : Int32) (U : sU) : Option sU :=
  f_78_16 FU a x1 x2 0 100 (sI (sI U a 3 ((-1))) a 4 ((-1)))
set_option maxRecDepth 10000 in
set_option maxHeartbeats 2000000 in
theorem F_78 (d : Nat) (a : Nat) (ha : sh a = 5) (x1 : Nat) (hx1 : sh x1 = 8) (x2 : Int32) {U : sU} {U' : sU} (h : f_78 a x1 x2 U = some U') : Rn (d + 5) sm_I78 [.ref a, .ref x1, .int x2] U none U' := by
  refine Rn_of [(0, .ref a), (1, .ref x1), (2, .int x2)] (Nat.le_of_ble_eq_true rfl) (Sc rfl (Sc rfl (Sc rfl (Sn _)))) ?_
  first | rw [f_78] at h | rw [f_78.eq_def] at h
  refine g_aload_n 1 rfl rfl rfl ?_
  refine g_iconst (v := (-1)) 2 rfl rfl rfl ?_
  refine g_putI 5 rfl ha (Nat.le_of_ble_eq_true rfl) (Nat.le_of_ble_eq_true rfl) rfl fs_5_3 rfl ?_
  refine g_aload_n 6 rfl rfl rfl ?_
  refine g_iconst (v := (-1)) 7 rfl rfl rfl ?_
  refine g_putI 10 rfl ha (Nat.le_of_ble_eq_true rfl) (Nat.le_of_ble_eq_true rfl) rfl fs_5_4 rfl ?_
  refine g_lconst (v := 0) 11 rfl rfl rfl ?_
  refine g_lstore_n 12 [(3, .long 0), (0, .ref a), (1, .ref x1), (2, .int x2)] rfl (Nat.le_of_ble_eq_true rfl) rfl rfl ?_
  refine g_bipush (v := 100) 14 rfl (by decide) rfl ?_
  refine g_istore 16 [(5, .int 100), (3, .long 0), (0, .ref a), (1, .ref x1), (2, .int x2)] rfl (Nat.le_of_ble_eq_true rfl) rfl rfl ?_
  exact g_sub (Sc rfl (Sc rfl (Sc rfl (Sc rfl (Sc rfl (Sn _)))))) (F_78_16 d _ a ha x1 hx1 x2 0 100 _ _ h)

def f_80 (a : Nat) (U : sU) : Int32 :=
  if (U.1 a 1) = 1 then
    1
  else
    0
set_option maxRecDepth 10000 in
set_option maxHeartbeats 2000000 in
theorem F_80 (d : Nat) (a : Nat) (ha : sh a = 6) (U : sU) : Rn (d + 0) sm_I80 [.ref a] U (some (.int (f_80 a U))) U := by
  refine Rn_of [(0, .ref a)] (Nat.le_of_ble_eq_true rfl) (Sc rfl (Sn _)) ?_
  generalize h : f_80 a U = r
  first | rw [f_80] at h | rw [f_80.eq_def] at h
  refine g_aload_n 1 rfl rfl rfl ?_
  refine g_get 4 rfl ha (Nat.le_of_ble_eq_true rfl) rfl rfl ?_
  refine g_iconst (v := 1) 5 rfl rfl rfl ?_
  refine g_icmp_ne 12 8 rfl rfl (fun c1 => ?_) (fun c1 => ?_)
  · rw [if_neg c1] at h
    refine g_iconst (v := 0) 13 rfl rfl rfl ?_
    subst h
    exact g_zret rfl rfl (Or.inl rfl)
  · rw [if_pos c1] at h
    refine g_iconst (v := 1) 9 rfl rfl rfl ?_
    refine g_goto 13 rfl ?_
    subst h
    exact g_zret rfl rfl (Or.inr rfl)

def f_81 (a : Nat) (U : sU) : Int32 :=
  if (U.1 a 1) = 2 then
    1
  else
    0
set_option maxRecDepth 10000 in
set_option maxHeartbeats 2000000 in
theorem F_81 (d : Nat) (a : Nat) (ha : sh a = 6) (U : sU) : Rn (d + 0) sm_I81 [.ref a] U (some (.int (f_81 a U))) U := by
  refine Rn_of [(0, .ref a)] (Nat.le_of_ble_eq_true rfl) (Sc rfl (Sn _)) ?_
  generalize h : f_81 a U = r
  first | rw [f_81] at h | rw [f_81.eq_def] at h
  refine g_aload_n 1 rfl rfl rfl ?_
  refine g_get 4 rfl ha (Nat.le_of_ble_eq_true rfl) rfl rfl ?_
  refine g_iconst (v := 2) 5 rfl rfl rfl ?_
  refine g_icmp_ne 12 8 rfl rfl (fun c1 => ?_) (fun c1 => ?_)
  · rw [if_neg c1] at h
    refine g_iconst (v := 0) 13 rfl rfl rfl ?_
    subst h
    exact g_zret rfl rfl (Or.inl rfl)
  · rw [if_pos c1] at h
    refine g_iconst (v := 1) 9 rfl rfl rfl ?_
    refine g_goto 13 rfl ?_
    subst h
    exact g_zret rfl rfl (Or.inr rfl)

def f_84 (a : Nat) (x1 : Int32) (U : sU) : sU :=
  sI (sI (f_83 a U) a 1 2) a 4 x1
set_option maxRecDepth 10000 in
set_option maxHeartbeats 2000000 in
theorem F_84 (d : Nat) (a : Nat) (ha : sh a = 6) (x1 : Int32) (U : sU) : Rn (d + 1) sm_I84 [.ref a, .int x1] U none (f_84 a x1 U) := by
  refine Rn_of [(0, .ref a), (1, .int x1)] (Nat.le_of_ble_eq_true rfl) (Sc rfl (Sc rfl (Sn _))) ?_
  generalize h : f_84 a x1 U = U'
  first | rw [f_84] at h | rw [f_84.eq_def] at h
  refine g_aload_n 1 rfl rfl rfl ?_
  refine g_callV (J := sm_I83) 4 rfl (Nat.le_of_ble_eq_true rfl) rfl rfl (Nat.le_of_ble_eq_true rfl) ha (Nat.le_of_ble_eq_true rfl) (Nat.le_of_ble_eq_true rfl) rfl rfl (F_83 d a ha U) ?_
  refine g_aload_n 5 rfl rfl rfl ?_
  refine g_iconst (v := 2) 6 rfl rfl rfl ?_
  refine g_putI 9 rfl ha (Nat.le_of_ble_eq_true rfl) (Nat.le_of_ble_eq_true rfl) rfl fs_6_1 rfl ?_
  refine g_aload_n 10 rfl rfl rfl ?_
  refine g_iload_n 11 rfl rfl rfl ?_
  refine g_putI 14 rfl ha (Nat.le_of_ble_eq_true rfl) (Nat.le_of_ble_eq_true rfl) rfl fs_6_4 rfl ?_
  subst h
  exact g_vret rfl rfl

def f_91 (a : Nat) (x1 : Nat) (x2 : Int32) (x3 : Int32) (x4 : Int32) (U : sU) : Option sU :=
  if (f_86 x1 x2 x4 U) = 0 then
    some U
  else
    if (f_86 a x3 x4 U) = 0 then
      some U
    else
      if ¬ x2 < 0 ∧ ¬ x3 < 0 ∧ ¬ x4 < 0 ∧ x2.toNatClampNeg + x4.toNatClampNeg ≤ ln (x1 + 1) ∧ x3.toNatClampNeg + x4.toNatClampNeg ≤ ln (a + 1) then
      some (sCpy U (x1 + 1) (a + 1) x2.toNatClampNeg x3.toNatClampNeg x4.toNatClampNeg)
      else none
set_option maxRecDepth 10000 in
set_option maxHeartbeats 2000000 in
theorem F_91 (d : Nat) (a : Nat) (ha : sh a = 6) (x1 : Nat) (hx1 : sh x1 = 6) (x2 : Int32) (x3 : Int32) (x4 : Int32) {U : sU} {U' : sU} (h : f_91 a x1 x2 x3 x4 U = some U') : Rn (d + 1) sm_I91 [.ref a, .ref x1, .int x2, .int x3, .int x4] U none U' := by
  refine Rn_of [(0, .ref a), (1, .ref x1), (2, .int x2), (3, .int x3), (4, .int x4)] (Nat.le_of_ble_eq_true rfl) (Sc rfl (Sc rfl (Sc rfl (Sc rfl (Sc rfl (Sn _)))))) ?_
  first | rw [f_91] at h | rw [f_91.eq_def] at h
  refine g_aload_n 1 rfl rfl rfl ?_
  refine g_iload_n 2 rfl rfl rfl ?_
  refine g_iload 4 rfl rfl rfl ?_
  have r1 := F_86 d x1 hx1 x2 x4 U
  refine g_callV (J := sm_I86) 7 rfl (Nat.le_of_ble_eq_true rfl) rfl rfl (Nat.le_of_ble_eq_true rfl) hx1 (Nat.le_of_ble_eq_true rfl) (Nat.le_of_ble_eq_true rfl) rfl rfl r1 ?_
  refine g_if_eq 35 10 rfl rfl (fun c2 => ?_) (fun c2 => ?_)
  · rw [if_pos c2] at h
    cases h
    exact g_vret rfl rfl
  · rw [if_neg c2] at h
    refine g_aload_n 11 rfl rfl rfl ?_
    refine g_iload_n 12 rfl rfl rfl ?_
    refine g_iload 14 rfl rfl rfl ?_
    have r3 := F_86 d a ha x3 x4 U
    refine g_callV (J := sm_I86) 17 rfl (Nat.le_of_ble_eq_true rfl) rfl rfl (Nat.le_of_ble_eq_true rfl) ha (Nat.le_of_ble_eq_true rfl) (Nat.le_of_ble_eq_true rfl) rfl rfl r3 ?_
    refine g_if_eq 35 20 rfl rfl (fun c4 => ?_) (fun c4 => ?_)
    · rw [if_pos c4] at h
      cases h
      exact g_vret rfl rfl
    · rw [if_neg c4] at h
      refine g_aload_n 21 rfl rfl rfl ?_
      refine g_get 24 rfl hx1 (Nat.le_of_ble_eq_true rfl) rfl rfl ?_
      refine g_iload_n 25 rfl rfl rfl ?_
      refine g_aload_n 26 rfl rfl rfl ?_
      refine g_get 29 rfl ha (Nat.le_of_ble_eq_true rfl) rfl rfl ?_
      refine g_iload_n 30 rfl rfl rfl ?_
      refine g_iload 32 rfl rfl rfl ?_
      by_cases y5 : ¬ x2 < 0 ∧ ¬ x3 < 0 ∧ ¬ x4 < 0 ∧ x2.toNatClampNeg + x4.toNatClampNeg ≤ ln (x1 + 1) ∧ x3.toNatClampNeg + x4.toNatClampNeg ≤ ln (a + 1)
      case neg => rw [if_neg y5] at h; cases h
      rw [if_pos y5] at h
      refine g_cpy (U1 := sCpy U (x1 + 1) (a + 1) x2.toNatClampNeg x3.toNatClampNeg x4.toNatClampNeg) 35 rfl (Nat.le_add_left _ _) (Nat.le_of_ble_eq_true rfl) (sh_6_1 hx1) (sh_6_1 ha) rfl rfl y5 rfl rfl ?_
      cases h
      exact g_vret rfl rfl

def f_100 (a : Nat) (x1 : Nat) (U : sU) : Option sU :=
  if ((sI (sI (sI (sI (sI (icpy (a + 3) (x1 + 3) (icpy (a + 1) (x1 + 1) U)) a 2 ((icpy (a + 3) (x1 + 3) (icpy (a + 1) (x1 + 1) U)).1 x1 2)) a 3 ((sI (icpy (a + 3) (x1 + 3) (icpy (a + 1) (x1 + 1) U)) a 2 ((icpy (a + 3) (x1 + 3) (icpy (a + 1) (x1 + 1) U)).1 x1 2)).1 x1 3)) a 4 ((sI (sI (icpy (a + 3) (x1 + 3) (icpy (a + 1) (x1 + 1) U)) a 2 ((icpy (a + 3) (x1 + 3) (icpy (a + 1) (x1 + 1) U)).1 x1 2)) a 3 ((sI (icpy (a + 3) (x1 + 3) (icpy (a + 1) (x1 + 1) U)) a 2 ((icpy (a + 3) (x1 + 3) (icpy (a + 1) (x1 + 1) U)).1 x1 2)).1 x1 3)).1 x1 4)) a 5 ((sI (sI (sI (icpy (a + 3) (x1 + 3) (icpy (a + 1) (x1 + 1) U)) a 2 ((icpy (a + 3) (x1 + 3) (icpy (a + 1) (x1 + 1) U)).1 x1 2)) a 3 ((sI (icpy (a + 3) (x1 + 3) (icpy (a + 1) (x1 + 1) U)) a 2 ((icpy (a + 3) (x1 + 3) (icpy (a + 1) (x1 + 1) U)).1 x1 2)).1 x1 3)) a 4 ((sI (sI (icpy (a + 3) (x1 + 3) (icpy (a + 1) (x1 + 1) U)) a 2 ((icpy (a + 3) (x1 + 3) (icpy (a + 1) (x1 + 1) U)).1 x1 2)) a 3 ((sI (icpy (a + 3) (x1 + 3) (icpy (a + 1) (x1 + 1) U)) a 2 ((icpy (a + 3) (x1 + 3) (icpy (a + 1) (x1 + 1) U)).1 x1 2)).1 x1 3)).1 x1 4)).1 x1 5)) a 6 ((sI (sI (sI (sI (icpy (a + 3) (x1 + 3) (icpy (a + 1) (x1 + 1) U)) a 2 ((icpy (a + 3) (x1 + 3) (icpy (a + 1) (x1 + 1) U)).1 x1 2)) a 3 ((sI (icpy (a + 3) (x1 + 3) (icpy (a + 1) (x1 + 1) U)) a 2 ((icpy (a + 3) (x1 + 3) (icpy (a + 1) (x1 + 1) U)).1 x1 2)).1 x1 3)) a 4 ((sI (sI (icpy (a + 3) (x1 + 3) (icpy (a + 1) (x1 + 1) U)) a 2 ((icpy (a + 3) (x1 + 3) (icpy (a + 1) (x1 + 1) U)).1 x1 2)) a 3 ((sI (icpy (a + 3) (x1 + 3) (icpy (a + 1) (x1 + 1) U)) a 2 ((icpy (a + 3) (x1 + 3) (icpy (a + 1) (x1 + 1) U)).1 x1 2)).1 x1 3)).1 x1 4)) a 5 ((sI (sI (sI (icpy (a + 3) (x1 + 3) (icpy (a + 1) (x1 + 1) U)) a 2 ((icpy (a + 3) (x1 + 3) (icpy (a + 1) (x1 + 1) U)).1 x1 2)) a 3 ((sI (icpy (a + 3) (x1 + 3) (icpy (a + 1) (x1 + 1) U)) a 2 ((icpy (a + 3) (x1 + 3) (icpy (a + 1) (x1 + 1) U)).1 x1 2)).1 x1 3)) a 4 ((sI (sI (icpy (a + 3) (x1 + 3) (icpy (a + 1) (x1 + 1) U)) a 2 ((icpy (a + 3) (x1 + 3) (icpy (a + 1) (x1 + 1) U)).1 x1 2)) a 3 ((sI (icpy (a + 3) (x1 + 3) (icpy (a + 1) (x1 + 1) U)) a 2 ((icpy (a + 3) (x1 + 3) (icpy (a + 1) (x1 + 1) U)).1 x1 2)).1 x1 3)).1 x1 4)).1 x1 5)).1 x1 6)).1 x1 7) = 0 ∨ ((sI (sI (sI (sI (sI (icpy (a + 3) (x1 + 3) (icpy (a + 1) (x1 + 1) U)) a 2 ((icpy (a + 3) (x1 + 3) (icpy (a + 1) (x1 + 1) U)).1 x1 2)) a 3 ((sI (icpy (a + 3) (x1 + 3) (icpy (a + 1) (x1 + 1) U)) a 2 ((icpy (a + 3) (x1 + 3) (icpy (a + 1) (x1 + 1) U)).1 x1 2)).1 x1 3)) a 4 ((sI (sI (icpy (a + 3) (x1 + 3) (icpy (a + 1) (x1 + 1) U)) a 2 ((icpy (a + 3) (x1 + 3) (icpy (a + 1) (x1 + 1) U)).1 x1 2)) a 3 ((sI (icpy (a + 3) (x1 + 3) (icpy (a + 1) (x1 + 1) U)) a 2 ((icpy (a + 3) (x1 + 3) (icpy (a + 1) (x1 + 1) U)).1 x1 2)).1 x1 3)).1 x1 4)) a 5 ((sI (sI (sI (icpy (a + 3) (x1 + 3) (icpy (a + 1) (x1 + 1) U)) a 2 ((icpy (a + 3) (x1 + 3) (icpy (a + 1) (x1 + 1) U)).1 x1 2)) a 3 ((sI (icpy (a + 3) (x1 + 3) (icpy (a + 1) (x1 + 1) U)) a 2 ((icpy (a + 3) (x1 + 3) (icpy (a + 1) (x1 + 1) U)).1 x1 2)).1 x1 3)) a 4 ((sI (sI (icpy (a + 3) (x1 + 3) (icpy (a + 1) (x1 + 1) U)) a 2 ((icpy (a + 3) (x1 + 3) (icpy (a + 1) (x1 + 1) U)).1 x1 2)) a 3 ((sI (icpy (a + 3) (x1 + 3) (icpy (a + 1) (x1 + 1) U)) a 2 ((icpy (a + 3) (x1 + 3) (icpy (a + 1) (x1 + 1) U)).1 x1 2)).1 x1 3)).1 x1 4)).1 x1 5)) a 6 ((sI (sI (sI (sI (icpy (a + 3) (x1 + 3) (icpy (a + 1) (x1 + 1) U)) a 2 ((icpy (a + 3) (x1 + 3) (icpy (a + 1) (x1 + 1) U)).1 x1 2)) a 3 ((sI (icpy (a + 3) (x1 + 3) (icpy (a + 1) (x1 + 1) U)) a 2 ((icpy (a + 3) (x1 + 3) (icpy (a + 1) (x1 + 1) U)).1 x1 2)).1 x1 3)) a 4 ((sI (sI (icpy (a + 3) (x1 + 3) (icpy (a + 1) (x1 + 1) U)) a 2 ((icpy (a + 3) (x1 + 3) (icpy (a + 1) (x1 + 1) U)).1 x1 2)) a 3 ((sI (icpy (a + 3) (x1 + 3) (icpy (a + 1) (x1 + 1) U)) a 2 ((icpy (a + 3) (x1 + 3) (icpy (a + 1) (x1 + 1) U)).1 x1 2)).1 x1 3)).1 x1 4)) a 5 ((sI (sI (sI (icpy (a + 3) (x1 + 3) (icpy (a + 1) (x1 + 1) U)) a 2 ((icpy (a + 3) (x1 + 3) (icpy (a + 1) (x1 + 1) U)).1 x1 2)) a 3 ((sI (icpy (a + 3) (x1 + 3) (icpy (a + 1) (x1 + 1) U)) a 2 ((icpy (a + 3) (x1 + 3) (icpy (a + 1) (x1 + 1) U)).1 x1 2)).1 x1 3)) a 4 ((sI (sI (icpy (a + 3) (x1 + 3) (icpy (a + 1) (x1 + 1) U)) a 2 ((icpy (a + 3) (x1 + 3) (icpy (a + 1) (x1 + 1) U)).1 x1 2)) a 3 ((sI (icpy (a + 3) (x1 + 3) (icpy (a + 1) (x1 + 1) U)) a 2 ((icpy (a + 3) (x1 + 3) (icpy (a + 1) (x1 + 1) U)).1 x1 2)).1 x1 3)).1 x1 4)).1 x1 5)).1 x1 6)).1 x1 7) = 1 then
  some (sI (sI (sI (sI (sI (sI (sI (sI (icpy (a + 3) (x1 + 3) (icpy (a + 1) (x1 + 1) U)) a 2 ((icpy (a + 3) (x1 + 3) (icpy (a + 1) (x1 + 1) U)).1 x1 2)) a 3 ((sI (icpy (a + 3) (x1 + 3) (icpy (a + 1) (x1 + 1) U)) a 2 ((icpy (a + 3) (x1 + 3) (icpy (a + 1) (x1 + 1) U)).1 x1 2)).1 x1 3)) a 4 ((sI (sI (icpy (a + 3) (x1 + 3) (icpy (a + 1) (x1 + 1) U)) a 2 ((icpy (a + 3) (x1 + 3) (icpy (a + 1) (x1 + 1) U)).1 x1 2)) a 3 ((sI (icpy (a + 3) (x1 + 3) (icpy (a + 1) (x1 + 1) U)) a 2 ((icpy (a + 3) (x1 + 3) (icpy (a + 1) (x1 + 1) U)).1 x1 2)).1 x1 3)).1 x1 4)) a 5 ((sI (sI (sI (icpy (a + 3) (x1 + 3) (icpy (a + 1) (x1 + 1) U)) a 2 ((icpy (a + 3) (x1 + 3) (icpy (a + 1) (x1 + 1) U)).1 x1 2)) a 3 ((sI (icpy (a + 3) (x1 + 3) (icpy (a + 1) (x1 + 1) U)) a 2 ((icpy (a + 3) (x1 + 3) (icpy (a + 1) (x1 + 1) U)).1 x1 2)).1 x1 3)) a 4 ((sI (sI (icpy (a + 3) (x1 + 3) (icpy (a + 1) (x1 + 1) U)) a 2 ((icpy (a + 3) (x1 + 3) (icpy (a + 1) (x1 + 1) U)).1 x1 2)) a 3 ((sI (icpy (a + 3) (x1 + 3) (icpy (a + 1) (x1 + 1) U)) a 2 ((icpy (a + 3) (x1 + 3) (icpy (a + 1) (x1 + 1) U)).1 x1 2)).1 x1 3)).1 x1 4)).1 x1 5)) a 6 ((sI (sI (sI (sI (icpy (a + 3) (x1 + 3) (icpy (a + 1) (x1 + 1) U)) a 2 ((icpy (a + 3) (x1 + 3) (icpy (a + 1) (x1 + 1) U)).1 x1 2)) a 3 ((sI (icpy (a + 3) (x1 + 3) (icpy (a + 1) (x1 + 1) U)) a 2 ((icpy (a + 3) (x1 + 3) (icpy (a + 1) (x1 + 1) U)).1 x1 2)).1 x1 3)) a 4 ((sI (sI (icpy (a + 3) (x1 + 3) (icpy (a + 1) (x1 + 1) U)) a 2 ((icpy (a + 3) (x1 + 3) (icpy (a + 1) (x1 + 1) U)).1 x1 2)) a 3 ((sI (icpy (a + 3) (x1 + 3) (icpy (a + 1) (x1 + 1) U)) a 2 ((icpy (a + 3) (x1 + 3) (icpy (a + 1) (x1 + 1) U)).1 x1 2)).1 x1 3)).1 x1 4)) a 5 ((sI (sI (sI (icpy (a + 3) (x1 + 3) (icpy (a + 1) (x1 + 1) U)) a 2 ((icpy (a + 3) (x1 + 3) (icpy (a + 1) (x1 + 1) U)).1 x1 2)) a 3 ((sI (icpy (a + 3) (x1 + 3) (icpy (a + 1) (x1 + 1) U)) a 2 ((icpy (a + 3) (x1 + 3) (icpy (a + 1) (x1 + 1) U)).1 x1 2)).1 x1 3)) a 4 ((sI (sI (icpy (a + 3) (x1 + 3) (icpy (a + 1) (x1 + 1) U)) a 2 ((icpy (a + 3) (x1 + 3) (icpy (a + 1) (x1 + 1) U)).1 x1 2)) a 3 ((sI (icpy (a + 3) (x1 + 3) (icpy (a + 1) (x1 + 1) U)) a 2 ((icpy (a + 3) (x1 + 3) (icpy (a + 1) (x1 + 1) U)).1 x1 2)).1 x1 3)).1 x1 4)).1 x1 5)).1 x1 6)) a 7 ((sI (sI (sI (sI (sI (icpy (a + 3) (x1 + 3) (icpy (a + 1) (x1 + 1) U)) a 2 ((icpy (a + 3) (x1 + 3) (icpy (a + 1) (x1 + 1) U)).1 x1 2)) a 3 ((sI (icpy (a + 3) (x1 + 3) (icpy (a + 1) (x1 + 1) U)) a 2 ((icpy (a + 3) (x1 + 3) (icpy (a + 1) (x1 + 1) U)).1 x1 2)).1 x1 3)) a 4 ((sI (sI (icpy (a + 3) (x1 + 3) (icpy (a + 1) (x1 + 1) U)) a 2 ((icpy (a + 3) (x1 + 3) (icpy (a + 1) (x1 + 1) U)).1 x1 2)) a 3 ((sI (icpy (a + 3) (x1 + 3) (icpy (a + 1) (x1 + 1) U)) a 2 ((icpy (a + 3) (x1 + 3) (icpy (a + 1) (x1 + 1) U)).1 x1 2)).1 x1 3)).1 x1 4)) a 5 ((sI (sI (sI (icpy (a + 3) (x1 + 3) (icpy (a + 1) (x1 + 1) U)) a 2 ((icpy (a + 3) (x1 + 3) (icpy (a + 1) (x1 + 1) U)).1 x1 2)) a 3 ((sI (icpy (a + 3) (x1 + 3) (icpy (a + 1) (x1 + 1) U)) a 2 ((icpy (a + 3) (x1 + 3) (icpy (a + 1) (x1 + 1) U)).1 x1 2)).1 x1 3)) a 4 ((sI (sI (icpy (a + 3) (x1 + 3) (icpy (a + 1) (x1 + 1) U)) a 2 ((icpy (a + 3) (x1 + 3) (icpy (a + 1) (x1 + 1) U)).1 x1 2)) a 3 ((sI (icpy (a + 3) (x1 + 3) (icpy (a + 1) (x1 + 1) U)) a 2 ((icpy (a + 3) (x1 + 3) (icpy (a + 1) (x1 + 1) U)).1 x1 2)).1 x1 3)).1 x1 4)).1 x1 5)) a 6 ((sI (sI (sI (sI (icpy (a + 3) (x1 + 3) (icpy (a + 1) (x1 + 1) U)) a 2 ((icpy (a + 3) (x1 + 3) (icpy (a + 1) (x1 + 1) U)).1 x1 2)) a 3 ((sI (icpy (a + 3) (x1 + 3) (icpy (a + 1) (x1 + 1) U)) a 2 ((icpy (a + 3) (x1 + 3) (icpy (a + 1) (x1 + 1) U)).1 x1 2)).1 x1 3)) a 4 ((sI (sI (icpy (a + 3) (x1 + 3) (icpy (a + 1) (x1 + 1) U)) a 2 ((icpy (a + 3) (x1 + 3) (icpy (a + 1) (x1 + 1) U)).1 x1 2)) a 3 ((sI (icpy (a + 3) (x1 + 3) (icpy (a + 1) (x1 + 1) U)) a 2 ((icpy (a + 3) (x1 + 3) (icpy (a + 1) (x1 + 1) U)).1 x1 2)).1 x1 3)).1 x1 4)) a 5 ((sI (sI (sI (icpy (a + 3) (x1 + 3) (icpy (a + 1) (x1 + 1) U)) a 2 ((icpy (a + 3) (x1 + 3) (icpy (a + 1) (x1 + 1) U)).1 x1 2)) a 3 ((sI (icpy (a + 3) (x1 + 3) (icpy (a + 1) (x1 + 1) U)) a 2 ((icpy (a + 3) (x1 + 3) (icpy (a + 1) (x1 + 1) U)).1 x1 2)).1 x1 3)) a 4 ((sI (sI (icpy (a + 3) (x1 + 3) (icpy (a + 1) (x1 + 1) U)) a 2 ((icpy (a + 3) (x1 + 3) (icpy (a + 1) (x1 + 1) U)).1 x1 2)) a 3 ((sI (icpy (a + 3) (x1 + 3) (icpy (a + 1) (x1 + 1) U)) a 2 ((icpy (a + 3) (x1 + 3) (icpy (a + 1) (x1 + 1) U)).1 x1 2)).1 x1 3)).1 x1 4)).1 x1 5)).1 x1 6)).1 x1 7)) a 8 ((sI (sI (sI (sI (sI (sI (icpy (a + 3) (x1 + 3) (icpy (a + 1) (x1 + 1) U)) a 2 ((icpy (a + 3) (x1 + 3) (icpy (a + 1) (x1 + 1) U)).1 x1 2)) a 3 ((sI (icpy (a + 3) (x1 + 3) (icpy (a + 1) (x1 + 1) U)) a 2 ((icpy (a + 3) (x1 + 3) (icpy (a + 1) (x1 + 1) U)).1 x1 2)).1 x1 3)) a 4 ((sI (sI (icpy (a + 3) (x1 + 3) (icpy (a + 1) (x1 + 1) U)) a 2 ((icpy (a + 3) (x1 + 3) (icpy (a + 1) (x1 + 1) U)).1 x1 2)) a 3 ((sI (icpy (a + 3) (x1 + 3) (icpy (a + 1) (x1 + 1) U)) a 2 ((icpy (a + 3) (x1 + 3) (icpy (a + 1) (x1 + 1) U)).1 x1 2)).1 x1 3)).1 x1 4)) a 5 ((sI (sI (sI (icpy (a + 3) (x1 + 3) (icpy (a + 1) (x1 + 1) U)) a 2 ((icpy (a + 3) (x1 + 3) (icpy (a + 1) (x1 + 1) U)).1 x1 2)) a 3 ((sI (icpy (a + 3) (x1 + 3) (icpy (a + 1) (x1 + 1) U)) a 2 ((icpy (a + 3) (x1 + 3) (icpy (a + 1) (x1 + 1) U)).1 x1 2)).1 x1 3)) a 4 ((sI (sI (icpy (a + 3) (x1 + 3) (icpy (a + 1) (x1 + 1) U)) a 2 ((icpy (a + 3) (x1 + 3) (icpy (a + 1) (x1 + 1) U)).1 x1 2)) a 3 ((sI (icpy (a + 3) (x1 + 3) (icpy (a + 1) (x1 + 1) U)) a 2 ((icpy (a + 3) (x1 + 3) (icpy (a + 1) (x1 + 1) U)).1 x1 2)).1 x1 3)).1 x1 4)).1 x1 5)) a 6 ((sI (sI (sI (sI (icpy (a + 3) (x1 + 3) (icpy (a + 1) (x1 + 1) U)) a 2 ((icpy (a + 3) (x1 + 3) (icpy (a + 1) (x1 + 1) U)).1 x1 2)) a 3 ((sI (icpy (a + 3) (x1 + 3) (icpy (a + 1) (x1 + 1) U)) a 2 ((icpy (a + 3) (x1 + 3) (icpy (a + 1) (x1 + 1) U)).1 x1 2)).1 x1 3)) a 4 ((sI (sI (icpy (a + 3) (x1 + 3) (icpy (a + 1) (x1 + 1) U)) a 2 ((icpy (a + 3) (x1 + 3) (icpy (a + 1) (x1 + 1) U)).1 x1 2)) a 3 ((sI (icpy (a + 3) (x1 + 3) (icpy (a + 1) (x1 + 1) U)) a 2 ((icpy (a + 3) (x1 + 3) (icpy (a + 1) (x1 + 1) U)).1 x1 2)).1 x1 3)).1 x1 4)) a 5 ((sI (sI (sI (icpy (a + 3) (x1 + 3) (icpy (a + 1) (x1 + 1) U)) a 2 ((icpy (a + 3) (x1 + 3) (icpy (a + 1) (x1 + 1) U)).1 x1 2)) a 3 ((sI (icpy (a + 3) (x1 + 3) (icpy (a + 1) (x1 + 1) U)) a 2 ((icpy (a + 3) (x1 + 3) (icpy (a + 1) (x1 + 1) U)).1 x1 2)).1 x1 3)) a 4 ((sI (sI (icpy (a + 3) (x1 + 3) (icpy (a + 1) (x1 + 1) U)) a 2 ((icpy (a + 3) (x1 + 3) (icpy (a + 1) (x1 + 1) U)).1 x1 2)) a 3 ((sI (icpy (a + 3) (x1 + 3) (icpy (a + 1) (x1 + 1) U)) a 2 ((icpy (a + 3) (x1 + 3) (icpy (a + 1) (x1 + 1) U)).1 x1 2)).1 x1 3)).1 x1 4)).1 x1 5)).1 x1 6)) a 7 ((sI (sI (sI (sI (sI (icpy (a + 3) (x1 + 3) (icpy (a + 1) (x1 + 1) U)) a 2 ((icpy (a + 3) (x1 + 3) (icpy (a + 1) (x1 + 1) U)).1 x1 2)) a 3 ((sI (icpy (a + 3) (x1 + 3) (icpy (a + 1) (x1 + 1) U)) a 2 ((icpy (a + 3) (x1 + 3) (icpy (a + 1) (x1 + 1) U)).1 x1 2)).1 x1 3)) a 4 ((sI (sI (icpy (a + 3) (x1 + 3) (icpy (a + 1) (x1 + 1) U)) a 2 ((icpy (a + 3) (x1 + 3) (icpy (a + 1) (x1 + 1) U)).1 x1 2)) a 3 ((sI (icpy (a + 3) (x1 + 3) (icpy (a + 1) (x1 + 1) U)) a 2 ((icpy (a + 3) (x1 + 3) (icpy (a + 1) (x1 + 1) U)).1 x1 2)).1 x1 3)).1 x1 4)) a 5 ((sI (sI (sI (icpy (a + 3) (x1 + 3) (icpy (a + 1) (x1 + 1) U)) a 2 ((icpy (a + 3) (x1 + 3) (icpy (a + 1) (x1 + 1) U)).1 x1 2)) a 3 ((sI (icpy (a + 3) (x1 + 3) (icpy (a + 1) (x1 + 1) U)) a 2 ((icpy (a + 3) (x1 + 3) (icpy (a + 1) (x1 + 1) U)).1 x1 2)).1 x1 3)) a 4 ((sI (sI (icpy (a + 3) (x1 + 3) (icpy (a + 1) (x1 + 1) U)) a 2 ((icpy (a + 3) (x1 + 3) (icpy (a + 1) (x1 + 1) U)).1 x1 2)) a 3 ((sI (icpy (a + 3) (x1 + 3) (icpy (a + 1) (x1 + 1) U)) a 2 ((icpy (a + 3) (x1 + 3) (icpy (a + 1) (x1 + 1) U)).1 x1 2)).1 x1 3)).1 x1 4)).1 x1 5)) a 6 ((sI (sI (sI (sI (icpy (a + 3) (x1 + 3) (icpy (a + 1) (x1 + 1) U)) a 2 ((icpy (a + 3) (x1 + 3) (icpy (a + 1) (x1 + 1) U)).1 x1 2)) a 3 ((sI (icpy (a + 3) (x1 + 3) (icpy (a + 1) (x1 + 1) U)) a 2 ((icpy (a + 3) (x1 + 3) (icpy (a + 1) (x1 + 1) U)).1 x1 2)).1 x1 3)) a 4 ((sI (sI (icpy (a + 3) (x1 + 3) (icpy (a + 1) (x1 + 1) U)) a 2 ((icpy (a + 3) (x1 + 3) (icpy (a + 1) (x1 + 1) U)).1 x1 2)) a 3 ((sI (icpy (a + 3) (x1 + 3) (icpy (a + 1) (x1 + 1) U)) a 2 ((icpy (a + 3) (x1 + 3) (icpy (a + 1) (x1 + 1) U)).1 x1 2)).1 x1 3)).1 x1 4)) a 5 ((sI (sI (sI (icpy (a + 3) (x1 + 3) (icpy (a + 1) (x1 + 1) U)) a 2 ((icpy (a + 3) (x1 + 3) (icpy (a + 1) (x1 + 1) U)).1 x1 2)) a 3 ((sI (icpy (a + 3) (x1 + 3) (icpy (a + 1) (x1 + 1) U)) a 2 ((icpy (a + 3) (x1 + 3) (icpy (a + 1) (x1 + 1) U)).1 x1 2)).1 x1 3)) a 4 ((sI (sI (icpy (a + 3) (x1 + 3) (icpy (a + 1) (x1 + 1) U)) a 2 ((icpy (a + 3) (x1 + 3) (icpy (a + 1) (x1 + 1) U)).1 x1 2)) a 3 ((sI (icpy (a + 3) (x1 + 3) (icpy (a + 1) (x1 + 1) U)) a 2 ((icpy (a + 3) (x1 + 3) (icpy (a + 1) (x1 + 1) U)).1 x1 2)).1 x1 3)).1 x1 4)).1 x1 5)).1 x1 6)).1 x1 7)).1 x1 8)) a 9 ((sI (sI (sI (sI (sI (sI (sI (icpy (a + 3) (x1 + 3) (icpy (a + 1) (x1 + 1) U)) a 2 ((icpy (a + 3) (x1 + 3) (icpy (a + 1) (x1 + 1) U)).1 x1 2)) a 3 ((sI (icpy (a + 3) (x1 + 3) (icpy (a + 1) (x1 + 1) U)) a 2 ((icpy (a + 3) (x1 + 3) (icpy (a + 1) (x1 + 1) U)).1 x1 2)).1 x1 3)) a 4 ((sI (sI (icpy (a + 3) (x1 + 3) (icpy (a + 1) (x1 + 1) U)) a 2 ((icpy (a + 3) (x1 + 3) (icpy (a + 1) (x1 + 1) U)).1 x1 2)) a 3 ((sI (icpy (a + 3) (x1 + 3) (icpy (a + 1) (x1 + 1) U)) a 2 ((icpy (a + 3) (x1 + 3) (icpy (a + 1) (x1 + 1) U)).1 x1 2)).1 x1 3)).1 x1 4)) a 5 ((sI (sI (sI (icpy (a + 3) (x1 + 3) (icpy (a + 1) (x1 + 1) U)) a 2 ((icpy (a + 3) (x1 + 3) (icpy (a + 1) (x1 + 1) U)).1 x1 2)) a 3 ((sI (icpy (a + 3) (x1 + 3) (icpy (a + 1) (x1 + 1) U)) a 2 ((icpy (a + 3) (x1 + 3) (icpy (a + 1) (x1 + 1) U)).1 x1 2)).1 x1 3)) a 4 ((sI (sI (icpy (a + 3) (x1 + 3) (icpy (a + 1) (x1 + 1) U)) a 2 ((icpy (a + 3) (x1 + 3) (icpy (a + 1) (x1 + 1) U)).1 x1 2)) a 3 ((sI (icpy (a + 3) (x1 + 3) (icpy (a + 1) (x1 + 1) U)) a 2 ((icpy (a + 3) (x1 + 3) (icpy (a + 1) (x1 + 1) U)).1 x1 2)).1 x1 3)).1 x1 4)).1 x1 5)) a 6 ((sI (sI (sI (sI (icpy (a + 3) (x1 + 3) (icpy (a + 1) (x1 + 1) U)) a 2 ((icpy (a + 3) (x1 + 3) (icpy (a + 1) (x1 + 1) U)).1 x1 2)) a 3 ((sI (icpy (a + 3) (x1 + 3) (icpy (a + 1) (x1 + 1) U)) a 2 ((icpy (a + 3) (x1 + 3) (icpy (a + 1) (x1 + 1) U)).1 x1 2)).1 x1 3)) a 4 ((sI (sI (icpy (a + 3) (x1 + 3) (icpy (a + 1) (x1 + 1) U)) a 2 ((icpy (a + 3) (x1 + 3) (icpy (a + 1) (x1 + 1) U)).1 x1 2)) a 3 ((sI (icpy (a + 3) (x1 + 3) (icpy (a + 1) (x1 + 1) U)) a 2 ((icpy (a + 3) (x1 + 3) (icpy (a + 1) (x1 + 1) U)).1 x1 2)).1 x1 3)).1 x1 4)) a 5 ((sI (sI (sI (icpy (a + 3) (x1 + 3) (icpy (a + 1) (x1 + 1) U)) a 2 ((icpy (a + 3) (x1 + 3) (icpy (a + 1) (x1 + 1) U)).1 x1 2)) a 3 ((sI (icpy (a + 3) (x1 + 3) (icpy (a + 1) (x1 + 1) U)) a 2 ((icpy (a + 3) (x1 + 3) (icpy (a + 1) (x1 + 1) U)).1 x1 2)).1 x1 3)) a 4 ((sI (sI (icpy (a + 3) (x1 + 3) (icpy (a + 1) (x1 + 1) U)) a 2 ((icpy (a + 3) (x1 + 3) (icpy (a + 1) (x1 + 1) U)).1 x1 2)) a 3 ((sI (icpy (a + 3) (x1 + 3) (icpy (a + 1) (x1 + 1) U)) a 2 ((icpy (a + 3) (x1 + 3) (icpy (a + 1) (x1 + 1) U)).1 x1 2)).1 x1 3)).1 x1 4)).1 x1 5)).1 x1 6)) a 7 ((sI (sI (sI (sI (sI (icpy (a + 3) (x1 + 3) (icpy (a + 1) (x1 + 1) U)) a 2 ((icpy (a + 3) (x1 + 3) (icpy (a + 1) (x1 + 1) U)).1 x1 2)) a 3 ((sI (icpy (a + 3) (x1 + 3) (icpy (a + 1) (x1 + 1) U)) a 2 ((icpy (a + 3) (x1 + 3) (icpy (a + 1) (x1 + 1) U)).1 x1 2)).1 x1 3)) a 4 ((sI (sI (icpy (a + 3) (x1 + 3) (icpy (a + 1) (x1 + 1) U)) a 2 ((icpy (a + 3) (x1 + 3) (icpy (a + 1) (x1 + 1) U)).1 x1 2)) a 3 ((sI (icpy (a + 3) (x1 + 3) (icpy (a + 1) (x1 + 1) U)) a 2 ((icpy (a + 3) (x1 + 3) (icpy (a + 1) (x1 + 1) U)).1 x1 2)).1 x1 3)).1 x1 4)) a 5 ((sI (sI (sI (icpy (a + 3) (x1 + 3) (icpy (a + 1) (x1 + 1) U)) a 2 ((icpy (a + 3) (x1 + 3) (icpy (a + 1) (x1 + 1) U)).1 x1 2)) a 3 ((sI (icpy (a + 3) (x1 + 3) (icpy (a + 1) (x1 + 1) U)) a 2 ((icpy (a + 3) (x1 + 3) (icpy (a + 1) (x1 + 1) U)).1 x1 2)).1 x1 3)) a 4 ((sI (sI (icpy (a + 3) (x1 + 3) (icpy (a + 1) (x1 + 1) U)) a 2 ((icpy (a + 3) (x1 + 3) (icpy (a + 1) (x1 + 1) U)).1 x1 2)) a 3 ((sI (icpy (a + 3) (x1 + 3) (icpy (a + 1) (x1 + 1) U)) a 2 ((icpy (a + 3) (x1 + 3) (icpy (a + 1) (x1 + 1) U)).1 x1 2)).1 x1 3)).1 x1 4)).1 x1 5)) a 6 ((sI (sI (sI (sI (icpy (a + 3) (x1 + 3) (icpy (a + 1) (x1 + 1) U)) a 2 ((icpy (a + 3) (x1 + 3) (icpy (a + 1) (x1 + 1) U)).1 x1 2)) a 3 ((sI (icpy (a + 3) (x1 + 3) (icpy (a + 1) (x1 + 1) U)) a 2 ((icpy (a + 3) (x1 + 3) (icpy (a + 1) (x1 + 1) U)).1 x1 2)).1 x1 3)) a 4 ((sI (sI (icpy (a + 3) (x1 + 3) (icpy (a + 1) (x1 + 1) U)) a 2 ((icpy (a + 3) (x1 + 3) (icpy (a + 1) (x1 + 1) U)).1 x1 2)) a 3 ((sI (icpy (a + 3) (x1 + 3) (icpy (a + 1) (x1 + 1) U)) a 2 ((icpy (a + 3) (x1 + 3) (icpy (a + 1) (x1 + 1) U)).1 x1 2)).1 x1 3)).1 x1 4)) a 5 ((sI (sI (sI (icpy (a + 3) (x1 + 3) (icpy (a + 1) (x1 + 1) U)) a 2 ((icpy (a + 3) (x1 + 3) (icpy (a + 1) (x1 + 1) U)).1 x1 2)) a 3 ((sI (icpy (a + 3) (x1 + 3) (icpy (a + 1) (x1 + 1) U)) a 2 ((icpy (a + 3) (x1 + 3) (icpy (a + 1) (x1 + 1) U)).1 x1 2)).1 x1 3)) a 4 ((sI (sI (icpy (a + 3) (x1 + 3) (icpy (a + 1) (x1 + 1) U)) a 2 ((icpy (a + 3) (x1 + 3) (icpy (a + 1) (x1 + 1) U)).1 x1 2)) a 3 ((sI (icpy (a + 3) (x1 + 3) (icpy (a + 1) (x1 + 1) U)) a 2 ((icpy (a + 3) (x1 + 3) (icpy (a + 1) (x1 + 1) U)).1 x1 2)).1 x1 3)).1 x1 4)).1 x1 5)).1 x1 6)).1 x1 7)) a 8 ((sI (sI (sI (sI (sI (sI (icpy (a + 3) (x1 + 3) (icpy (a + 1) (x1 + 1) U)) a 2 ((icpy (a + 3) (x1 + 3) (icpy (a + 1) (x1 + 1) U)).1 x1 2)) a 3 ((sI (icpy (a + 3) (x1 + 3) (icpy (a + 1) (x1 + 1) U)) a 2 ((icpy (a + 3) (x1 + 3) (icpy (a + 1) (x1 + 1) U)).1 x1 2)).1 x1 3)) a 4 ((sI (sI (icpy (a + 3) (x1 + 3) (icpy (a + 1) (x1 + 1) U)) a 2 ((icpy (a + 3) (x1 + 3) (icpy (a + 1) (x1 + 1) U)).1 x1 2)) a 3 ((sI (icpy (a + 3) (x1 + 3) (icpy (a + 1) (x1 + 1) U)) a 2 ((icpy (a + 3) (x1 + 3) (icpy (a + 1) (x1 + 1) U)).1 x1 2)).1 x1 3)).1 x1 4)) a 5 ((sI (sI (sI (icpy (a + 3) (x1 + 3) (icpy (a + 1) (x1 + 1) U)) a 2 ((icpy (a + 3) (x1 + 3) (icpy (a + 1) (x1 + 1) U)).1 x1 2)) a 3 ((sI (icpy (a + 3) (x1 + 3) (icpy (a + 1) (x1 + 1) U)) a 2 ((icpy (a + 3) (x1 + 3) (icpy (a + 1) (x1 + 1) U)).1 x1 2)).1 x1 3)) a 4 ((sI (sI (icpy (a + 3) (x1 + 3) (icpy (a + 1) (x1 + 1) U)) a 2 ((icpy (a + 3) (x1 + 3) (icpy (a + 1) (x1 + 1) U)).1 x1 2)) a 3 ((sI (icpy (a + 3) (x1 + 3) (icpy (a + 1) (x1 + 1) U)) a 2 ((icpy (a + 3) (x1 + 3) (icpy (a + 1) (x1 + 1) U)).1 x1 2)).1 x1 3)).1 x1 4)).1 x1 5)) a 6 ((sI (sI (sI (sI (icpy (a + 3) (x1 + 3) (icpy (a + 1) (x1 + 1) U)) a 2 ((icpy (a + 3) (x1 + 3) (icpy (a + 1) (x1 + 1) U)).1 x1 2)) a 3 ((sI (icpy (a + 3) (x1 + 3) (icpy (a + 1) (x1 + 1) U)) a 2 ((icpy (a + 3) (x1 + 3) (icpy (a + 1) (x1 + 1) U)).1 x1 2)).1 x1 3)) a 4 ((sI (sI (icpy (a + 3) (x1 + 3) (icpy (a + 1) (x1 + 1) U)) a 2 ((icpy (a + 3) (x1 + 3) (icpy (a + 1) (x1 + 1) U)).1 x1 2)) a 3 ((sI (icpy (a + 3) (x1 + 3) (icpy (a + 1) (x1 + 1) U)) a 2 ((icpy (a + 3) (x1 + 3) (icpy (a + 1) (x1 + 1) U)).1 x1 2)).1 x1 3)).1 x1 4)) a 5 ((sI (sI (sI (icpy (a + 3) (x1 + 3) (icpy (a + 1) (x1 + 1) U)) a 2 ((icpy (a + 3) (x1 + 3) (icpy (a + 1) (x1 + 1) U)).1 x1 2)) a 3 ((sI (icpy (a + 3) (x1 + 3) (icpy (a + 1) (x1 + 1) U)) a 2 ((icpy (a + 3) (x1 + 3) (icpy (a + 1) (x1 + 1) U)).1 x1 2)).1 x1 3)) a 4 ((sI (sI (icpy (a + 3) (x1 + 3) (icpy (a + 1) (x1 + 1) U)) a 2 ((icpy (a + 3) (x1 + 3) (icpy (a + 1) (x1 + 1) U)).1 x1 2)) a 3 ((sI (icpy (a + 3) (x1 + 3) (icpy (a + 1) (x1 + 1) U)) a 2 ((icpy (a + 3) (x1 + 3) (icpy (a + 1) (x1 + 1) U)).1 x1 2)).1 x1 3)).1 x1 4)).1 x1 5)).1 x1 6)) a 7 ((sI (sI (sI (sI (sI (icpy (a + 3) (x1 + 3) (icpy (a + 1) (x1 + 1) U)) a 2 ((icpy (a + 3) (x1 + 3) (icpy (a + 1) (x1 + 1) U)).1 x1 2)) a 3 ((sI (icpy (a + 3) (x1 + 3) (icpy (a + 1) (x1 + 1) U)) a 2 ((icpy (a + 3) (x1 + 3) (icpy (a + 1) (x1 + 1) U)).1 x1 2)).1 x1 3)) a 4 ((sI (sI (icpy (a + 3) (x1 + 3) (icpy (a + 1) (x1 + 1) U)) a 2 ((icpy (a + 3) (x1 + 3) (icpy (a + 1) (x1 + 1) U)).1 x1 2)) a 3 ((sI (icpy (a + 3) (x1 + 3) (icpy (a + 1) (x1 + 1) U)) a 2 ((icpy (a + 3) (x1 + 3) (icpy (a + 1) (x1 + 1) U)).1 x1 2)).1 x1 3)).1 x1 4)) a 5 ((sI (sI (sI (icpy (a + 3) (x1 + 3) (icpy (a + 1) (x1 + 1) U)) a 2 ((icpy (a + 3) (x1 + 3) (icpy (a + 1) (x1 + 1) U)).1 x1 2)) a 3 ((sI (icpy (a + 3) (x1 + 3) (icpy (a + 1) (x1 + 1) U)) a 2 ((icpy (a + 3) (x1 + 3) (icpy (a + 1) (x1 + 1) U)).1 x1 2)).1 x1 3)) a 4 ((sI (sI (icpy (a + 3) (x1 + 3) (icpy (a + 1) (x1 + 1) U)) a 2 ((icpy (a + 3) (x1 + 3) (icpy (a + 1) (x1 + 1) U)).1 x1 2)) a 3 ((sI (icpy (a + 3) (x1 + 3) (icpy (a + 1) (x1 + 1) U)) a 2 ((icpy (a + 3) (x1 + 3) (icpy (a + 1) (x1 + 1) U)).1 x1 2)).1 x1 3)).1 x1 4)).1 x1 5)) a 6 ((sI (sI (sI (sI (icpy (a + 3) (x1 + 3) (icpy (a + 1) (x1 + 1) U)) a 2 ((icpy (a + 3) (x1 + 3) (icpy (a + 1) (x1 + 1) U)).1 x1 2)) a 3 ((sI (icpy (a + 3) (x1 + 3) (icpy (a + 1) (x1 + 1) U)) a 2 ((icpy (a + 3) (x1 + 3) (icpy (a + 1) (x1 + 1) U)).1 x1 2)).1 x1 3)) a 4 ((sI (sI (icpy (a + 3) (x1 + 3) (icpy (a + 1) (x1 + 1) U)) a 2 ((icpy (a + 3) (x1 + 3) (icpy (a + 1) (x1 + 1) U)).1 x1 2)) a 3 ((sI (icpy (a + 3) (x1 + 3) (icpy (a + 1) (x1 + 1) U)) a 2 ((icpy (a + 3) (x1 + 3) (icpy (a + 1) (x1 + 1) U)).1 x1 2)).1 x1 3)).1 x1 4)) a 5 ((sI (sI (sI (icpy (a + 3) (x1 + 3) (icpy (a + 1) (x1 + 1) U)) a 2 ((icpy (a + 3) (x1 + 3) (icpy (a + 1) (x1 + 1) U)).1 x1 2)) a 3 ((sI (icpy (a + 3) (x1 + 3) (icpy (a + 1) (x1 + 1) U)) a 2 ((icpy (a + 3) (x1 + 3) (icpy (a + 1) (x1 + 1) U)).1 x1 2)).1 x1 3)) a 4 ((sI (sI (icpy (a + 3) (x1 + 3) (icpy (a + 1) (x1 + 1) U)) a 2 ((icpy (a + 3) (x1 + 3) (icpy (a + 1) (x1 + 1) U)).1 x1 2)) a 3 ((sI (icpy (a + 3) (x1 + 3) (icpy (a + 1) (x1 + 1) U)) a 2 ((icpy (a + 3) (x1 + 3) (icpy (a + 1) (x1 + 1) U)).1 x1 2)).1 x1 3)).1 x1 4)).1 x1 5)).1 x1 6)).1 x1 7)).1 x1 8)).1 x1 9))
  else none
set_option maxRecDepth 10000 in
set_option maxHeartbeats 2000000 in
theorem F_100 (d : Nat) (a : Nat) (ha : sh a = 8) (x1 : Nat) (hx1 : sh x1 = 8) {U : sU} {U' : sU} (h : f_100 a x1 U = some U') : Rn (d + 2) sm_I100 [.ref a, .ref x1] U none U' := by
  refine Rn_of [(0, .ref a), (1, .ref x1)] (Nat.le_of_ble_eq_true rfl) (Sc rfl (Sc rfl (Sn _))) ?_
  first | rw [f_100] at h | rw [f_100.eq_def] at h
  refine g_aload_n 1 rfl rfl rfl ?_
  refine g_get 4 rfl ha (Nat.le_of_ble_eq_true rfl) rfl rfl ?_
  refine g_aload_n 5 rfl rfl rfl ?_
  refine g_get 8 rfl hx1 (Nat.le_of_ble_eq_true rfl) rfl rfl ?_
  refine g_callV (J := sm_I12) 11 rfl (Nat.le_of_ble_eq_true rfl) rfl rfl (Nat.le_of_ble_eq_true rfl) (sh_8_1 ha) (Nat.le_of_ble_eq_true rfl) (Nat.le_of_ble_eq_true rfl) rfl rfl (U_12 d (a + 1) (sh_8_1 ha) (x1 + 1) (sh_8_1 hx1) U) ?_
  refine g_aload_n 12 rfl rfl rfl ?_
  refine g_get 15 rfl ha (Nat.le_of_ble_eq_true rfl) rfl rfl ?_
  refine g_aload_n 16 rfl rfl rfl ?_
  refine g_get 19 rfl hx1 (Nat.le_of_ble_eq_true rfl) rfl rfl ?_
  refine g_callV (J := sm_I12) 22 rfl (Nat.le_of_ble_eq_true rfl) rfl rfl (Nat.le_of_ble_eq_true rfl) (sh_8_3 ha) (Nat.le_of_ble_eq_true rfl) (Nat.le_of_ble_eq_true rfl) rfl rfl (U_12 d (a + 3) (sh_8_3 ha) (x1 + 3) (sh_8_3 hx1) (icpy (a + 1) (x1 + 1) U)) ?_
  refine g_aload_n 23 rfl rfl rfl ?_
  refine g_aload_n 24 rfl rfl rfl ?_
  refine g_get 27 rfl hx1 (Nat.le_of_ble_eq_true rfl) rfl rfl ?_
  refine g_putI 30 rfl ha (Nat.le_of_ble_eq_true rfl) (Nat.le_of_ble_eq_true rfl) rfl fs_8_2 rfl ?_
  refine g_aload_n 31 rfl rfl rfl ?_
  refine g_aload_n 32 rfl rfl rfl ?_
  refine g_get 35 rfl hx1 (Nat.le_of_ble_eq_true rfl) rfl rfl ?_
  refine g_putI 38 rfl ha (Nat.le_of_ble_eq_true rfl) (Nat.le_of_ble_eq_true rfl) rfl fs_8_3 rfl ?_
  refine g_aload_n 39 rfl rfl rfl ?_
  refine g_aload_n 40 rfl rfl rfl ?_
  refine g_get 43 rfl hx1 (Nat.le_of_ble_eq_true rfl) rfl rfl ?_
  refine g_putI 46 rfl ha (Nat.le_of_ble_eq_true rfl) (Nat.le_of_ble_eq_true rfl) rfl fs_8_4 rfl ?_
  refine g_aload_n 47 rfl rfl rfl ?_
  refine g_aload_n 48 rfl rfl rfl ?_
  refine g_get 51 rfl hx1 (Nat.le_of_ble_eq_true rfl) rfl rfl ?_
  refine g_putI 54 rfl ha (Nat.le_of_ble_eq_true rfl) (Nat.le_of_ble_eq_true rfl) rfl fs_8_5 rfl ?_
  refine g_aload_n 55 rfl rfl rfl ?_
  refine g_aload_n 56 rfl rfl rfl ?_
  refine g_get 59 rfl hx1 (Nat.le_of_ble_eq_true rfl) rfl rfl ?_
  refine g_putI 62 rfl ha (Nat.le_of_ble_eq_true rfl) (Nat.le_of_ble_eq_true rfl) rfl fs_8_6 rfl ?_
  refine g_aload_n 63 rfl rfl rfl ?_
  refine g_aload_n 64 rfl rfl rfl ?_
  refine g_get 67 rfl hx1 (Nat.le_of_ble_eq_true rfl) rfl rfl ?_
  by_cases b1 : ((sI (sI (sI (sI (sI (icpy (a + 3) (x1 + 3) (icpy (a + 1) (x1 + 1) U)) a 2 ((icpy (a + 3) (x1 + 3) (icpy (a + 1) (x1 + 1) U)).1 x1 2)) a 3 ((sI (icpy (a + 3) (x1 + 3) (icpy (a + 1) (x1 + 1) U)) a 2 ((icpy (a + 3) (x1 + 3) (icpy (a + 1) (x1 + 1) U)).1 x1 2)).1 x1 3)) a 4 ((sI (sI (icpy (a + 3) (x1 + 3) (icpy (a + 1) (x1 + 1) U)) a 2 ((icpy (a + 3) (x1 + 3) (icpy (a + 1) (x1 + 1) U)).1 x1 2)) a 3 ((sI (icpy (a + 3) (x1 + 3) (icpy (a + 1) (x1 + 1) U)) a 2 ((icpy (a + 3) (x1 + 3) (icpy (a + 1) (x1 + 1) U)).1 x1 2)).1 x1 3)).1 x1 4)) a 5 ((sI (sI (sI (icpy (a + 3) (x1 + 3) (icpy (a + 1) (x1 + 1) U)) a 2 ((icpy (a + 3) (x1 + 3) (icpy (a + 1) (x1 + 1) U)).1 x1 2)) a 3 ((sI (icpy (a + 3) (x1 + 3) (icpy (a + 1) (x1 + 1) U)) a 2 ((icpy (a + 3) (x1 + 3) (icpy (a + 1) (x1 + 1) U)).1 x1 2)).1 x1 3)) a 4 ((sI (sI (icpy (a + 3) (x1 + 3) (icpy (a + 1) (x1 + 1) U)) a 2 ((icpy (a + 3) (x1 + 3) (icpy (a + 1) (x1 + 1) U)).1 x1 2)) a 3 ((sI (icpy (a + 3) (x1 + 3) (icpy (a + 1) (x1 + 1) U)) a 2 ((icpy (a + 3) (x1 + 3) (icpy (a + 1) (x1 + 1) U)).1 x1 2)).1 x1 3)).1 x1 4)).1 x1 5)) a 6 ((sI (sI (sI (sI (icpy (a + 3) (x1 + 3) (icpy (a + 1) (x1 + 1) U)) a 2 ((icpy (a + 3) (x1 + 3) (icpy (a + 1) (x1 + 1) U)).1 x1 2)) a 3 ((sI (icpy (a + 3) (x1 + 3) (icpy (a + 1) (x1 + 1) U)) a 2 ((icpy (a + 3) (x1 + 3) (icpy (a + 1) (x1 + 1) U)).1 x1 2)).1 x1 3)) a 4 ((sI (sI (icpy (a + 3) (x1 + 3) (icpy (a + 1) (x1 + 1) U)) a 2 ((icpy (a + 3) (x1 + 3) (icpy (a + 1) (x1 + 1) U)).1 x1 2)) a 3 ((sI (icpy (a + 3) (x1 + 3) (icpy (a + 1) (x1 + 1) U)) a 2 ((icpy (a + 3) (x1 + 3) (icpy (a + 1) (x1 + 1) U)).1 x1 2)).1 x1 3)).1 x1 4)) a 5 ((sI (sI (sI (icpy (a + 3) (x1 + 3) (icpy (a + 1) (x1 + 1) U)) a 2 ((icpy (a + 3) (x1 + 3) (icpy (a + 1) (x1 + 1) U)).1 x1 2)) a 3 ((sI (icpy (a + 3) (x1 + 3) (icpy (a + 1) (x1 + 1) U)) a 2 ((icpy (a + 3) (x1 + 3) (icpy (a + 1) (x1 + 1) U)).1 x1 2)).1 x1 3)) a 4 ((sI (sI (icpy (a + 3) (x1 + 3) (icpy (a + 1) (x1 + 1) U)) a 2 ((icpy (a + 3) (x1 + 3) (icpy (a + 1) (x1 + 1) U)).1 x1 2)) a 3 ((sI (icpy (a + 3) (x1 + 3) (icpy (a + 1) (x1 + 1) U)) a 2 ((icpy (a + 3) (x1 + 3) (icpy (a + 1) (x1 + 1) U)).1 x1 2)).1 x1 3)).1 x1 4)).1 x1 5)).1 x1 6)).1 x1 7) = 0 ∨ ((sI (sI (sI (sI (sI (icpy (a + 3) (x1 + 3) (icpy (a + 1) (x1 + 1) U)) a 2 ((icpy (a + 3) (x1 + 3) (icpy (a + 1) (x1 + 1) U)).1 x1 2)) a 3 ((sI (icpy (a + 3) (x1 + 3) (icpy (a + 1) (x1 + 1) U)) a 2 ((icpy (a + 3) (x1 + 3) (icpy (a + 1) (x1 + 1) U)).1 x1 2)).1 x1 3)) a 4 ((sI (sI (icpy (a + 3) (x1 + 3) (icpy (a + 1) (x1 + 1) U)) a 2 ((icpy (a + 3) (x1 + 3) (icpy (a + 1) (x1 + 1) U)).1 x1 2)) a 3 ((sI (icpy (a + 3) (x1 + 3) (icpy (a + 1) (x1 + 1) U)) a 2 ((icpy (a + 3) (x1 + 3) (icpy (a + 1) (x1 + 1) U)).1 x1 2)).1 x1 3)).1 x1 4)) a 5 ((sI (sI (sI (icpy (a + 3) (x1 + 3) (icpy (a + 1) (x1 + 1) U)) a 2 ((icpy (a + 3) (x1 + 3) (icpy (a + 1) (x1 + 1) U)).1 x1 2)) a 3 ((sI (icpy (a + 3) (x1 + 3) (icpy (a + 1) (x1 + 1) U)) a 2 ((icpy (a + 3) (x1 + 3) (icpy (a + 1) (x1 + 1) U)).1 x1 2)).1 x1 3)) a 4 ((sI (sI (icpy (a + 3) (x1 + 3) (icpy (a + 1) (x1 + 1) U)) a 2 ((icpy (a + 3) (x1 + 3) (icpy (a + 1) (x1 + 1) U)).1 x1 2)) a 3 ((sI (icpy (a + 3) (x1 + 3) (icpy (a + 1) (x1 + 1) U)) a 2 ((icpy (a + 3) (x1 + 3) (icpy (a + 1) (x1 + 1) U)).1 x1 2)).1 x1 3)).1 x1 4)).1 x1 5)) a 6 ((sI (sI (sI (sI (icpy (a + 3) (x1 + 3) (icpy (a + 1) (x1 + 1) U)) a 2 ((icpy (a + 3) (x1 + 3) (icpy (a + 1) (x1 + 1) U)).1 x1 2)) a 3 ((sI (icpy (a + 3) (x1 + 3) (icpy (a + 1) (x1 + 1) U)) a 2 ((icpy (a + 3) (x1 + 3) (icpy (a + 1) (x1 + 1) U)).1 x1 2)).1 x1 3)) a 4 ((sI (sI (icpy (a + 3) (x1 + 3) (icpy (a + 1) (x1 + 1) U)) a 2 ((icpy (a + 3) (x1 + 3) (icpy (a + 1) (x1 + 1) U)).1 x1 2)) a 3 ((sI (icpy (a + 3) (x1 + 3) (icpy (a + 1) (x1 + 1) U)) a 2 ((icpy (a + 3) (x1 + 3) (icpy (a + 1) (x1 + 1) U)).1 x1 2)).1 x1 3)).1 x1 4)) a 5 ((sI (sI (sI (icpy (a + 3) (x1 + 3) (icpy (a + 1) (x1 + 1) U)) a 2 ((icpy (a + 3) (x1 + 3) (icpy (a + 1) (x1 + 1) U)).1 x1 2)) a 3 ((sI (icpy (a + 3) (x1 + 3) (icpy (a + 1) (x1 + 1) U)) a 2 ((icpy (a + 3) (x1 + 3) (icpy (a + 1) (x1 + 1) U)).1 x1 2)).1 x1 3)) a 4 ((sI (sI (icpy (a + 3) (x1 + 3) (icpy (a + 1) (x1 + 1) U)) a 2 ((icpy (a + 3) (x1 + 3) (icpy (a + 1) (x1 + 1) U)).1 x1 2)) a 3 ((sI (icpy (a + 3) (x1 + 3) (icpy (a + 1) (x1 + 1) U)) a 2 ((icpy (a + 3) (x1 + 3) (icpy (a + 1) (x1 + 1) U)).1 x1 2)).1 x1 3)).1 x1 4)).1 x1 5)).1 x1 6)).1 x1 7) = 1
  case neg => rw [if_neg b1] at h; cases h
  rw [if_pos b1] at h
  refine g_putZ 70 rfl ha (Nat.le_of_ble_eq_true rfl) (Nat.le_of_ble_eq_true rfl) rfl b1 fs_8_7 rfl ?_
  refine g_aload_n 71 rfl rfl rfl ?_
  refine g_aload_n 72 rfl rfl rfl ?_
  refine g_get 75 rfl hx1 (Nat.le_of_ble_eq_true rfl) rfl rfl ?_
  refine g_putI 78 rfl ha (Nat.le_of_ble_eq_true rfl) (Nat.le_of_ble_eq_true rfl) rfl fs_8_8 rfl ?_
  refine g_aload_n 79 rfl rfl rfl ?_
  refine g_aload_n 80 rfl rfl rfl ?_
  refine g_get 83 rfl hx1 (Nat.le_of_ble_eq_true rfl) rfl rfl ?_
  refine g_putI 86 rfl ha (Nat.le_of_ble_eq_true rfl) (Nat.le_of_ble_eq_true rfl) rfl fs_8_9 rfl ?_
  cases h
  exact g_vret rfl rfl

def f_97_43 : Nat → Nat → Nat → Int32 → sU → Option sU
  | 0, _, _, _, _ => none
  | n + 1, a, v1, v2, U =>
    if (Int32.ofNat (ln (a + 2))) ≤ v2 then
      some (sI (sI U a 2 (U.1 v1 2)) a 3 ((sI U a 2 (U.1 v1 2)).1 v1 3))
    else
      if (Int32.ofNat (ln (v1 + 2))) ≤ v2 then
        some (sI (sI U a 2 (U.1 v1 2)) a 3 ((sI U a 2 (U.1 v1 2)).1 v1 3))
      else
        if ib v2 (ln (a + 2)) then
        if ib v2 (ln (v1 + 2)) then
        f_97_43 n a v1 (v2 + 1) (f_33 (rfA (a + 2) 13 v2.toNatClampNeg) (rfA (v1 + 2) 13 v2.toNatClampNeg) U)
        else none
        else none
set_option maxRecDepth 10000 in
set_option maxHeartbeats 2000000 in
theorem F_97_43 (d : Nat)   : ∀ (n : Nat) (a : Nat) (ha : sh a = 7) (v1 : Nat) (hv1 : sh v1 = 7) (v2 : Int32) (U : sU) (U' : sU), f_97_43 n a v1 v2 U = some U' → G (d + 3) sm_I97 43 [(0, .ref a), (1, .ref v1), (2, .int v2)] [] U none U' := by
  intro n
  induction n with
  | zero => intro a ha v1 hv1 v2 U U' h; cases h
  | succ n ih =>
    intro a ha v1 hv1 v2 U U' h
    first | rw [f_97_43] at h | (rw [f_97_43.eq_def] at h; dsimp only at h)
    refine g_iload_n 44 rfl rfl rfl ?_
    refine g_aload_n 45 rfl rfl rfl ?_
    refine g_get 48 rfl ha (Nat.le_of_ble_eq_true rfl) rfl rfl ?_
    refine g_alen 49 rfl (sh_7_2 ha) (by decide) rfl rfl ?_
    refine g_icmp_ge 82 52 rfl rfl (fun c1 => ?_) (fun c1 => ?_)
    · rw [if_pos c1] at h
      refine g_aload_n 83 rfl rfl rfl ?_
      refine g_aload_n 84 rfl rfl rfl ?_
      refine g_get 87 rfl hv1 (Nat.le_of_ble_eq_true rfl) rfl rfl ?_
      refine g_putI 90 rfl ha (Nat.le_of_ble_eq_true rfl) (Nat.le_of_ble_eq_true rfl) rfl fs_7_2 rfl ?_
      refine g_aload_n 91 rfl rfl rfl ?_
      refine g_aload_n 92 rfl rfl rfl ?_
      refine g_get 95 rfl hv1 (Nat.le_of_ble_eq_true rfl) rfl rfl ?_
      refine g_putI 98 rfl ha (Nat.le_of_ble_eq_true rfl) (Nat.le_of_ble_eq_true rfl) rfl fs_7_3 rfl ?_
      cases h
      exact g_vret rfl rfl
    · rw [if_neg c1] at h
      refine g_iload_n 53 rfl rfl rfl ?_
      refine g_aload_n 54 rfl rfl rfl ?_
      refine g_get 57 rfl hv1 (Nat.le_of_ble_eq_true rfl) rfl rfl ?_
      refine g_alen 58 rfl (sh_7_2 hv1) (by decide) rfl rfl ?_
      refine g_icmp_ge 82 61 rfl rfl (fun c2 => ?_) (fun c2 => ?_)
      · rw [if_pos c2] at h
        refine g_aload_n 83 rfl rfl rfl ?_
        refine g_aload_n 84 rfl rfl rfl ?_
        refine g_get 87 rfl hv1 (Nat.le_of_ble_eq_true rfl) rfl rfl ?_
        refine g_putI 90 rfl ha (Nat.le_of_ble_eq_true rfl) (Nat.le_of_ble_eq_true rfl) rfl fs_7_2 rfl ?_
        refine g_aload_n 91 rfl rfl rfl ?_
        refine g_aload_n 92 rfl rfl rfl ?_
        refine g_get 95 rfl hv1 (Nat.le_of_ble_eq_true rfl) rfl rfl ?_
        refine g_putI 98 rfl ha (Nat.le_of_ble_eq_true rfl) (Nat.le_of_ble_eq_true rfl) rfl fs_7_3 rfl ?_
        cases h
        exact g_vret rfl rfl
      · rw [if_neg c2] at h
        refine g_aload_n 62 rfl rfl rfl ?_
        refine g_get 65 rfl ha (Nat.le_of_ble_eq_true rfl) rfl rfl ?_
        refine g_iload_n 66 rfl rfl rfl ?_
        by_cases i3 : ib v2 (ln (a + 2))
        case neg => rw [if_neg i3] at h; cases h
        rw [if_pos i3] at h
        refine g_aald 67 rfl (sh_7_2 ha) (by decide) rfl i3 rfl ?_
        refine g_aload_n 68 rfl rfl rfl ?_
        refine g_get 71 rfl hv1 (Nat.le_of_ble_eq_true rfl) rfl rfl ?_
        refine g_iload_n 72 rfl rfl rfl ?_
        by_cases i4 : ib v2 (ln (v1 + 2))
        case neg => rw [if_neg i4] at h; cases h
        rw [if_pos i4] at h
        refine g_aald 73 rfl (sh_7_2 hv1) (by decide) rfl i4 rfl ?_
        refine g_callV (J := sm_I33) 76 rfl (Nat.le_of_ble_eq_true rfl) rfl rfl (Nat.le_of_ble_eq_true rfl) (sh_rfA_13 (sh_7_2 ha) i3) (Nat.le_of_ble_eq_true rfl) (Nat.le_of_ble_eq_true rfl) rfl rfl (F_33 d (rfA (a + 2) 13 v2.toNatClampNeg) (sh_rfA_13 (sh_7_2 ha) i3) (rfA (v1 + 2) 13 v2.toNatClampNeg) (sh_rfA_13 (sh_7_2 hv1) i4) U) ?_
        refine g_iinc (v := v2 + 1) 79 [(2, .int (v2 + 1)), (0, .ref a), (1, .ref v1)] rfl rfl (Nat.le_of_ble_eq_true rfl) rfl rfl rfl ?_
        refine g_goto 43 rfl ?_
        exact g_sub (Sc rfl (Sc rfl (Sc rfl (Sn _)))) (ih a ha v1 hv1 (v2 + 1) _ _ h)
def f_97_2 : Nat → Nat → Nat → Int32 → sU → Option sU
  | 0, _, _, _, _ => none
  | n + 1, a, v1, v2, U =>
    if (Int32.ofNat (ln (a + 1))) ≤ v2 then
      f_97_43 FU a v1 0 U
    else
      if (Int32.ofNat (ln (v1 + 1))) ≤ v2 then
        f_97_43 FU a v1 0 U
      else
        if ib v2 (ln (a + 1)) then
        if ib v2 (ln (v1 + 1)) then
        Option.bind (f_100 (rfA (a + 1) 15 v2.toNatClampNeg) (rfA (v1 + 1) 15 v2.toNatClampNeg) U) fun q9 =>
        f_97_2 n a v1 (v2 + 1) q9
        else none
        else none
set_option maxRecDepth 10000 in
set_option maxHeartbeats 2000000 in
theorem F_97_2 (d : Nat)   : ∀ (n : Nat) (a : Nat) (ha : sh a = 7) (v1 : Nat) (hv1 : sh v1 = 7) (v2 : Int32) (U : sU) (U' : sU), f_97_2 n a v1 v2 U = some U' → G (d + 3) sm_I97 2 [(0, .ref a), (1, .ref v1), (2, .int v2)] [] U none U' := by
  intro n
  induction n with
  | zero => intro a ha v1 hv1 v2 U U' h; cases h
  | succ n ih =>
    intro a ha v1 hv1 v2 U U' h
    first | rw [f_97_2] at h | (rw [f_97_2.eq_def] at h; dsimp only at h)
    refine g_iload_n 3 rfl rfl rfl ?_
    refine g_aload_n 4 rfl rfl rfl ?_
    refine g_get 7 rfl ha (Nat.le_of_ble_eq_true rfl) rfl rfl ?_
    refine g_alen 8 rfl (sh_7_1 ha) (by decide) rfl rfl ?_
    refine g_icmp_ge 41 11 rfl rfl (fun c5 => ?_) (fun c5 => ?_)
    · rw [if_pos c5] at h
      refine g_iconst (v := 0) 42 rfl rfl rfl ?_
      refine g_istore_n 43 [(2, .int 0), (0, .ref a), (1, .ref v1)] rfl (Nat.le_of_ble_eq_true rfl) rfl rfl ?_
      exact g_sub (Sc rfl (Sc rfl (Sc rfl (Sn _)))) (F_97_43 d _ a ha v1 hv1 0 _ _ h)
    · rw [if_neg c5] at h
      refine g_iload_n 12 rfl rfl rfl ?_
      refine g_aload_n 13 rfl rfl rfl ?_
      refine g_get 16 rfl hv1 (Nat.le_of_ble_eq_true rfl) rfl rfl ?_
      refine g_alen 17 rfl (sh_7_1 hv1) (by decide) rfl rfl ?_
      refine g_icmp_ge 41 20 rfl rfl (fun c6 => ?_) (fun c6 => ?_)
      · rw [if_pos c6] at h
        refine g_iconst (v := 0) 42 rfl rfl rfl ?_
        refine g_istore_n 43 [(2, .int 0), (0, .ref a), (1, .ref v1)] rfl (Nat.le_of_ble_eq_true rfl) rfl rfl ?_
        exact g_sub (Sc rfl (Sc rfl (Sc rfl (Sn _)))) (F_97_43 d _ a ha v1 hv1 0 _ _ h)
      · rw [if_neg c6] at h
        refine g_aload_n 21 rfl rfl rfl ?_
        refine g_get 24 rfl ha (Nat.le_of_ble_eq_true rfl) rfl rfl ?_
        refine g_iload_n 25 rfl rfl rfl ?_
        by_cases i7 : ib v2 (ln (a + 1))
        case neg => rw [if_neg i7] at h; cases h
        rw [if_pos i7] at h
        refine g_aald 26 rfl (sh_7_1 ha) (by decide) rfl i7 rfl ?_
        refine g_aload_n 27 rfl rfl rfl ?_
        refine g_get 30 rfl hv1 (Nat.le_of_ble_eq_true rfl) rfl rfl ?_
        refine g_iload_n 31 rfl rfl rfl ?_
        by_cases i8 : ib v2 (ln (v1 + 1))
        case neg => rw [if_neg i8] at h; cases h
        rw [if_pos i8] at h
        refine g_aald 32 rfl (sh_7_1 hv1) (by decide) rfl i8 rfl ?_
        obtain ⟨q9, hq9, h⟩ := Option.bind_eq_some_iff.mp h
        refine g_callV (J := sm_I100) 35 rfl (Nat.le_of_ble_eq_true rfl) rfl rfl (Nat.le_of_ble_eq_true rfl) (sh_rfA_15 (sh_7_1 ha) i7) (Nat.le_of_ble_eq_true rfl) (Nat.le_of_ble_eq_true rfl) rfl rfl (F_100 d (rfA (a + 1) 15 v2.toNatClampNeg) (sh_rfA_15 (sh_7_1 ha) i7) (rfA (v1 + 1) 15 v2.toNatClampNeg) (sh_rfA_15 (sh_7_1 hv1) i8) hq9) ?_
        refine g_iinc (v := v2 + 1) 38 [(2, .int (v2 + 1)), (0, .ref a), (1, .ref v1)] rfl rfl (Nat.le_of_ble_eq_true rfl) rfl rfl rfl ?_
        refine g_goto 2 rfl ?_
        exact g_sub (Sc rfl (Sc rfl (Sc rfl (Sn _)))) (ih a ha v1 hv1 (v2 + 1) _ _ h)
def f_97 (a : Nat) (x1 : Nat) (U : sU) : Option sU :=
  f_97_2 FU a x1 0 U
set_option maxRecDepth 10000 in
set_option maxHeartbeats 2000000 in
theorem F_97 (d : Nat) (a : Nat) (ha : sh a = 7) (x1 : Nat) (hx1 : sh x1 = 7) {U : sU} {U' : sU} (h : f_97 a x1 U = some U') : Rn (d + 3) sm_I97 [.ref a, .ref x1] U none U' := by
  refine Rn_of [(0, .ref a), (1, .ref x1)] (Nat.le_of_ble_eq_true rfl) (Sc rfl (Sc rfl (Sn _))) ?_
  first | rw [f_97] at h | rw [f_97.eq_def] at h
  refine g_iconst (v := 0) 1 rfl rfl rfl ?_
  refine g_istore_n 2 [(2, .int 0), (0, .ref a), (1, .ref x1)] rfl (Nat.le_of_ble_eq_true rfl) rfl rfl ?_
  exact g_sub (Sc rfl (Sc rfl (Sc rfl (Sn _)))) (F_97_2 d _ a ha x1 hx1 0 _ _ h)

def f_107_5 : Nat → Nat → Int32 → Int32 → Int64 → Int32 → sU → Option Int64
  | 0, _, _, _, _, _, _ => none
  | n + 1, a, v1, v2, v3, v5, U =>
    if (U.1 a 2) ≤ v5 then
      some v3
    else
      f_107_5 n a v1 v2 (v3 + (((iget (a + 3) v5 U).toInt64) * (f_105 a ((((f_172 (((iget (a + 1) v5 U) + (U.1 a 3)).toInt64) v1 v2 U) - (iget (a + 1) v5 U)) - (U.1 a 4)).toInt64) U))) (v5 + 1) U
set_option maxRecDepth 10000 in
set_option maxHeartbeats 2000000 in
theorem F_107_5 (d : Nat)   : ∀ (n : Nat) (a : Nat) (ha : sh a = 8) (v1 : Int32) (v2 : Int32) (v3 : Int64) (v5 : Int32) (U : sU) (r : Int64), f_107_5 n a v1 v2 v3 v5 U = some r → G (d + 1) sm_I107 5 [(0, .ref a), (1, .int v1), (2, .int v2), (3, .long v3), (5, .int v5)] [] U (some (.long r)) U := by
  intro n
  induction n with
  | zero => intro a ha v1 v2 v3 v5 U r h; cases h
  | succ n ih =>
    intro a ha v1 v2 v3 v5 U r h
    first | rw [f_107_5] at h | (rw [f_107_5.eq_def] at h; dsimp only at h)
    refine g_iload 7 rfl rfl rfl ?_
    refine g_aload_n 8 rfl rfl rfl ?_
    refine g_get 11 rfl ha (Nat.le_of_ble_eq_true rfl) rfl rfl ?_
    refine g_icmp_ge 71 14 rfl rfl (fun c1 => ?_) (fun c1 => ?_)
    · rw [if_pos c1] at h
      refine g_lload_n 72 rfl rfl rfl ?_
      cases h
      exact g_lret rfl rfl
    · rw [if_neg c1] at h
      refine g_aload_n 15 rfl rfl rfl ?_
      refine g_get 18 rfl ha (Nat.le_of_ble_eq_true rfl) rfl rfl ?_
      refine g_iload 20 rfl rfl rfl ?_
      refine g_callV (J := sm_I9) 23 rfl (Nat.le_of_ble_eq_true rfl) rfl rfl (Nat.le_of_ble_eq_true rfl) (sh_8_1 ha) (Nat.le_of_ble_eq_true rfl) (Nat.le_of_ble_eq_true rfl) rfl rfl (U_9 d (a + 1) (sh_8_1 ha) v5 U) ?_
      refine g_istore 25 [(6, .int (iget (a + 1) v5 U)), (0, .ref a), (1, .int v1), (2, .int v2), (3, .long v3), (5, .int v5)] rfl (Nat.le_of_ble_eq_true rfl) rfl rfl ?_
      refine g_lload_n 26 rfl rfl rfl ?_
      refine g_aload_n 27 rfl rfl rfl ?_
      refine g_get 30 rfl ha (Nat.le_of_ble_eq_true rfl) rfl rfl ?_
      refine g_iload 32 rfl rfl rfl ?_
      refine g_callV (J := sm_I9) 35 rfl (Nat.le_of_ble_eq_true rfl) rfl rfl (Nat.le_of_ble_eq_true rfl) (sh_8_3 ha) (Nat.le_of_ble_eq_true rfl) (Nat.le_of_ble_eq_true rfl) rfl rfl (U_9 d (a + 3) (sh_8_3 ha) v5 U) ?_
      refine g_i2l 36 rfl rfl ?_
      refine g_aload_n 37 rfl rfl rfl ?_
      refine g_iload 39 rfl rfl rfl ?_
      refine g_aload_n 40 rfl rfl rfl ?_
      refine g_get 43 rfl ha (Nat.le_of_ble_eq_true rfl) rfl rfl ?_
      refine g_iadd 44 rfl rfl ?_
      refine g_i2l 45 rfl rfl ?_
      refine g_iload_n 46 rfl rfl rfl ?_
      refine g_iload_n 47 rfl rfl rfl ?_
      refine g_callS (J := sm_I172) 50 rfl (by decide) rfl rfl (Nat.le_of_ble_eq_true rfl) (Nat.le_of_ble_eq_true rfl) rfl rfl (F_172 d (((iget (a + 1) v5 U) + (U.1 a 3)).toInt64) v1 v2 U) ?_
      refine g_iload 52 rfl rfl rfl ?_
      refine g_isub 53 rfl rfl ?_
      refine g_aload_n 54 rfl rfl rfl ?_
      refine g_get 57 rfl ha (Nat.le_of_ble_eq_true rfl) rfl rfl ?_
      refine g_isub 58 rfl rfl ?_
      refine g_i2l 59 rfl rfl ?_
      refine g_callV (J := sm_I105) 62 rfl (Nat.le_of_ble_eq_true rfl) rfl rfl (Nat.le_of_ble_eq_true rfl) ha (Nat.le_of_ble_eq_true rfl) (Nat.le_of_ble_eq_true rfl) rfl rfl (F_105 d a ha ((((f_172 (((iget (a + 1) v5 U) + (U.1 a 3)).toInt64) v1 v2 U) - (iget (a + 1) v5 U)) - (U.1 a 4)).toInt64) U) ?_
      refine g_lmul 63 rfl rfl ?_
      refine g_ladd 64 rfl rfl ?_
      refine g_lstore_n 65 [(3, .long (v3 + (((iget (a + 3) v5 U).toInt64) * (f_105 a ((((f_172 (((iget (a + 1) v5 U) + (U.1 a 3)).toInt64) v1 v2 U) - (iget (a + 1) v5 U)) - (U.1 a 4)).toInt64) U)))), (6, .int (iget (a + 1) v5 U)), (0, .ref a), (1, .int v1), (2, .int v2), (5, .int v5)] rfl (Nat.le_of_ble_eq_true rfl) rfl rfl ?_
      refine g_iinc (v := v5 + 1) 68 [(5, .int (v5 + 1)), (3, .long (v3 + (((iget (a + 3) v5 U).toInt64) * (f_105 a ((((f_172 (((iget (a + 1) v5 U) + (U.1 a 3)).toInt64) v1 v2 U) - (iget (a + 1) v5 U)) - (U.1 a 4)).toInt64) U)))), (6, .int (iget (a + 1) v5 U)), (0, .ref a), (1, .int v1), (2, .int v2)] rfl rfl (Nat.le_of_ble_eq_true rfl) rfl rfl rfl ?_
      refine g_goto 5 rfl ?_
      exact g_sub (Sc rfl (Sc rfl (Sc rfl (Sc rfl (Sc rfl (Sn _)))))) (ih a ha v1 v2 (v3 + (((iget (a + 3) v5 U).toInt64) * (f_105 a ((((f_172 (((iget (a + 1) v5 U) + (U.1 a 3)).toInt64) v1 v2 U) - (iget (a + 1) v5 U)) - (U.1 a 4)).toInt64) U))) (v5 + 1) _ _ h)
def f_107 (a : Nat) (x1 : Int32) (x2 : Int32) (U : sU) : Option Int64 :=
  f_107_5 FU a x1 x2 0 0 U
set_option maxRecDepth 10000 in
set_option maxHeartbeats 2000000 in
theorem F_107 (d : Nat) (a : Nat) (ha : sh a = 8) (x1 : Int32) (x2 : Int32) {U : sU} {r : Int64} (h : f_107 a x1 x2 U = some r) : Rn (d + 1) sm_I107 [.ref a, .int x1, .int x2] U (some (.long r)) U := by
  refine Rn_of [(0, .ref a), (1, .int x1), (2, .int x2)] (Nat.le_of_ble_eq_true rfl) (Sc rfl (Sc rfl (Sc rfl (Sn _)))) ?_
  first | rw [f_107] at h | rw [f_107.eq_def] at h
  refine g_lconst (v := 0) 1 rfl rfl rfl ?_
  refine g_lstore_n 2 [(3, .long 0), (0, .ref a), (1, .int x1), (2, .int x2)] rfl (Nat.le_of_ble_eq_true rfl) rfl rfl ?_
  refine g_iconst (v := 0) 3 rfl rfl rfl ?_
  refine g_istore 5 [(5, .int 0), (3, .long 0), (0, .ref a), (1, .int x1), (2, .int x2)] rfl (Nat.le_of_ble_eq_true rfl) rfl rfl ?_
  exact g_sub (Sc rfl (Sc rfl (Sc rfl (Sc rfl (Sc rfl (Sn _)))))) (F_107_5 d _ a ha x1 x2 0 0 _ _ h)

def f_108 (a : Nat) (x1 : Int32) (U : sU) : Int32 :=
  if (U.1 a 2) ≤ x1 then
    f_172 (((iget (a + 1) (x1 - (U.1 a 2)) U) + (U.1 a 4)).toInt64) 0 999 U
  else
    f_172 (((iget (a + 1) x1 U) + (U.1 a 3)).toInt64) 0 999 U
set_option maxRecDepth 10000 in
set_option maxHeartbeats 2000000 in
theorem F_108 (d : Nat) (a : Nat) (ha : sh a = 8) (x1 : Int32) (U : sU) : Rn (d + 1) sm_I108 [.ref a, .int x1] U (some (.int (f_108 a x1 U))) U := by
  refine Rn_of [(0, .ref a), (1, .int x1)] (Nat.le_of_ble_eq_true rfl) (Sc rfl (Sc rfl (Sn _))) ?_
  generalize h : f_108 a x1 U = r
  first | rw [f_108] at h | rw [f_108.eq_def] at h
  refine g_iload_n 1 rfl rfl rfl ?_
  refine g_aload_n 2 rfl rfl rfl ?_
  refine g_get 5 rfl ha (Nat.le_of_ble_eq_true rfl) rfl rfl ?_
  refine g_icmp_ge 24 8 rfl rfl (fun c1 => ?_) (fun c1 => ?_)
  · rw [if_pos c1] at h
    refine g_aload_n 25 rfl rfl rfl ?_
    refine g_get 28 rfl ha (Nat.le_of_ble_eq_true rfl) rfl rfl ?_
    refine g_iload_n 29 rfl rfl rfl ?_
    refine g_aload_n 30 rfl rfl rfl ?_
    refine g_get 33 rfl ha (Nat.le_of_ble_eq_true rfl) rfl rfl ?_
    refine g_isub 34 rfl rfl ?_
    refine g_callV (J := sm_I9) 37 rfl (Nat.le_of_ble_eq_true rfl) rfl rfl (Nat.le_of_ble_eq_true rfl) (sh_8_1 ha) (Nat.le_of_ble_eq_true rfl) (Nat.le_of_ble_eq_true rfl) rfl rfl (U_9 d (a + 1) (sh_8_1 ha) (x1 - (U.1 a 2)) U) ?_
    refine g_aload_n 38 rfl rfl rfl ?_
    refine g_get 41 rfl ha (Nat.le_of_ble_eq_true rfl) rfl rfl ?_
    refine g_iadd 42 rfl rfl ?_
    refine g_istore_n 43 [(2, .int ((iget (a + 1) (x1 - (U.1 a 2)) U) + (U.1 a 4))), (0, .ref a), (1, .int x1)] rfl (Nat.le_of_ble_eq_true rfl) rfl rfl ?_
    refine g_iload_n 44 rfl rfl rfl ?_
    refine g_i2l 45 rfl rfl ?_
    refine g_iconst (v := 0) 46 rfl rfl rfl ?_
    refine g_sipush (v := 999) 49 rfl (by decide) rfl ?_
    refine g_callS (J := sm_I172) 52 rfl (by decide) rfl rfl (Nat.le_of_ble_eq_true rfl) (Nat.le_of_ble_eq_true rfl) rfl rfl (F_172 d (((iget (a + 1) (x1 - (U.1 a 2)) U) + (U.1 a 4)).toInt64) 0 999 U) ?_
    subst h
    exact g_iret rfl rfl
  · rw [if_neg c1] at h
    refine g_aload_n 9 rfl rfl rfl ?_
    refine g_get 12 rfl ha (Nat.le_of_ble_eq_true rfl) rfl rfl ?_
    refine g_iload_n 13 rfl rfl rfl ?_
    refine g_callV (J := sm_I9) 16 rfl (Nat.le_of_ble_eq_true rfl) rfl rfl (Nat.le_of_ble_eq_true rfl) (sh_8_1 ha) (Nat.le_of_ble_eq_true rfl) (Nat.le_of_ble_eq_true rfl) rfl rfl (U_9 d (a + 1) (sh_8_1 ha) x1 U) ?_
    refine g_aload_n 17 rfl rfl rfl ?_
    refine g_get 20 rfl ha (Nat.le_of_ble_eq_true rfl) rfl rfl ?_
    refine g_iadd 21 rfl rfl ?_
    refine g_goto 42 rfl ?_
    refine g_istore_n 43 [(2, .int ((iget (a + 1) x1 U) + (U.1 a 3))), (0, .ref a), (1, .int x1)] rfl (Nat.le_of_ble_eq_true rfl) rfl rfl ?_
    refine g_iload_n 44 rfl rfl rfl ?_
    refine g_i2l 45 rfl rfl ?_
    refine g_iconst (v := 0) 46 rfl rfl rfl ?_
    refine g_sipush (v := 999) 49 rfl (by decide) rfl ?_
    refine g_callS (J := sm_I172) 52 rfl (by decide) rfl rfl (Nat.le_of_ble_eq_true rfl) (Nat.le_of_ble_eq_true rfl) rfl rfl (F_172 d (((iget (a + 1) x1 U) + (U.1 a 3)).toInt64) 0 999 U) ?_
    subst h
    exact g_iret rfl rfl

def f_109_21 (k7 : Nat → Int32 → Int64 → Int32 → sU → Option Int32) : Nat → Nat → Int32 → Int64 → Int32 → Int32 → sU → Option Int32
  | 0, _, _, _, _, _, _ => none
  | n + 1, a, v1, v2, v4, v5, U =>
    if (2 * (U.1 a 2)) ≤ v5 then
      k7 a v1 v2 (v4 + 1) U
    else
      if (f_108 a v5 U) < (f_108 a v4 U) then
        f_109_21 k7 n a v1 v2 v4 (v5 + 1) U
      else
        Option.bind (f_107 a (f_108 a v4 U) (f_108 a v5 U) U) fun q3 =>
        if v1 = ((-1)) then
          f_109_21 k7 n a ((1000 * (f_108 a v4 U)) + (f_108 a v5 U)) q3 v4 (v5 + 1) U
        else
          if (lg_cmp q3 v2) < 0 then
            f_109_21 k7 n a ((1000 * (f_108 a v4 U)) + (f_108 a v5 U)) q3 v4 (v5 + 1) U
          else
            if (lg_cmp q3 v2) = 0 then
              if v1 ≤ ((1000 * (f_108 a v4 U)) + (f_108 a v5 U)) then
                f_109_21 k7 n a v1 v2 v4 (v5 + 1) U
              else
                f_109_21 k7 n a ((1000 * (f_108 a v4 U)) + (f_108 a v5 U)) q3 v4 (v5 + 1) U
            else
              f_109_21 k7 n a v1 v2 v4 (v5 + 1) U
set_option maxRecDepth 10000 in
set_option maxHeartbeats 2000000 in
theorem F_109_21 (d : Nat) {k7 : Nat → Int32 → Int64 → Int32 → sU → Option Int32} (hk7 : ∀ (a : Nat) (ha : sh a = 8) (v1 : Int32) (v2 : Int64) (v4 : Int32) (U : sU) (r : Int32), k7 a v1 v2 v4 U = some r → G (d + 2) sm_I109 7 [(0, .ref a), (1, .int v1), (2, .long v2), (4, .int v4)] [] U (some (.int r)) U) : ∀ (n : Nat) (a : Nat) (ha : sh a = 8) (v1 : Int32) (v2 : Int64) (v4 : Int32) (v5 : Int32) (U : sU) (r : Int32), f_109_21 k7 n a v1 v2 v4 v5 U = some r → G (d + 2) sm_I109 21 [(0, .ref a), (1, .int v1), (2, .long v2), (4, .int v4), (5, .int v5)] [] U (some (.int r)) U := by
  intro n
  induction n with
  | zero => intro a ha v1 v2 v4 v5 U r h; cases h
  | succ n ih =>
    intro a ha v1 v2 v4 v5 U r h
    first | rw [f_109_21] at h | (rw [f_109_21.eq_def] at h; dsimp only at h)
    refine g_iload 23 rfl rfl rfl ?_
    refine g_iconst (v := 2) 24 rfl rfl rfl ?_
    refine g_aload_n 25 rfl rfl rfl ?_
    refine g_get 28 rfl ha (Nat.le_of_ble_eq_true rfl) rfl rfl ?_
    refine g_imul 29 rfl rfl ?_
    refine g_icmp_ge 121 32 rfl rfl (fun c1 => ?_) (fun c1 => ?_)
    · rw [if_pos c1] at h
      refine g_iinc (v := v4 + 1) 124 [(4, .int (v4 + 1)), (0, .ref a), (1, .int v1), (2, .long v2), (5, .int v5)] rfl rfl (Nat.le_of_ble_eq_true rfl) rfl rfl rfl ?_
      refine g_goto 7 rfl ?_
      exact g_sub (Sc rfl (Sc rfl (Sc rfl (Sc rfl (Sn _))))) (hk7 a ha v1 v2 (v4 + 1) _ _ h)
    · rw [if_neg c1] at h
      refine g_sipush (v := 1000) 35 rfl (by decide) rfl ?_
      refine g_aload_n 36 rfl rfl rfl ?_
      refine g_iload 38 rfl rfl rfl ?_
      refine g_callV (J := sm_I108) 41 rfl (Nat.le_of_ble_eq_true rfl) rfl rfl (Nat.le_of_ble_eq_true rfl) ha (Nat.le_of_ble_eq_true rfl) (Nat.le_of_ble_eq_true rfl) rfl rfl (F_108 d a ha v4 U) ?_
      refine g_imul 42 rfl rfl ?_
      refine g_aload_n 43 rfl rfl rfl ?_
      refine g_iload 45 rfl rfl rfl ?_
      refine g_callV (J := sm_I108) 48 rfl (Nat.le_of_ble_eq_true rfl) rfl rfl (Nat.le_of_ble_eq_true rfl) ha (Nat.le_of_ble_eq_true rfl) (Nat.le_of_ble_eq_true rfl) rfl rfl (F_108 d a ha v5 U) ?_
      refine g_iadd 49 rfl rfl ?_
      refine g_istore 51 [(6, .int ((1000 * (f_108 a v4 U)) + (f_108 a v5 U))), (0, .ref a), (1, .int v1), (2, .long v2), (4, .int v4), (5, .int v5)] rfl (Nat.le_of_ble_eq_true rfl) rfl rfl ?_
      refine g_aload_n 52 rfl rfl rfl ?_
      refine g_iload 54 rfl rfl rfl ?_
      refine g_callV (J := sm_I108) 57 rfl (Nat.le_of_ble_eq_true rfl) rfl rfl (Nat.le_of_ble_eq_true rfl) ha (Nat.le_of_ble_eq_true rfl) (Nat.le_of_ble_eq_true rfl) rfl rfl (F_108 d a ha v4 U) ?_
      refine g_aload_n 58 rfl rfl rfl ?_
      refine g_iload 60 rfl rfl rfl ?_
      refine g_callV (J := sm_I108) 63 rfl (Nat.le_of_ble_eq_true rfl) rfl rfl (Nat.le_of_ble_eq_true rfl) ha (Nat.le_of_ble_eq_true rfl) (Nat.le_of_ble_eq_true rfl) rfl rfl (F_108 d a ha v5 U) ?_
      refine g_icmp_gt 115 66 rfl rfl (fun c2 => ?_) (fun c2 => ?_)
      · rw [if_pos c2] at h
        refine g_iinc (v := v5 + 1) 118 [(5, .int (v5 + 1)), (6, .int ((1000 * (f_108 a v4 U)) + (f_108 a v5 U))), (0, .ref a), (1, .int v1), (2, .long v2), (4, .int v4)] rfl rfl (Nat.le_of_ble_eq_true rfl) rfl rfl rfl ?_
        refine g_goto 21 rfl ?_
        exact g_sub (Sc rfl (Sc rfl (Sc rfl (Sc rfl (Sc rfl (Sn _)))))) (ih a ha v1 v2 v4 (v5 + 1) _ _ h)
      · rw [if_neg c2] at h
        refine g_aload_n 67 rfl rfl rfl ?_
        refine g_aload_n 68 rfl rfl rfl ?_
        refine g_iload 70 rfl rfl rfl ?_
        refine g_callV (J := sm_I108) 73 rfl (Nat.le_of_ble_eq_true rfl) rfl rfl (Nat.le_of_ble_eq_true rfl) ha (Nat.le_of_ble_eq_true rfl) (Nat.le_of_ble_eq_true rfl) rfl rfl (F_108 d a ha v4 U) ?_
        refine g_aload_n 74 rfl rfl rfl ?_
        refine g_iload 76 rfl rfl rfl ?_
        refine g_callV (J := sm_I108) 79 rfl (Nat.le_of_ble_eq_true rfl) rfl rfl (Nat.le_of_ble_eq_true rfl) ha (Nat.le_of_ble_eq_true rfl) (Nat.le_of_ble_eq_true rfl) rfl rfl (F_108 d a ha v5 U) ?_
        obtain ⟨q3, hq3, h⟩ := Option.bind_eq_some_iff.mp h
        refine g_callV (J := sm_I107) 82 rfl (Nat.le_of_ble_eq_true rfl) rfl rfl (Nat.le_of_ble_eq_true rfl) ha (Nat.le_of_ble_eq_true rfl) (Nat.le_of_ble_eq_true rfl) rfl rfl (F_107 d a ha (f_108 a v4 U) (f_108 a v5 U) hq3) ?_
        refine g_lstore 84 [(7, .long q3), (6, .int ((1000 * (f_108 a v4 U)) + (f_108 a v5 U))), (0, .ref a), (1, .int v1), (2, .long v2), (4, .int v4), (5, .int v5)] rfl (Nat.le_of_ble_eq_true rfl) rfl rfl ?_
        refine g_iload_n 85 rfl rfl rfl ?_
        refine g_iconst (v := (-1)) 86 rfl rfl rfl ?_
        refine g_icmp_eq 109 89 rfl rfl (fun c4 => ?_) (fun c4 => ?_)
        · rw [if_pos c4] at h
          refine g_iload 111 rfl rfl rfl ?_
          refine g_istore_n 112 [(1, .int ((1000 * (f_108 a v4 U)) + (f_108 a v5 U))), (7, .long q3), (6, .int ((1000 * (f_108 a v4 U)) + (f_108 a v5 U))), (0, .ref a), (2, .long v2), (4, .int v4), (5, .int v5)] rfl (Nat.le_of_ble_eq_true rfl) rfl rfl ?_
          refine g_lload 114 rfl rfl rfl ?_
          refine g_lstore_n 115 [(2, .long q3), (1, .int ((1000 * (f_108 a v4 U)) + (f_108 a v5 U))), (7, .long q3), (6, .int ((1000 * (f_108 a v4 U)) + (f_108 a v5 U))), (0, .ref a), (4, .int v4), (5, .int v5)] rfl (Nat.le_of_ble_eq_true rfl) rfl rfl ?_
          refine g_iinc (v := v5 + 1) 118 [(5, .int (v5 + 1)), (2, .long q3), (1, .int ((1000 * (f_108 a v4 U)) + (f_108 a v5 U))), (7, .long q3), (6, .int ((1000 * (f_108 a v4 U)) + (f_108 a v5 U))), (0, .ref a), (4, .int v4)] rfl rfl (Nat.le_of_ble_eq_true rfl) rfl rfl rfl ?_
          refine g_goto 21 rfl ?_
          exact g_sub (Sc rfl (Sc rfl (Sc rfl (Sc rfl (Sc rfl (Sn _)))))) (ih a ha ((1000 * (f_108 a v4 U)) + (f_108 a v5 U)) q3 v4 (v5 + 1) _ _ h)
        · rw [if_neg c4] at h
          refine g_lload 91 rfl rfl rfl ?_
          refine g_lload_n 92 rfl rfl rfl ?_
          refine g_lcmp 93 rfl rfl ?_
          refine g_if_lt 109 96 rfl rfl (fun c5 => ?_) (fun c5 => ?_)
          · rw [if_pos c5] at h
            refine g_iload 111 rfl rfl rfl ?_
            refine g_istore_n 112 [(1, .int ((1000 * (f_108 a v4 U)) + (f_108 a v5 U))), (7, .long q3), (6, .int ((1000 * (f_108 a v4 U)) + (f_108 a v5 U))), (0, .ref a), (2, .long v2), (4, .int v4), (5, .int v5)] rfl (Nat.le_of_ble_eq_true rfl) rfl rfl ?_
            refine g_lload 114 rfl rfl rfl ?_
            refine g_lstore_n 115 [(2, .long q3), (1, .int ((1000 * (f_108 a v4 U)) + (f_108 a v5 U))), (7, .long q3), (6, .int ((1000 * (f_108 a v4 U)) + (f_108 a v5 U))), (0, .ref a), (4, .int v4), (5, .int v5)] rfl (Nat.le_of_ble_eq_true rfl) rfl rfl ?_
            refine g_iinc (v := v5 + 1) 118 [(5, .int (v5 + 1)), (2, .long q3), (1, .int ((1000 * (f_108 a v4 U)) + (f_108 a v5 U))), (7, .long q3), (6, .int ((1000 * (f_108 a v4 U)) + (f_108 a v5 U))), (0, .ref a), (4, .int v4)] rfl rfl (Nat.le_of_ble_eq_true rfl) rfl rfl rfl ?_
            refine g_goto 21 rfl ?_
            exact g_sub (Sc rfl (Sc rfl (Sc rfl (Sc rfl (Sc rfl (Sn _)))))) (ih a ha ((1000 * (f_108 a v4 U)) + (f_108 a v5 U)) q3 v4 (v5 + 1) _ _ h)
          · rw [if_neg c5] at h
            refine g_lload 98 rfl rfl rfl ?_
            refine g_lload_n 99 rfl rfl rfl ?_
            refine g_lcmp 100 rfl rfl ?_
            refine g_if_ne 115 103 rfl rfl (fun c6 => ?_) (fun c6 => ?_)
            · rw [if_neg c6] at h
              refine g_iinc (v := v5 + 1) 118 [(5, .int (v5 + 1)), (7, .long q3), (6, .int ((1000 * (f_108 a v4 U)) + (f_108 a v5 U))), (0, .ref a), (1, .int v1), (2, .long v2), (4, .int v4)] rfl rfl (Nat.le_of_ble_eq_true rfl) rfl rfl rfl ?_
              refine g_goto 21 rfl ?_
              exact g_sub (Sc rfl (Sc rfl (Sc rfl (Sc rfl (Sc rfl (Sn _)))))) (ih a ha v1 v2 v4 (v5 + 1) _ _ h)
            · rw [if_pos c6] at h
              refine g_iload 105 rfl rfl rfl ?_
              refine g_iload_n 106 rfl rfl rfl ?_
              refine g_icmp_ge 115 109 rfl rfl (fun c7 => ?_) (fun c7 => ?_)
              · rw [if_pos c7] at h
                refine g_iinc (v := v5 + 1) 118 [(5, .int (v5 + 1)), (7, .long q3), (6, .int ((1000 * (f_108 a v4 U)) + (f_108 a v5 U))), (0, .ref a), (1, .int v1), (2, .long v2), (4, .int v4)] rfl rfl (Nat.le_of_ble_eq_true rfl) rfl rfl rfl ?_
                refine g_goto 21 rfl ?_
                exact g_sub (Sc rfl (Sc rfl (Sc rfl (Sc rfl (Sc rfl (Sn _)))))) (ih a ha v1 v2 v4 (v5 + 1) _ _ h)
              · rw [if_neg c7] at h
                refine g_iload 111 rfl rfl rfl ?_
                refine g_istore_n 112 [(1, .int ((1000 * (f_108 a v4 U)) + (f_108 a v5 U))), (7, .long q3), (6, .int ((1000 * (f_108 a v4 U)) + (f_108 a v5 U))), (0, .ref a), (2, .long v2), (4, .int v4), (5, .int v5)] rfl (Nat.le_of_ble_eq_true rfl) rfl rfl ?_
                refine g_lload 114 rfl rfl rfl ?_
                refine g_lstore_n 115 [(2, .long q3), (1, .int ((1000 * (f_108 a v4 U)) + (f_108 a v5 U))), (7, .long q3), (6, .int ((1000 * (f_108 a v4 U)) + (f_108 a v5 U))), (0, .ref a), (4, .int v4), (5, .int v5)] rfl (Nat.le_of_ble_eq_true rfl) rfl rfl ?_
                refine g_iinc (v := v5 + 1) 118 [(5, .int (v5 + 1)), (2, .long q3), (1, .int ((1000 * (f_108 a v4 U)) + (f_108 a v5 U))), (7, .long q3), (6, .int ((1000 * (f_108 a v4 U)) + (f_108 a v5 U))), (0, .ref a), (4, .int v4)] rfl rfl (Nat.le_of_ble_eq_true rfl) rfl rfl rfl ?_
                refine g_goto 21 rfl ?_
                exact g_sub (Sc rfl (Sc rfl (Sc rfl (Sc rfl (Sc rfl (Sn _)))))) (ih a ha ((1000 * (f_108 a v4 U)) + (f_108 a v5 U)) q3 v4 (v5 + 1) _ _ h)
def f_109_7 : Nat → Nat → Int32 → Int64 → Int32 → sU → Option Int32
  | 0, _, _, _, _, _ => none
  | n + 1, a, v1, v2, v4, U =>
    if (2 * (U.1 a 2)) ≤ v4 then
      some v1
    else
      f_109_21 (fun a v1 v2 v4 U => f_109_7 n a v1 v2 v4 U) FU a v1 v2 v4 0 U
set_option maxRecDepth 10000 in
set_option maxHeartbeats 2000000 in
theorem F_109_7 (d : Nat)   : ∀ (n : Nat) (a : Nat) (ha : sh a = 8) (v1 : Int32) (v2 : Int64) (v4 : Int32) (U : sU) (r : Int32), f_109_7 n a v1 v2 v4 U = some r → G (d + 2) sm_I109 7 [(0, .ref a), (1, .int v1), (2, .long v2), (4, .int v4)] [] U (some (.int r)) U := by
  intro n
  induction n with
  | zero => intro a ha v1 v2 v4 U r h; cases h
  | succ n ih =>
    intro a ha v1 v2 v4 U r h
    first | rw [f_109_7] at h | (rw [f_109_7.eq_def] at h; dsimp only at h)
    refine g_iload 9 rfl rfl rfl ?_
    refine g_iconst (v := 2) 10 rfl rfl rfl ?_
    refine g_aload_n 11 rfl rfl rfl ?_
    refine g_get 14 rfl ha (Nat.le_of_ble_eq_true rfl) rfl rfl ?_
    refine g_imul 15 rfl rfl ?_
    refine g_icmp_ge 127 18 rfl rfl (fun c8 => ?_) (fun c8 => ?_)
    · rw [if_pos c8] at h
      refine g_iload_n 128 rfl rfl rfl ?_
      cases h
      exact g_iret rfl rfl
    · rw [if_neg c8] at h
      refine g_iconst (v := 0) 19 rfl rfl rfl ?_
      refine g_istore 21 [(5, .int 0), (0, .ref a), (1, .int v1), (2, .long v2), (4, .int v4)] rfl (Nat.le_of_ble_eq_true rfl) rfl rfl ?_
      exact g_sub (Sc rfl (Sc rfl (Sc rfl (Sc rfl (Sc rfl (Sn _)))))) (F_109_21 d (fun a ha v1 v2 v4 U r h => ih a ha v1 v2 v4 U r h) _ a ha v1 v2 v4 0 _ _ h)
def f_109 (a : Nat) (U : sU) : Option Int32 :=
  f_109_7 FU a ((-1)) 0 0 U
set_option maxRecDepth 10000 in
set_option maxHeartbeats 2000000 in
theorem F_109 (d : Nat) (a : Nat) (ha : sh a = 8) {U : sU} {r : Int32} (h : f_109 a U = some r) : Rn (d + 2) sm_I109 [.ref a] U (some (.int r)) U := by
  refine Rn_of [(0, .ref a)] (Nat.le_of_ble_eq_true rfl) (Sc rfl (Sn _)) ?_
  first | rw [f_109] at h | rw [f_109.eq_def] at h
  refine g_iconst (v := (-1)) 1 rfl rfl rfl ?_
  refine g_istore_n 2 [(1, .int ((-1))), (0, .ref a)] rfl (Nat.le_of_ble_eq_true rfl) rfl rfl ?_
  refine g_lconst (v := 0) 3 rfl rfl rfl ?_
  refine g_lstore_n 4 [(2, .long 0), (1, .int ((-1))), (0, .ref a)] rfl (Nat.le_of_ble_eq_true rfl) rfl rfl ?_
  refine g_iconst (v := 0) 5 rfl rfl rfl ?_
  refine g_istore 7 [(4, .int 0), (2, .long 0), (1, .int ((-1))), (0, .ref a)] rfl (Nat.le_of_ble_eq_true rfl) rfl rfl ?_
  exact g_sub (Sc rfl (Sc rfl (Sc rfl (Sc rfl (Sn _))))) (F_109_7 d _ a ha ((-1)) 0 0 _ _ h)

def f_170 (x0 : Int32) (U : sU) : Int32 :=
  if x0 < 0 then
    0
  else
    if 999 < x0 then
      0
    else
      1
set_option maxRecDepth 10000 in
set_option maxHeartbeats 2000000 in
theorem F_170 (d : Nat) (x0 : Int32) (U : sU) : Rn (d + 0) sm_I170 [.int x0] U (some (.int (f_170 x0 U))) U := by
  refine Rn_of [(0, .int x0)] (Nat.le_of_ble_eq_true rfl) (Sc rfl (Sn _)) ?_
  generalize h : f_170 x0 U = r
  first | rw [f_170] at h | rw [f_170.eq_def] at h
  refine g_iload_n 1 rfl rfl rfl ?_
  refine g_if_lt 15 4 rfl rfl (fun c1 => ?_) (fun c1 => ?_)
  · rw [if_pos c1] at h
    refine g_iconst (v := 0) 16 rfl rfl rfl ?_
    subst h
    exact g_zret rfl rfl (Or.inl rfl)
  · rw [if_neg c1] at h
    refine g_iload_n 5 rfl rfl rfl ?_
    refine g_sipush (v := 999) 8 rfl (by decide) rfl ?_
    refine g_icmp_gt 15 11 rfl rfl (fun c2 => ?_) (fun c2 => ?_)
    · rw [if_pos c2] at h
      refine g_iconst (v := 0) 16 rfl rfl rfl ?_
      subst h
      exact g_zret rfl rfl (Or.inl rfl)
    · rw [if_neg c2] at h
      refine g_iconst (v := 1) 12 rfl rfl rfl ?_
      refine g_goto 16 rfl ?_
      subst h
      exact g_zret rfl rfl (Or.inr rfl)

def f_111_155 (k88 : Int32 → Int32 → Int32 → Int32 → Int32 → sU → Option Int32) (v4 : Int32) (v5 : Int32) (v6 : Int32) (v7 : Int32) (v8 : Int32) (v9 : Int32) (z0 : Int32) (U : sU) : Option Int32 :=
  if (f_170 v9 U) = 0 then
    k88 v4 v5 v6 v7 (v8 + 1) U
  else
    if z0 = 0 then
      k88 v4 v5 v6 v7 (v8 + 1) U
    else
      some 1
set_option maxRecDepth 10000 in
set_option maxHeartbeats 2000000 in
theorem F_111_155 (d : Nat) {k88 : Int32 → Int32 → Int32 → Int32 → Int32 → sU → Option Int32} (hk88 : ∀ (v4 : Int32) (v5 : Int32) (v6 : Int32) (v7 : Int32) (v8 : Int32) (U : sU) (r : Int32), k88 v4 v5 v6 v7 v8 U = some r → G (d + 1) sm_I111 88 [(4, .int v4), (5, .int v5), (6, .int v6), (7, .int v7), (8, .int v8)] [] U (some (.int r)) U) (v4 : Int32) (v5 : Int32) (v6 : Int32) (v7 : Int32) (v8 : Int32) (v9 : Int32) (z0 : Int32) {U : sU} {r : Int32} (h : f_111_155 k88 v4 v5 v6 v7 v8 v9 z0 U = some r) : G (d + 1) sm_I111 155 [(4, .int v4), (5, .int v5), (6, .int v6), (7, .int v7), (8, .int v8), (9, .int v9)] [.int z0] U (some (.int r)) U := by
  first | rw [f_111_155] at h | rw [f_111_155.eq_def] at h
  refine g_istore 157 [(10, .int z0), (4, .int v4), (5, .int v5), (6, .int v6), (7, .int v7), (8, .int v8), (9, .int v9)] rfl (Nat.le_of_ble_eq_true rfl) rfl rfl ?_
  refine g_iload 159 rfl rfl rfl ?_
  have r1 := F_170 d v9 U
  refine g_callS (J := sm_I170) 162 rfl (by decide) rfl rfl (Nat.le_of_ble_eq_true rfl) (Nat.le_of_ble_eq_true rfl) rfl rfl r1 ?_
  refine g_if_eq 172 165 rfl rfl (fun c2 => ?_) (fun c2 => ?_)
  · rw [if_pos c2] at h
    refine g_iinc (v := v8 + 1) 175 [(8, .int (v8 + 1)), (10, .int z0), (4, .int v4), (5, .int v5), (6, .int v6), (7, .int v7), (9, .int v9)] rfl rfl (Nat.le_of_ble_eq_true rfl) rfl rfl rfl ?_
    refine g_goto 88 rfl ?_
    exact g_sub (Sc rfl (Sc rfl (Sc rfl (Sc rfl (Sc rfl (Sn _)))))) (hk88 v4 v5 v6 v7 (v8 + 1) _ _ h)
  · rw [if_neg c2] at h
    refine g_iload 167 rfl rfl rfl ?_
    refine g_if_eq 172 170 rfl rfl (fun c3 => ?_) (fun c3 => ?_)
    · rw [if_pos c3] at h
      refine g_iinc (v := v8 + 1) 175 [(8, .int (v8 + 1)), (10, .int z0), (4, .int v4), (5, .int v5), (6, .int v6), (7, .int v7), (9, .int v9)] rfl rfl (Nat.le_of_ble_eq_true rfl) rfl rfl rfl ?_
      refine g_goto 88 rfl ?_
      exact g_sub (Sc rfl (Sc rfl (Sc rfl (Sc rfl (Sc rfl (Sn _)))))) (hk88 v4 v5 v6 v7 (v8 + 1) _ _ h)
    · rw [if_neg c3] at h
      refine g_iconst (v := 1) 171 rfl rfl rfl ?_
      cases h
      exact g_zret rfl rfl (Or.inr rfl)
def f_111_154 (k88 : Int32 → Int32 → Int32 → Int32 → Int32 → sU → Option Int32) (v4 : Int32) (v5 : Int32) (v6 : Int32) (v7 : Int32) (v8 : Int32) (v9 : Int32) (U : sU) : Option Int32 :=
  f_111_155 k88 v4 v5 v6 v7 v8 v9 0 U
set_option maxRecDepth 10000 in
set_option maxHeartbeats 2000000 in
theorem F_111_154 (d : Nat) {k88 : Int32 → Int32 → Int32 → Int32 → Int32 → sU → Option Int32} (hk88 : ∀ (v4 : Int32) (v5 : Int32) (v6 : Int32) (v7 : Int32) (v8 : Int32) (U : sU) (r : Int32), k88 v4 v5 v6 v7 v8 U = some r → G (d + 1) sm_I111 88 [(4, .int v4), (5, .int v5), (6, .int v6), (7, .int v7), (8, .int v8)] [] U (some (.int r)) U) (v4 : Int32) (v5 : Int32) (v6 : Int32) (v7 : Int32) (v8 : Int32) (v9 : Int32) {U : sU} {r : Int32} (h : f_111_154 k88 v4 v5 v6 v7 v8 v9 U = some r) : G (d + 1) sm_I111 154 [(4, .int v4), (5, .int v5), (6, .int v6), (7, .int v7), (8, .int v8), (9, .int v9)] [] U (some (.int r)) U := by
  first | rw [f_111_154] at h | rw [f_111_154.eq_def] at h
  refine g_iconst (v := 0) 155 rfl rfl rfl ?_
  exact g_sub (Sc rfl (Sc rfl (Sc rfl (Sc rfl (Sc rfl (Sc rfl (Sn _))))))) (F_111_155 d hk88 v4 v5 v6 v7 v8 v9 0 h)
def f_111_122 (k88 : Int32 → Int32 → Int32 → Int32 → Int32 → sU → Option Int32) (v4 : Int32) (v5 : Int32) (v6 : Int32) (v7 : Int32) (v8 : Int32) (z0 : Int32) (U : sU) : Option Int32 :=
  if (f_285 (z0 - v4) U) < v6 then
    f_111_154 k88 v4 v5 v6 v7 v8 z0 U
  else
    if (f_285 (z0 - v5) U) < v7 then
      f_111_154 k88 v4 v5 v6 v7 v8 z0 U
    else
      f_111_155 k88 v4 v5 v6 v7 v8 z0 1 U
set_option maxRecDepth 10000 in
set_option maxHeartbeats 2000000 in
theorem F_111_122 (d : Nat) {k88 : Int32 → Int32 → Int32 → Int32 → Int32 → sU → Option Int32} (hk88 : ∀ (v4 : Int32) (v5 : Int32) (v6 : Int32) (v7 : Int32) (v8 : Int32) (U : sU) (r : Int32), k88 v4 v5 v6 v7 v8 U = some r → G (d + 1) sm_I111 88 [(4, .int v4), (5, .int v5), (6, .int v6), (7, .int v7), (8, .int v8)] [] U (some (.int r)) U) (v4 : Int32) (v5 : Int32) (v6 : Int32) (v7 : Int32) (v8 : Int32) (z0 : Int32) {U : sU} {r : Int32} (h : f_111_122 k88 v4 v5 v6 v7 v8 z0 U = some r) : G (d + 1) sm_I111 122 [(4, .int v4), (5, .int v5), (6, .int v6), (7, .int v7), (8, .int v8)] [.int z0] U (some (.int r)) U := by
  first | rw [f_111_122] at h | rw [f_111_122.eq_def] at h
  refine g_istore 124 [(9, .int z0), (4, .int v4), (5, .int v5), (6, .int v6), (7, .int v7), (8, .int v8)] rfl (Nat.le_of_ble_eq_true rfl) rfl rfl ?_
  refine g_iload 126 rfl rfl rfl ?_
  refine g_iload 128 rfl rfl rfl ?_
  refine g_isub 129 rfl rfl ?_
  refine g_callS (J := sm_I285) 132 rfl (by decide) rfl rfl (Nat.le_of_ble_eq_true rfl) (Nat.le_of_ble_eq_true rfl) rfl rfl (F_285 d (z0 - v4) U) ?_
  refine g_iload 134 rfl rfl rfl ?_
  refine g_icmp_lt 154 137 rfl rfl (fun c4 => ?_) (fun c4 => ?_)
  · rw [if_pos c4] at h
    exact g_sub (Sc rfl (Sc rfl (Sc rfl (Sc rfl (Sc rfl (Sc rfl (Sn _))))))) (F_111_154 d hk88 v4 v5 v6 v7 v8 z0 h)
  · rw [if_neg c4] at h
    refine g_iload 139 rfl rfl rfl ?_
    refine g_iload 141 rfl rfl rfl ?_
    refine g_isub 142 rfl rfl ?_
    refine g_callS (J := sm_I285) 145 rfl (by decide) rfl rfl (Nat.le_of_ble_eq_true rfl) (Nat.le_of_ble_eq_true rfl) rfl rfl (F_285 d (z0 - v5) U) ?_
    refine g_iload 147 rfl rfl rfl ?_
    refine g_icmp_lt 154 150 rfl rfl (fun c5 => ?_) (fun c5 => ?_)
    · rw [if_pos c5] at h
      exact g_sub (Sc rfl (Sc rfl (Sc rfl (Sc rfl (Sc rfl (Sc rfl (Sn _))))))) (F_111_154 d hk88 v4 v5 v6 v7 v8 z0 h)
    · rw [if_neg c5] at h
      refine g_iconst (v := 1) 151 rfl rfl rfl ?_
      refine g_goto 155 rfl ?_
      exact g_sub (Sc rfl (Sc rfl (Sc rfl (Sc rfl (Sc rfl (Sc rfl (Sn _))))))) (F_111_155 d hk88 v4 v5 v6 v7 v8 z0 1 h)
def f_111_88 : Nat → Int32 → Int32 → Int32 → Int32 → Int32 → sU → Option Int32
  | 0, _, _, _, _, _, _ => none
  | n + 1, v4, v5, v6, v7, v8, U =>
    if 3 ≤ v8 then
      some 0
    else
      if v8 = 0 then
        f_111_122 (fun v4 v5 v6 v7 v8 U => f_111_88 n v4 v5 v6 v7 v8 U) v4 v5 v6 v7 v8 0 U
      else
        if v8 = 1 then
          f_111_122 (fun v4 v5 v6 v7 v8 U => f_111_88 n v4 v5 v6 v7 v8 U) v4 v5 v6 v7 v8 (v4 + v6) U
        else
          f_111_122 (fun v4 v5 v6 v7 v8 U => f_111_88 n v4 v5 v6 v7 v8 U) v4 v5 v6 v7 v8 (v5 + v7) U
set_option maxRecDepth 10000 in
set_option maxHeartbeats 2000000 in
theorem F_111_88 (d : Nat)   : ∀ (n : Nat) (v4 : Int32) (v5 : Int32) (v6 : Int32) (v7 : Int32) (v8 : Int32) (U : sU) (r : Int32), f_111_88 n v4 v5 v6 v7 v8 U = some r → G (d + 1) sm_I111 88 [(4, .int v4), (5, .int v5), (6, .int v6), (7, .int v7), (8, .int v8)] [] U (some (.int r)) U := by
  intro n
  induction n with
  | zero => intro v4 v5 v6 v7 v8 U r h; cases h
  | succ n ih =>
    intro v4 v5 v6 v7 v8 U r h
    first | rw [f_111_88] at h | (rw [f_111_88.eq_def] at h; dsimp only at h)
    refine g_iload 90 rfl rfl rfl ?_
    refine g_iconst (v := 3) 91 rfl rfl rfl ?_
    refine g_icmp_ge 178 94 rfl rfl (fun c6 => ?_) (fun c6 => ?_)
    · rw [if_pos c6] at h
      refine g_iconst (v := 0) 179 rfl rfl rfl ?_
      cases h
      exact g_zret rfl rfl (Or.inl rfl)
    · rw [if_neg c6] at h
      refine g_iload 96 rfl rfl rfl ?_
      refine g_if_ne 103 99 rfl rfl (fun c7 => ?_) (fun c7 => ?_)
      · rw [if_neg c7] at h
        refine g_iload 105 rfl rfl rfl ?_
        refine g_iconst (v := 1) 106 rfl rfl rfl ?_
        refine g_icmp_ne 117 109 rfl rfl (fun c8 => ?_) (fun c8 => ?_)
        · rw [if_neg c8] at h
          refine g_iload 119 rfl rfl rfl ?_
          refine g_iload 121 rfl rfl rfl ?_
          refine g_iadd 122 rfl rfl ?_
          exact g_sub (Sc rfl (Sc rfl (Sc rfl (Sc rfl (Sc rfl (Sn _)))))) (F_111_122 d (fun v4 v5 v6 v7 v8 U r h => ih v4 v5 v6 v7 v8 U r h) v4 v5 v6 v7 v8 (v5 + v7) h)
        · rw [if_pos c8] at h
          refine g_iload 111 rfl rfl rfl ?_
          refine g_iload 113 rfl rfl rfl ?_
          refine g_iadd 114 rfl rfl ?_
          refine g_goto 122 rfl ?_
          exact g_sub (Sc rfl (Sc rfl (Sc rfl (Sc rfl (Sc rfl (Sn _)))))) (F_111_122 d (fun v4 v5 v6 v7 v8 U r h => ih v4 v5 v6 v7 v8 U r h) v4 v5 v6 v7 v8 (v4 + v6) h)
      · rw [if_pos c7] at h
        refine g_iconst (v := 0) 100 rfl rfl rfl ?_
        refine g_goto 122 rfl ?_
        exact g_sub (Sc rfl (Sc rfl (Sc rfl (Sc rfl (Sc rfl (Sn _)))))) (F_111_122 d (fun v4 v5 v6 v7 v8 U r h => ih v4 v5 v6 v7 v8 U r h) v4 v5 v6 v7 v8 0 h)
def f_111 (a : Nat) (x1 : Int32) (x2 : Int32) (x3 : Int32) (U : sU) : Option Int32 :=
  f_111_88 FU ((iget (a + 1) x2 U) + (U.1 a 3)) ((iget (a + 1) x1 U) + x3) (f_285 ((f_172 (((iget (a + 1) x2 U) + (U.1 a 4)).toInt64) 0 999 U) - ((iget (a + 1) x2 U) + (U.1 a 3))) U) (f_285 ((f_172 (((iget (a + 1) x1 U) + (U.1 a 4)).toInt64) 0 999 U) - ((iget (a + 1) x1 U) + x3)) U) 0 U
set_option maxRecDepth 10000 in
set_option maxHeartbeats 2000000 in
theorem F_111 (d : Nat) (a : Nat) (ha : sh a = 8) (x1 : Int32) (x2 : Int32) (x3 : Int32) {U : sU} {r : Int32} (h : f_111 a x1 x2 x3 U = some r) : Rn (d + 1) sm_I111 [.ref a, .int x1, .int x2, .int x3] U (some (.int r)) U := by
  refine Rn_of [(0, .ref a), (1, .int x1), (2, .int x2), (3, .int x3)] (Nat.le_of_ble_eq_true rfl) (Sc rfl (Sc rfl (Sc rfl (Sc rfl (Sn _))))) ?_
  first | rw [f_111] at h | rw [f_111.eq_def] at h
  refine g_aload_n 1 rfl rfl rfl ?_
  refine g_get 4 rfl ha (Nat.le_of_ble_eq_true rfl) rfl rfl ?_
  refine g_iload_n 5 rfl rfl rfl ?_
  refine g_callV (J := sm_I9) 8 rfl (Nat.le_of_ble_eq_true rfl) rfl rfl (Nat.le_of_ble_eq_true rfl) (sh_8_1 ha) (Nat.le_of_ble_eq_true rfl) (Nat.le_of_ble_eq_true rfl) rfl rfl (U_9 d (a + 1) (sh_8_1 ha) x2 U) ?_
  refine g_aload_n 9 rfl rfl rfl ?_
  refine g_get 12 rfl ha (Nat.le_of_ble_eq_true rfl) rfl rfl ?_
  refine g_iadd 13 rfl rfl ?_
  refine g_istore 15 [(4, .int ((iget (a + 1) x2 U) + (U.1 a 3))), (0, .ref a), (1, .int x1), (2, .int x2), (3, .int x3)] rfl (Nat.le_of_ble_eq_true rfl) rfl rfl ?_
  refine g_aload_n 16 rfl rfl rfl ?_
  refine g_get 19 rfl ha (Nat.le_of_ble_eq_true rfl) rfl rfl ?_
  refine g_iload_n 20 rfl rfl rfl ?_
  refine g_callV (J := sm_I9) 23 rfl (Nat.le_of_ble_eq_true rfl) rfl rfl (Nat.le_of_ble_eq_true rfl) (sh_8_1 ha) (Nat.le_of_ble_eq_true rfl) (Nat.le_of_ble_eq_true rfl) rfl rfl (U_9 d (a + 1) (sh_8_1 ha) x1 U) ?_
  refine g_iload_n 24 rfl rfl rfl ?_
  refine g_iadd 25 rfl rfl ?_
  refine g_istore 27 [(5, .int ((iget (a + 1) x1 U) + x3)), (4, .int ((iget (a + 1) x2 U) + (U.1 a 3))), (0, .ref a), (1, .int x1), (2, .int x2), (3, .int x3)] rfl (Nat.le_of_ble_eq_true rfl) rfl rfl ?_
  refine g_aload_n 28 rfl rfl rfl ?_
  refine g_get 31 rfl ha (Nat.le_of_ble_eq_true rfl) rfl rfl ?_
  refine g_iload_n 32 rfl rfl rfl ?_
  refine g_callV (J := sm_I9) 35 rfl (Nat.le_of_ble_eq_true rfl) rfl rfl (Nat.le_of_ble_eq_true rfl) (sh_8_1 ha) (Nat.le_of_ble_eq_true rfl) (Nat.le_of_ble_eq_true rfl) rfl rfl (U_9 d (a + 1) (sh_8_1 ha) x2 U) ?_
  refine g_aload_n 36 rfl rfl rfl ?_
  refine g_get 39 rfl ha (Nat.le_of_ble_eq_true rfl) rfl rfl ?_
  refine g_iadd 40 rfl rfl ?_
  refine g_i2l 41 rfl rfl ?_
  refine g_iconst (v := 0) 42 rfl rfl rfl ?_
  refine g_sipush (v := 999) 45 rfl (by decide) rfl ?_
  refine g_callS (J := sm_I172) 48 rfl (by decide) rfl rfl (Nat.le_of_ble_eq_true rfl) (Nat.le_of_ble_eq_true rfl) rfl rfl (F_172 d (((iget (a + 1) x2 U) + (U.1 a 4)).toInt64) 0 999 U) ?_
  refine g_iload 50 rfl rfl rfl ?_
  refine g_isub 51 rfl rfl ?_
  refine g_callS (J := sm_I285) 54 rfl (by decide) rfl rfl (Nat.le_of_ble_eq_true rfl) (Nat.le_of_ble_eq_true rfl) rfl rfl (F_285 d ((f_172 (((iget (a + 1) x2 U) + (U.1 a 4)).toInt64) 0 999 U) - ((iget (a + 1) x2 U) + (U.1 a 3))) U) ?_
  refine g_istore 56 [(6, .int (f_285 ((f_172 (((iget (a + 1) x2 U) + (U.1 a 4)).toInt64) 0 999 U) - ((iget (a + 1) x2 U) + (U.1 a 3))) U)), (5, .int ((iget (a + 1) x1 U) + x3)), (4, .int ((iget (a + 1) x2 U) + (U.1 a 3))), (0, .ref a), (1, .int x1), (2, .int x2), (3, .int x3)] rfl (Nat.le_of_ble_eq_true rfl) rfl rfl ?_
  refine g_aload_n 57 rfl rfl rfl ?_
  refine g_get 60 rfl ha (Nat.le_of_ble_eq_true rfl) rfl rfl ?_
  refine g_iload_n 61 rfl rfl rfl ?_
  refine g_callV (J := sm_I9) 64 rfl (Nat.le_of_ble_eq_true rfl) rfl rfl (Nat.le_of_ble_eq_true rfl) (sh_8_1 ha) (Nat.le_of_ble_eq_true rfl) (Nat.le_of_ble_eq_true rfl) rfl rfl (U_9 d (a + 1) (sh_8_1 ha) x1 U) ?_
  refine g_aload_n 65 rfl rfl rfl ?_
  refine g_get 68 rfl ha (Nat.le_of_ble_eq_true rfl) rfl rfl ?_
  refine g_iadd 69 rfl rfl ?_
  refine g_i2l 70 rfl rfl ?_
  refine g_iconst (v := 0) 71 rfl rfl rfl ?_
  refine g_sipush (v := 999) 74 rfl (by decide) rfl ?_
  refine g_callS (J := sm_I172) 77 rfl (by decide) rfl rfl (Nat.le_of_ble_eq_true rfl) (Nat.le_of_ble_eq_true rfl) rfl rfl (F_172 d (((iget (a + 1) x1 U) + (U.1 a 4)).toInt64) 0 999 U) ?_
  refine g_iload 79 rfl rfl rfl ?_
  refine g_isub 80 rfl rfl ?_
  refine g_callS (J := sm_I285) 83 rfl (by decide) rfl rfl (Nat.le_of_ble_eq_true rfl) (Nat.le_of_ble_eq_true rfl) rfl rfl (F_285 d ((f_172 (((iget (a + 1) x1 U) + (U.1 a 4)).toInt64) 0 999 U) - ((iget (a + 1) x1 U) + x3)) U) ?_
  refine g_istore 85 [(7, .int (f_285 ((f_172 (((iget (a + 1) x1 U) + (U.1 a 4)).toInt64) 0 999 U) - ((iget (a + 1) x1 U) + x3)) U)), (6, .int (f_285 ((f_172 (((iget (a + 1) x2 U) + (U.1 a 4)).toInt64) 0 999 U) - ((iget (a + 1) x2 U) + (U.1 a 3))) U)), (5, .int ((iget (a + 1) x1 U) + x3)), (4, .int ((iget (a + 1) x2 U) + (U.1 a 3))), (0, .ref a), (1, .int x1), (2, .int x2), (3, .int x3)] rfl (Nat.le_of_ble_eq_true rfl) rfl rfl ?_
  refine g_iconst (v := 0) 86 rfl rfl rfl ?_
  refine g_istore 88 [(8, .int 0), (7, .int (f_285 ((f_172 (((iget (a + 1) x1 U) + (U.1 a 4)).toInt64) 0 999 U) - ((iget (a + 1) x1 U) + x3)) U)), (6, .int (f_285 ((f_172 (((iget (a + 1) x2 U) + (U.1 a 4)).toInt64) 0 999 U) - ((iget (a + 1) x2 U) + (U.1 a 3))) U)), (5, .int ((iget (a + 1) x1 U) + x3)), (4, .int ((iget (a + 1) x2 U) + (U.1 a 3))), (0, .ref a), (1, .int x1), (2, .int x2), (3, .int x3)] rfl (Nat.le_of_ble_eq_true rfl) rfl rfl ?_
  exact g_sub (Sc rfl (Sc rfl (Sc rfl (Sc rfl (Sc rfl (Sn _)))))) (F_111_88 d _ ((iget (a + 1) x2 U) + (U.1 a 3)) ((iget (a + 1) x1 U) + x3) (f_285 ((f_172 (((iget (a + 1) x2 U) + (U.1 a 4)).toInt64) 0 999 U) - ((iget (a + 1) x2 U) + (U.1 a 3))) U) (f_285 ((f_172 (((iget (a + 1) x1 U) + (U.1 a 4)).toInt64) 0 999 U) - ((iget (a + 1) x1 U) + x3)) U) 0 _ _ h)

def f_110_12 (k2 : Nat → Int32 → Int32 → sU → Option Int32) : Nat → Nat → Int32 → Int32 → Int32 → sU → Option Int32
  | 0, _, _, _, _, _ => none
  | n + 1, a, v1, v2, v3, U =>
    if (U.1 a 2) ≤ v3 then
      k2 a v1 (v2 + 1) U
    else
      if v2 = v3 then
        f_110_12 k2 n a v1 v2 (v3 + 1) U
      else
        Option.bind (f_111 a v2 v3 v1 U) fun q3 =>
        if q3 = 0 then
          some ((100 * v2) + v3)
        else
          f_110_12 k2 n a v1 v2 (v3 + 1) U
set_option maxRecDepth 10000 in
set_option maxHeartbeats 2000000 in
theorem F_110_12 (d : Nat) {k2 : Nat → Int32 → Int32 → sU → Option Int32} (hk2 : ∀ (a : Nat) (ha : sh a = 8) (v1 : Int32) (v2 : Int32) (U : sU) (r : Int32), k2 a v1 v2 U = some r → G (d + 2) sm_I110 2 [(0, .ref a), (1, .int v1), (2, .int v2)] [] U (some (.int r)) U) : ∀ (n : Nat) (a : Nat) (ha : sh a = 8) (v1 : Int32) (v2 : Int32) (v3 : Int32) (U : sU) (r : Int32), f_110_12 k2 n a v1 v2 v3 U = some r → G (d + 2) sm_I110 12 [(0, .ref a), (1, .int v1), (2, .int v2), (3, .int v3)] [] U (some (.int r)) U := by
  intro n
  induction n with
  | zero => intro a ha v1 v2 v3 U r h; cases h
  | succ n ih =>
    intro a ha v1 v2 v3 U r h
    first | rw [f_110_12] at h | (rw [f_110_12.eq_def] at h; dsimp only at h)
    refine g_iload_n 13 rfl rfl rfl ?_
    refine g_aload_n 14 rfl rfl rfl ?_
    refine g_get 17 rfl ha (Nat.le_of_ble_eq_true rfl) rfl rfl ?_
    refine g_icmp_ge 48 20 rfl rfl (fun c1 => ?_) (fun c1 => ?_)
    · rw [if_pos c1] at h
      refine g_iinc (v := v2 + 1) 51 [(2, .int (v2 + 1)), (0, .ref a), (1, .int v1), (3, .int v3)] rfl rfl (Nat.le_of_ble_eq_true rfl) rfl rfl rfl ?_
      refine g_goto 2 rfl ?_
      exact g_sub (Sc rfl (Sc rfl (Sc rfl (Sn _)))) (hk2 a ha v1 (v2 + 1) _ _ h)
    · rw [if_neg c1] at h
      refine g_iload_n 21 rfl rfl rfl ?_
      refine g_iload_n 22 rfl rfl rfl ?_
      refine g_icmp_eq 42 25 rfl rfl (fun c2 => ?_) (fun c2 => ?_)
      · rw [if_pos c2] at h
        refine g_iinc (v := v3 + 1) 45 [(3, .int (v3 + 1)), (0, .ref a), (1, .int v1), (2, .int v2)] rfl rfl (Nat.le_of_ble_eq_true rfl) rfl rfl rfl ?_
        refine g_goto 12 rfl ?_
        exact g_sub (Sc rfl (Sc rfl (Sc rfl (Sc rfl (Sn _))))) (ih a ha v1 v2 (v3 + 1) _ _ h)
      · rw [if_neg c2] at h
        refine g_aload_n 26 rfl rfl rfl ?_
        refine g_iload_n 27 rfl rfl rfl ?_
        refine g_iload_n 28 rfl rfl rfl ?_
        refine g_iload_n 29 rfl rfl rfl ?_
        obtain ⟨q3, hq3, h⟩ := Option.bind_eq_some_iff.mp h
        have r4 := (F_111 d a ha v2 v3 v1 hq3)
        refine g_callV (J := sm_I111) 32 rfl (Nat.le_of_ble_eq_true rfl) rfl rfl (Nat.le_of_ble_eq_true rfl) ha (Nat.le_of_ble_eq_true rfl) (Nat.le_of_ble_eq_true rfl) rfl rfl r4 ?_
        refine g_if_ne 42 35 rfl rfl (fun c5 => ?_) (fun c5 => ?_)
        · rw [if_neg c5] at h
          refine g_iinc (v := v3 + 1) 45 [(3, .int (v3 + 1)), (0, .ref a), (1, .int v1), (2, .int v2)] rfl rfl (Nat.le_of_ble_eq_true rfl) rfl rfl rfl ?_
          refine g_goto 12 rfl ?_
          exact g_sub (Sc rfl (Sc rfl (Sc rfl (Sc rfl (Sn _))))) (ih a ha v1 v2 (v3 + 1) _ _ h)
        · rw [if_pos c5] at h
          refine g_bipush (v := 100) 37 rfl (by decide) rfl ?_
          refine g_iload_n 38 rfl rfl rfl ?_
          refine g_imul 39 rfl rfl ?_
          refine g_iload_n 40 rfl rfl rfl ?_
          refine g_iadd 41 rfl rfl ?_
          cases h
          exact g_iret rfl rfl
def f_110_2 : Nat → Nat → Int32 → Int32 → sU → Option Int32
  | 0, _, _, _, _ => none
  | n + 1, a, v1, v2, U =>
    if (U.1 a 2) ≤ v2 then
      some ((-1))
    else
      f_110_12 (fun a v1 v2 U => f_110_2 n a v1 v2 U) FU a v1 v2 0 U
set_option maxRecDepth 10000 in
set_option maxHeartbeats 2000000 in
theorem F_110_2 (d : Nat)   : ∀ (n : Nat) (a : Nat) (ha : sh a = 8) (v1 : Int32) (v2 : Int32) (U : sU) (r : Int32), f_110_2 n a v1 v2 U = some r → G (d + 2) sm_I110 2 [(0, .ref a), (1, .int v1), (2, .int v2)] [] U (some (.int r)) U := by
  intro n
  induction n with
  | zero => intro a ha v1 v2 U r h; cases h
  | succ n ih =>
    intro a ha v1 v2 U r h
    first | rw [f_110_2] at h | (rw [f_110_2.eq_def] at h; dsimp only at h)
    refine g_iload_n 3 rfl rfl rfl ?_
    refine g_aload_n 4 rfl rfl rfl ?_
    refine g_get 7 rfl ha (Nat.le_of_ble_eq_true rfl) rfl rfl ?_
    refine g_icmp_ge 54 10 rfl rfl (fun c6 => ?_) (fun c6 => ?_)
    · rw [if_pos c6] at h
      refine g_iconst (v := (-1)) 55 rfl rfl rfl ?_
      cases h
      exact g_iret rfl rfl
    · rw [if_neg c6] at h
      refine g_iconst (v := 0) 11 rfl rfl rfl ?_
      refine g_istore_n 12 [(3, .int 0), (0, .ref a), (1, .int v1), (2, .int v2)] rfl (Nat.le_of_ble_eq_true rfl) rfl rfl ?_
      exact g_sub (Sc rfl (Sc rfl (Sc rfl (Sc rfl (Sn _))))) (F_110_12 d (fun a ha v1 v2 U r h => ih a ha v1 v2 U r h) _ a ha v1 v2 0 _ _ h)
def f_110 (a : Nat) (x1 : Int32) (U : sU) : Option Int32 :=
  f_110_2 FU a x1 0 U
set_option maxRecDepth 10000 in
set_option maxHeartbeats 2000000 in
theorem F_110 (d : Nat) (a : Nat) (ha : sh a = 8) (x1 : Int32) {U : sU} {r : Int32} (h : f_110 a x1 U = some r) : Rn (d + 2) sm_I110 [.ref a, .int x1] U (some (.int r)) U := by
  refine Rn_of [(0, .ref a), (1, .int x1)] (Nat.le_of_ble_eq_true rfl) (Sc rfl (Sc rfl (Sn _))) ?_
  first | rw [f_110] at h | rw [f_110.eq_def] at h
  refine g_iconst (v := 0) 1 rfl rfl rfl ?_
  refine g_istore_n 2 [(2, .int 0), (0, .ref a), (1, .int x1)] rfl (Nat.le_of_ble_eq_true rfl) rfl rfl ?_
  exact g_sub (Sc rfl (Sc rfl (Sc rfl (Sn _)))) (F_110_2 d _ a ha x1 0 _ _ h)

def f_157 (x1 : Int32) (U : sU) : Int32 × sU :=
  (-x1, iput 208 x1 ((iget 208 x1 U) + 1) U)
set_option maxRecDepth 10000 in
set_option maxHeartbeats 2000000 in
theorem F_157 (d : Nat) (x1 : Int32) (U : sU) : Rn (d + 1) sm_I157 [.ref 0, .int x1] U (some (.int (f_157 x1 U).1)) (f_157 x1 U).2 := by
  refine Rn_of [(0, .ref 0), (1, .int x1)] (Nat.le_of_ble_eq_true rfl) (Sc rfl (Sc rfl (Sn _))) ?_
  rcases h : f_157 x1 U with ⟨r, U'⟩
  dsimp only
  first | rw [f_157] at h | rw [f_157.eq_def] at h
  refine g_aload_n 1 rfl rfl rfl ?_
  refine g_get 4 rfl s_0 (Nat.le_of_ble_eq_true rfl) rfl rfl ?_
  refine g_iload_n 5 rfl rfl rfl ?_
  refine g_aload_n 6 rfl rfl rfl ?_
  refine g_get 9 rfl s_0 (Nat.le_of_ble_eq_true rfl) rfl rfl ?_
  refine g_iload_n 10 rfl rfl rfl ?_
  refine g_callV (J := sm_I9) 13 rfl (Nat.le_of_ble_eq_true rfl) rfl rfl (Nat.le_of_ble_eq_true rfl) s_208 (Nat.le_of_ble_eq_true rfl) (Nat.le_of_ble_eq_true rfl) rfl rfl (U_9 d 208 s_208 x1 U) ?_
  refine g_iconst (v := 1) 14 rfl rfl rfl ?_
  refine g_iadd 15 rfl rfl ?_
  refine g_callV (J := sm_I10) 18 rfl (Nat.le_of_ble_eq_true rfl) rfl rfl (Nat.le_of_ble_eq_true rfl) s_208 (Nat.le_of_ble_eq_true rfl) (Nat.le_of_ble_eq_true rfl) rfl rfl (U_10 d 208 s_208 x1 ((iget 208 x1 U) + 1) U) ?_
  refine g_iload_n 19 rfl rfl rfl ?_
  refine g_ineg 20 rfl rfl ?_
  cases h
  exact g_iret rfl rfl

def f_113 (x1 : Int32) (x2 : Int32) (x3 : Int32) (U : sU) : Int32 × sU :=
  match sat x1 with
  | none =>
    match f_157 1 U with
    | (q2, W3) =>
    (q2, W3)
  | some o1 =>
    if 0 ≤ x3 then
      if x2 < 0 then
        match f_157 6 U with
        | (q6, W7) =>
        (q6, W7)
      else
        if x2 ≤ 3 then
          if x3 ≤ 64 then
            (1, jlay o1 x2 x3 U)
          else
            match f_157 7 U with
            | (q10, W11) =>
            (q10, W11)
        else
          match f_157 6 U with
          | (q12, W13) =>
          (q12, W13)
    else
      match f_157 4 U with
      | (q14, W15) =>
      (q14, W15)
set_option maxRecDepth 10000 in
set_option maxHeartbeats 2000000 in
theorem F_113 (d : Nat) (x1 : Int32) (x2 : Int32) (x3 : Int32) (U : sU) : Rn (d + 2) sm_I113 [.ref 0, .int x1, .int x2, .int x3] U (some (.int (f_113 x1 x2 x3 U).1)) (f_113 x1 x2 x3 U).2 := by
  refine Rn_of [(0, .ref 0), (1, .int x1), (2, .int x2), (3, .int x3)] (Nat.le_of_ble_eq_true rfl) (Sc rfl (Sc rfl (Sc rfl (Sc rfl (Sn _))))) ?_
  rcases h : f_113 x1 x2 x3 U with ⟨r, U'⟩
  dsimp only
  first | rw [f_113] at h | rw [f_113.eq_def] at h
  refine g_aload_n 1 rfl rfl rfl ?_
  refine g_iload_n 2 rfl rfl rfl ?_
  refine g_callV (J := sm_I160) 5 rfl (Nat.le_of_ble_eq_true rfl) rfl rfl (Nat.le_of_ble_eq_true rfl) s_0 (Nat.le_of_ble_eq_true rfl) (Nat.le_of_ble_eq_true rfl) rfl rfl (U_160 (d + 1) x1 U) ?_
  refine g_astoreq (x := sat x1) 7 [(4, va_rf (sat x1)), (0, .ref 0), (1, .int x1), (2, .int x2), (3, .int x3)] rfl (Nat.le_of_ble_eq_true rfl) rfl rfl ?_
  refine g_aloadq (x := sat x1) 9 rfl rfl rfl ?_
  rcases ho1 : sat x1 with _ | o1
  · rw [ho1] at h
    dsimp only at h
    refine g_ifnonnullN 12 rfl rfl ?_
    refine g_aload_n 13 rfl rfl rfl ?_
    refine g_iconst (v := 1) 14 rfl rfl rfl ?_
    have tq2 := F_157 d 1 U
    rcases hq2 : f_157 1 U with ⟨q2, W3⟩
    rw [hq2] at h tq2
    dsimp only at h tq2
    refine g_callV (J := sm_I157) 17 rfl (Nat.le_of_ble_eq_true rfl) rfl rfl (Nat.le_of_ble_eq_true rfl) s_0 (Nat.le_of_ble_eq_true rfl) (Nat.le_of_ble_eq_true rfl) rfl rfl tq2 ?_
    cases h
    exact g_iret rfl rfl
  · rw [ho1] at h
    dsimp only at h
    refine g_ifnonnull 18 rfl rfl ?_
    refine g_iload_n 19 rfl rfl rfl ?_
    refine g_if_ge 28 22 rfl rfl (fun c4 => ?_) (fun c4 => ?_)
    · rw [if_pos c4] at h
      refine g_iload_n 29 rfl rfl rfl ?_
      refine g_if_lt 37 32 rfl rfl (fun c5 => ?_) (fun c5 => ?_)
      · rw [if_pos c5] at h
        refine g_aload_n 38 rfl rfl rfl ?_
        refine g_bipush (v := 6) 40 rfl (by decide) rfl ?_
        have tq6 := F_157 d 6 U
        rcases hq6 : f_157 6 U with ⟨q6, W7⟩
        rw [hq6] at h tq6
        dsimp only at h tq6
        refine g_callV (J := sm_I157) 43 rfl (Nat.le_of_ble_eq_true rfl) rfl rfl (Nat.le_of_ble_eq_true rfl) s_0 (Nat.le_of_ble_eq_true rfl) (Nat.le_of_ble_eq_true rfl) rfl rfl tq6 ?_
        cases h
        exact g_iret rfl rfl
      · rw [if_neg c5] at h
        refine g_iload_n 33 rfl rfl rfl ?_
        refine g_iconst (v := 3) 34 rfl rfl rfl ?_
        refine g_icmp_le 44 37 rfl rfl (fun c8 => ?_) (fun c8 => ?_)
        · rw [if_pos c8] at h
          refine g_iload_n 45 rfl rfl rfl ?_
          refine g_bipush (v := 64) 47 rfl (by decide) rfl ?_
          refine g_icmp_le 57 50 rfl rfl (fun c9 => ?_) (fun c9 => ?_)
          · rw [if_pos c9] at h
            refine g_aload 59 rfl rfl rfl ?_
            refine g_iload_n 60 rfl rfl rfl ?_
            refine g_iload_n 61 rfl rfl rfl ?_
            refine g_callV (J := sm_I82) 64 rfl (Nat.le_of_ble_eq_true rfl) rfl rfl (Nat.le_of_ble_eq_true rfl) ((fun z hz => tagU_160 x1 U z hz) o1 ho1) (Nat.le_of_ble_eq_true rfl) (Nat.le_of_ble_eq_true rfl) rfl rfl (U_82 d o1 ((fun z hz => tagU_160 x1 U z hz) o1 ho1) x2 x3 U) ?_
            refine g_iconst (v := 1) 65 rfl rfl rfl ?_
            cases h
            exact g_iret rfl rfl
          · rw [if_neg c9] at h
            refine g_aload_n 51 rfl rfl rfl ?_
            refine g_bipush (v := 7) 53 rfl (by decide) rfl ?_
            have tq10 := F_157 d 7 U
            rcases hq10 : f_157 7 U with ⟨q10, W11⟩
            rw [hq10] at h tq10
            dsimp only at h tq10
            refine g_callV (J := sm_I157) 56 rfl (Nat.le_of_ble_eq_true rfl) rfl rfl (Nat.le_of_ble_eq_true rfl) s_0 (Nat.le_of_ble_eq_true rfl) (Nat.le_of_ble_eq_true rfl) rfl rfl tq10 ?_
            cases h
            exact g_iret rfl rfl
        · rw [if_neg c8] at h
          refine g_aload_n 38 rfl rfl rfl ?_
          refine g_bipush (v := 6) 40 rfl (by decide) rfl ?_
          have tq12 := F_157 d 6 U
          rcases hq12 : f_157 6 U with ⟨q12, W13⟩
          rw [hq12] at h tq12
          dsimp only at h tq12
          refine g_callV (J := sm_I157) 43 rfl (Nat.le_of_ble_eq_true rfl) rfl rfl (Nat.le_of_ble_eq_true rfl) s_0 (Nat.le_of_ble_eq_true rfl) (Nat.le_of_ble_eq_true rfl) rfl rfl tq12 ?_
          cases h
          exact g_iret rfl rfl
    · rw [if_neg c4] at h
      refine g_aload_n 23 rfl rfl rfl ?_
      refine g_iconst (v := 4) 24 rfl rfl rfl ?_
      have tq14 := F_157 d 4 U
      rcases hq14 : f_157 4 U with ⟨q14, W15⟩
      rw [hq14] at h tq14
      dsimp only at h tq14
      refine g_callV (J := sm_I157) 27 rfl (Nat.le_of_ble_eq_true rfl) rfl rfl (Nat.le_of_ble_eq_true rfl) s_0 (Nat.le_of_ble_eq_true rfl) (Nat.le_of_ble_eq_true rfl) rfl rfl tq14 ?_
      cases h
      exact g_iret rfl rfl

def f_161 (x1 : Int32) (U : sU) : Int32 :=
  match sat x1 with
  | none =>
    1
  | some o1 =>
    if (f_81 o1 U) = 0 then
      if (f_80 o1 U) = 0 then
        3
      else
        0
    else
      2
set_option maxRecDepth 10000 in
set_option maxHeartbeats 2000000 in
theorem F_161 (d : Nat) (x1 : Int32) (U : sU) : Rn (d + 1) sm_I161 [.ref 0, .int x1] U (some (.int (f_161 x1 U))) U := by
  refine Rn_of [(0, .ref 0), (1, .int x1)] (Nat.le_of_ble_eq_true rfl) (Sc rfl (Sc rfl (Sn _))) ?_
  generalize h : f_161 x1 U = r
  first | rw [f_161] at h | rw [f_161.eq_def] at h
  refine g_aload_n 1 rfl rfl rfl ?_
  refine g_iload_n 2 rfl rfl rfl ?_
  refine g_callV (J := sm_I160) 5 rfl (Nat.le_of_ble_eq_true rfl) rfl rfl (Nat.le_of_ble_eq_true rfl) s_0 (Nat.le_of_ble_eq_true rfl) (Nat.le_of_ble_eq_true rfl) rfl rfl (U_160 d x1 U) ?_
  refine g_astore_nq (x := sat x1) 6 [(2, va_rf (sat x1)), (0, .ref 0), (1, .int x1)] rfl (Nat.le_of_ble_eq_true rfl) rfl rfl ?_
  refine g_aload_nq (x := sat x1) 7 rfl rfl rfl ?_
  rcases ho1 : sat x1 with _ | o1
  · rw [ho1] at h
    dsimp only at h
    refine g_ifnonnullN 10 rfl rfl ?_
    refine g_iconst (v := 1) 11 rfl rfl rfl ?_
    subst h
    exact g_iret rfl rfl
  · rw [ho1] at h
    dsimp only at h
    refine g_ifnonnull 12 rfl rfl ?_
    refine g_aload_n 13 rfl rfl rfl ?_
    have r2 := F_81 d o1 ((fun z hz => tagU_160 x1 U z hz) o1 ho1) U
    refine g_callV (J := sm_I81) 16 rfl (Nat.le_of_ble_eq_true rfl) rfl rfl (Nat.le_of_ble_eq_true rfl) ((fun z hz => tagU_160 x1 U z hz) o1 ho1) (Nat.le_of_ble_eq_true rfl) (Nat.le_of_ble_eq_true rfl) rfl rfl r2 ?_
    refine g_if_eq 21 19 rfl rfl (fun c3 => ?_) (fun c3 => ?_)
    · rw [if_pos c3] at h
      refine g_aload_n 22 rfl rfl rfl ?_
      have r4 := F_80 d o1 ((fun z hz => tagU_160 x1 U z hz) o1 ho1) U
      refine g_callV (J := sm_I80) 25 rfl (Nat.le_of_ble_eq_true rfl) rfl rfl (Nat.le_of_ble_eq_true rfl) ((fun z hz => tagU_160 x1 U z hz) o1 ho1) (Nat.le_of_ble_eq_true rfl) (Nat.le_of_ble_eq_true rfl) rfl rfl r4 ?_
      refine g_if_eq 32 28 rfl rfl (fun c5 => ?_) (fun c5 => ?_)
      · rw [if_pos c5] at h
        refine g_iconst (v := 3) 33 rfl rfl rfl ?_
        subst h
        exact g_iret rfl rfl
      · rw [if_neg c5] at h
        refine g_iconst (v := 0) 29 rfl rfl rfl ?_
        refine g_goto 33 rfl ?_
        subst h
        exact g_iret rfl rfl
    · rw [if_neg c3] at h
      refine g_iconst (v := 2) 20 rfl rfl rfl ?_
      subst h
      exact g_iret rfl rfl

def f_114 (x1 : Int32) (x2 : Int32) (x3 : Int64) (U : sU) : Int32 × sU :=
  if (f_161 x1 U) = 0 then
    match sat x1 with
    | none =>
      match f_157 (f_161 x1 U) U with
      | (q5, W6) =>
      (q5, W6)
    | some o4 =>
      if (f_85 o4 x2 U) = 0 then
        match f_157 5 U with
        | (q9, W10) =>
        (q9, W10)
      else
        (1, jput o4 x2 x3 U)
  else
    match f_157 (f_161 x1 U) U with
    | (q2, W3) =>
    (q2, W3)
set_option maxRecDepth 10000 in
set_option maxHeartbeats 2000000 in
theorem F_114 (d : Nat) (x1 : Int32) (x2 : Int32) (x3 : Int64) (U : sU) : Rn (d + 2) sm_I114 [.ref 0, .int x1, .int x2, .long x3] U (some (.int (f_114 x1 x2 x3 U).1)) (f_114 x1 x2 x3 U).2 := by
  refine Rn_of [(0, .ref 0), (1, .int x1), (2, .int x2), (3, .long x3)] (Nat.le_of_ble_eq_true rfl) (Sc rfl (Sc rfl (Sc rfl (Sc rfl (Sn _))))) ?_
  rcases h : f_114 x1 x2 x3 U with ⟨r, U'⟩
  dsimp only
  first | rw [f_114] at h | rw [f_114.eq_def] at h
  refine g_aload_n 1 rfl rfl rfl ?_
  refine g_iload_n 2 rfl rfl rfl ?_
  refine g_callV (J := sm_I161) 5 rfl (Nat.le_of_ble_eq_true rfl) rfl rfl (Nat.le_of_ble_eq_true rfl) s_0 (Nat.le_of_ble_eq_true rfl) (Nat.le_of_ble_eq_true rfl) rfl rfl (F_161 d x1 U) ?_
  refine g_istore 7 [(5, .int (f_161 x1 U)), (0, .ref 0), (1, .int x1), (2, .int x2), (3, .long x3)] rfl (Nat.le_of_ble_eq_true rfl) rfl rfl ?_
  refine g_aload_n 8 rfl rfl rfl ?_
  refine g_iload_n 9 rfl rfl rfl ?_
  refine g_callV (J := sm_I160) 12 rfl (Nat.le_of_ble_eq_true rfl) rfl rfl (Nat.le_of_ble_eq_true rfl) s_0 (Nat.le_of_ble_eq_true rfl) (Nat.le_of_ble_eq_true rfl) rfl rfl (U_160 (d + 1) x1 U) ?_
  refine g_astoreq (x := sat x1) 14 [(6, va_rf (sat x1)), (5, .int (f_161 x1 U)), (0, .ref 0), (1, .int x1), (2, .int x2), (3, .long x3)] rfl (Nat.le_of_ble_eq_true rfl) rfl rfl ?_
  refine g_iload 16 rfl rfl rfl ?_
  refine g_if_ne 24 19 rfl rfl (fun c1 => ?_) (fun c1 => ?_)
  · rw [if_neg c1] at h
    refine g_aload_n 25 rfl rfl rfl ?_
    refine g_iload 27 rfl rfl rfl ?_
    have tq2 := F_157 d (f_161 x1 U) U
    rcases hq2 : f_157 (f_161 x1 U) U with ⟨q2, W3⟩
    rw [hq2] at h tq2
    dsimp only at h tq2
    refine g_callV (J := sm_I157) 30 rfl (Nat.le_of_ble_eq_true rfl) rfl rfl (Nat.le_of_ble_eq_true rfl) s_0 (Nat.le_of_ble_eq_true rfl) (Nat.le_of_ble_eq_true rfl) rfl rfl tq2 ?_
    cases h
    exact g_iret rfl rfl
  · rw [if_pos c1] at h
    refine g_aloadq (x := sat x1) 21 rfl rfl rfl ?_
    rcases ho4 : sat x1 with _ | o4
    · rw [ho4] at h
      dsimp only at h
      refine g_ifnonnullN 24 rfl rfl ?_
      refine g_aload_n 25 rfl rfl rfl ?_
      refine g_iload 27 rfl rfl rfl ?_
      have tq5 := F_157 d (f_161 x1 U) U
      rcases hq5 : f_157 (f_161 x1 U) U with ⟨q5, W6⟩
      rw [hq5] at h tq5
      dsimp only at h tq5
      refine g_callV (J := sm_I157) 30 rfl (Nat.le_of_ble_eq_true rfl) rfl rfl (Nat.le_of_ble_eq_true rfl) s_0 (Nat.le_of_ble_eq_true rfl) (Nat.le_of_ble_eq_true rfl) rfl rfl tq5 ?_
      cases h
      exact g_iret rfl rfl
    · rw [ho4] at h
      dsimp only at h
      refine g_ifnonnull 31 rfl rfl ?_
      refine g_aload 33 rfl rfl rfl ?_
      refine g_iload_n 34 rfl rfl rfl ?_
      have r7 := F_85 (d + 1) o4 ((fun z hz => tagU_160 x1 U z hz) o4 ho4) x2 U
      refine g_callV (J := sm_I85) 37 rfl (Nat.le_of_ble_eq_true rfl) rfl rfl (Nat.le_of_ble_eq_true rfl) ((fun z hz => tagU_160 x1 U z hz) o4 ho4) (Nat.le_of_ble_eq_true rfl) (Nat.le_of_ble_eq_true rfl) rfl rfl r7 ?_
      refine g_if_ne 46 40 rfl rfl (fun c8 => ?_) (fun c8 => ?_)
      · rw [if_neg c8] at h
        refine g_aload 48 rfl rfl rfl ?_
        refine g_iload_n 49 rfl rfl rfl ?_
        refine g_lload_n 50 rfl rfl rfl ?_
        refine g_callV (J := sm_I89) 53 rfl (Nat.le_of_ble_eq_true rfl) rfl rfl (Nat.le_of_ble_eq_true rfl) ((fun z hz => tagU_160 x1 U z hz) o4 ho4) (Nat.le_of_ble_eq_true rfl) (Nat.le_of_ble_eq_true rfl) rfl rfl (U_89 d o4 ((fun z hz => tagU_160 x1 U z hz) o4 ho4) x2 x3 U) ?_
        refine g_iconst (v := 1) 54 rfl rfl rfl ?_
        cases h
        exact g_iret rfl rfl
      · rw [if_pos c8] at h
        refine g_aload_n 41 rfl rfl rfl ?_
        refine g_iconst (v := 5) 42 rfl rfl rfl ?_
        have tq9 := F_157 d 5 U
        rcases hq9 : f_157 5 U with ⟨q9, W10⟩
        rw [hq9] at h tq9
        dsimp only at h tq9
        refine g_callV (J := sm_I157) 45 rfl (Nat.le_of_ble_eq_true rfl) rfl rfl (Nat.le_of_ble_eq_true rfl) s_0 (Nat.le_of_ble_eq_true rfl) (Nat.le_of_ble_eq_true rfl) rfl rfl tq9 ?_
        cases h
        exact g_iret rfl rfl

def f_115_87 (v3 : Int32) (v4 : Int32) (v5 : Int32) (v6 : Option Nat) (v7 : Option Nat) (U : sU) : Option (Int32 × sU) :=
  match v6 with
  | none => none
  | some o1 =>
    if (f_80 o1 U) = 0 then
      match f_157 3 U with
      | (q4, W5) =>
      some (q4, W5)
    else
      match v7 with
      | none => none
      | some o6 =>
        if (f_80 o6 U) = 0 then
          match f_157 3 U with
          | (q21, W22) =>
          some (q21, W22)
        else
          if 0 ≤ v5 then
            if (f_86 o1 v3 v5 U) = 0 then
              match f_157 5 U with
              | (q12, W13) =>
              some (q12, W13)
            else
              if (f_86 o6 v4 v5 U) = 0 then
                match f_157 5 U with
                | (q17, W18) =>
                some (q17, W18)
              else
                Option.bind (f_91 o6 o1 v3 v4 v5 U) fun q16 =>
                some (1, q16)
          else
            match f_157 4 U with
            | (q19, W20) =>
            some (q19, W20)
set_option maxRecDepth 10000 in
set_option maxHeartbeats 2000000 in
theorem F_115_87 (d : Nat)   (v3 : Int32) (v4 : Int32) (v5 : Int32) (v6 : Option Nat) (hv6 : ∀ z, v6 = some z → sh z = 6) (v7 : Option Nat) (hv7 : ∀ z, v7 = some z → sh z = 6) {U : sU} {r : Int32} {U' : sU} (h : f_115_87 v3 v4 v5 v6 v7 U = some (r, U')) : G (d + 2) sm_I115 87 [(0, .ref 0), (3, .int v3), (4, .int v4), (5, .int v5), (6, va_rf v6), (7, va_rf v7)] [] U (some (.int r)) U' := by
  first | rw [f_115_87] at h | rw [f_115_87.eq_def] at h
  refine g_aloadq (x := v6) 89 rfl rfl rfl ?_
  rcases ho1 : v6 with _ | o1
  · rw [ho1] at h; cases h
  rw [ho1] at h
  dsimp only at h
  have r2 := F_80 (d + 1) o1 (hv6 o1 ho1) U
  refine g_callV (J := sm_I80) 92 rfl (Nat.le_of_ble_eq_true rfl) rfl rfl (Nat.le_of_ble_eq_true rfl) (hv6 o1 ho1) (Nat.le_of_ble_eq_true rfl) (Nat.le_of_ble_eq_true rfl) rfl rfl r2 ?_
  refine g_if_eq 103 95 rfl rfl (fun c3 => ?_) (fun c3 => ?_)
  · rw [if_pos c3] at h
    refine g_aload_n 104 rfl rfl rfl ?_
    refine g_iconst (v := 3) 105 rfl rfl rfl ?_
    have tq4 := F_157 d 3 U
    rcases hq4 : f_157 3 U with ⟨q4, W5⟩
    rw [hq4] at h tq4
    dsimp only at h tq4
    refine g_callV (J := sm_I157) 108 rfl (Nat.le_of_ble_eq_true rfl) rfl rfl (Nat.le_of_ble_eq_true rfl) s_0 (Nat.le_of_ble_eq_true rfl) (Nat.le_of_ble_eq_true rfl) rfl rfl tq4 ?_
    cases h
    exact g_iret rfl rfl
  · rw [if_neg c3] at h
    refine g_aloadq (x := v7) 97 rfl rfl rfl ?_
    rcases ho6 : v7 with _ | o6
    · rw [ho6] at h; cases h
    rw [ho6] at h
    dsimp only at h
    have r7 := F_80 (d + 1) o6 (hv7 o6 ho6) U
    refine g_callV (J := sm_I80) 100 rfl (Nat.le_of_ble_eq_true rfl) rfl rfl (Nat.le_of_ble_eq_true rfl) (hv7 o6 ho6) (Nat.le_of_ble_eq_true rfl) (Nat.le_of_ble_eq_true rfl) rfl rfl r7 ?_
    refine g_if_ne 109 103 rfl rfl (fun c8 => ?_) (fun c8 => ?_)
    · rw [if_neg c8] at h
      refine g_iload 111 rfl rfl rfl ?_
      refine g_if_ge 120 114 rfl rfl (fun c9 => ?_) (fun c9 => ?_)
      · rw [if_pos c9] at h
        refine g_aload 122 rfl rfl rfl ?_
        refine g_iload_n 123 rfl rfl rfl ?_
        refine g_iload 125 rfl rfl rfl ?_
        have r10 := F_86 (d + 1) o1 (hv6 o1 ho1) v3 v5 U
        refine g_callV (J := sm_I86) 128 rfl (Nat.le_of_ble_eq_true rfl) rfl rfl (Nat.le_of_ble_eq_true rfl) (hv6 o1 ho1) (Nat.le_of_ble_eq_true rfl) (Nat.le_of_ble_eq_true rfl) rfl rfl r10 ?_
        refine g_if_eq 143 131 rfl rfl (fun c11 => ?_) (fun c11 => ?_)
        · rw [if_pos c11] at h
          refine g_aload_n 144 rfl rfl rfl ?_
          refine g_iconst (v := 5) 145 rfl rfl rfl ?_
          have tq12 := F_157 d 5 U
          rcases hq12 : f_157 5 U with ⟨q12, W13⟩
          rw [hq12] at h tq12
          dsimp only at h tq12
          refine g_callV (J := sm_I157) 148 rfl (Nat.le_of_ble_eq_true rfl) rfl rfl (Nat.le_of_ble_eq_true rfl) s_0 (Nat.le_of_ble_eq_true rfl) (Nat.le_of_ble_eq_true rfl) rfl rfl tq12 ?_
          cases h
          exact g_iret rfl rfl
        · rw [if_neg c11] at h
          refine g_aload 133 rfl rfl rfl ?_
          refine g_iload 135 rfl rfl rfl ?_
          refine g_iload 137 rfl rfl rfl ?_
          have r14 := F_86 (d + 1) o6 (hv7 o6 ho6) v4 v5 U
          refine g_callV (J := sm_I86) 140 rfl (Nat.le_of_ble_eq_true rfl) rfl rfl (Nat.le_of_ble_eq_true rfl) (hv7 o6 ho6) (Nat.le_of_ble_eq_true rfl) (Nat.le_of_ble_eq_true rfl) rfl rfl r14 ?_
          refine g_if_ne 149 143 rfl rfl (fun c15 => ?_) (fun c15 => ?_)
          · rw [if_neg c15] at h
            refine g_aload 151 rfl rfl rfl ?_
            refine g_aload 153 rfl rfl rfl ?_
            refine g_iload_n 154 rfl rfl rfl ?_
            refine g_iload 156 rfl rfl rfl ?_
            refine g_iload 158 rfl rfl rfl ?_
            obtain ⟨q16, hq16, h⟩ := Option.bind_eq_some_iff.mp h
            refine g_callV (J := sm_I91) 161 rfl (Nat.le_of_ble_eq_true rfl) rfl rfl (Nat.le_of_ble_eq_true rfl) (hv7 o6 ho6) (Nat.le_of_ble_eq_true rfl) (Nat.le_of_ble_eq_true rfl) rfl rfl (F_91 d o6 (hv7 o6 ho6) o1 (hv6 o1 ho1) v3 v4 v5 hq16) ?_
            refine g_iconst (v := 1) 162 rfl rfl rfl ?_
            cases h
            exact g_iret rfl rfl
          · rw [if_pos c15] at h
            refine g_aload_n 144 rfl rfl rfl ?_
            refine g_iconst (v := 5) 145 rfl rfl rfl ?_
            have tq17 := F_157 d 5 U
            rcases hq17 : f_157 5 U with ⟨q17, W18⟩
            rw [hq17] at h tq17
            dsimp only at h tq17
            refine g_callV (J := sm_I157) 148 rfl (Nat.le_of_ble_eq_true rfl) rfl rfl (Nat.le_of_ble_eq_true rfl) s_0 (Nat.le_of_ble_eq_true rfl) (Nat.le_of_ble_eq_true rfl) rfl rfl tq17 ?_
            cases h
            exact g_iret rfl rfl
      · rw [if_neg c9] at h
        refine g_aload_n 115 rfl rfl rfl ?_
        refine g_iconst (v := 4) 116 rfl rfl rfl ?_
        have tq19 := F_157 d 4 U
        rcases hq19 : f_157 4 U with ⟨q19, W20⟩
        rw [hq19] at h tq19
        dsimp only at h tq19
        refine g_callV (J := sm_I157) 119 rfl (Nat.le_of_ble_eq_true rfl) rfl rfl (Nat.le_of_ble_eq_true rfl) s_0 (Nat.le_of_ble_eq_true rfl) (Nat.le_of_ble_eq_true rfl) rfl rfl tq19 ?_
        cases h
        exact g_iret rfl rfl
    · rw [if_pos c8] at h
      refine g_aload_n 104 rfl rfl rfl ?_
      refine g_iconst (v := 3) 105 rfl rfl rfl ?_
      have tq21 := F_157 d 3 U
      rcases hq21 : f_157 3 U with ⟨q21, W22⟩
      rw [hq21] at h tq21
      dsimp only at h tq21
      refine g_callV (J := sm_I157) 108 rfl (Nat.le_of_ble_eq_true rfl) rfl rfl (Nat.le_of_ble_eq_true rfl) s_0 (Nat.le_of_ble_eq_true rfl) (Nat.le_of_ble_eq_true rfl) rfl rfl tq21 ?_
      cases h
      exact g_iret rfl rfl
def f_115 (x1 : Int32) (x2 : Int32) (x3 : Int32) (x4 : Int32) (x5 : Int32) (U : sU) : Option (Int32 × sU) :=
  match sat x1 with
  | none =>
    match f_157 1 U with
    | (q24, W25) =>
    some (q24, W25)
  | some o23 =>
    match sat x2 with
    | none =>
      match f_157 1 U with
      | (q27, W28) =>
      some (q27, W28)
    | some o26 =>
      if (f_81 o23 U) = 0 then
        if (f_81 o26 U) = 0 then
          if (f_80 o23 U) = 0 then
            f_115_87 x3 x4 x5 (some o23) (some o26) U
          else
            if (f_80 o26 U) = 0 then
              f_115_87 x3 x4 x5 (some o23) (some o26) U
            else
              if (U.1 o23 2) = (U.1 o26 2) then
                f_115_87 x3 x4 x5 (some o23) (some o26) U
              else
                match f_157 2 U with
                | (q40, W41) =>
                some (q40, W41)
        else
          match f_157 2 U with
          | (q42, W43) =>
          some (q42, W43)
      else
        match f_157 2 U with
        | (q31, W32) =>
        some (q31, W32)
set_option maxRecDepth 10000 in
set_option maxHeartbeats 2000000 in
theorem F_115 (d : Nat) (x1 : Int32) (x2 : Int32) (x3 : Int32) (x4 : Int32) (x5 : Int32) {U : sU} {r : Int32} {U' : sU} (h : f_115 x1 x2 x3 x4 x5 U = some (r, U')) : Rn (d + 2) sm_I115 [.ref 0, .int x1, .int x2, .int x3, .int x4, .int x5] U (some (.int r)) U' := by
  refine Rn_of [(0, .ref 0), (1, .int x1), (2, .int x2), (3, .int x3), (4, .int x4), (5, .int x5)] (Nat.le_of_ble_eq_true rfl) (Sc rfl (Sc rfl (Sc rfl (Sc rfl (Sc rfl (Sc rfl (Sn _))))))) ?_
  first | rw [f_115] at h | rw [f_115.eq_def] at h
  refine g_aload_n 1 rfl rfl rfl ?_
  refine g_iload_n 2 rfl rfl rfl ?_
  refine g_callV (J := sm_I160) 5 rfl (Nat.le_of_ble_eq_true rfl) rfl rfl (Nat.le_of_ble_eq_true rfl) s_0 (Nat.le_of_ble_eq_true rfl) (Nat.le_of_ble_eq_true rfl) rfl rfl (U_160 (d + 1) x1 U) ?_
  refine g_astoreq (x := sat x1) 7 [(6, va_rf (sat x1)), (0, .ref 0), (1, .int x1), (2, .int x2), (3, .int x3), (4, .int x4), (5, .int x5)] rfl (Nat.le_of_ble_eq_true rfl) rfl rfl ?_
  refine g_aload_n 8 rfl rfl rfl ?_
  refine g_iload_n 9 rfl rfl rfl ?_
  refine g_callV (J := sm_I160) 12 rfl (Nat.le_of_ble_eq_true rfl) rfl rfl (Nat.le_of_ble_eq_true rfl) s_0 (Nat.le_of_ble_eq_true rfl) (Nat.le_of_ble_eq_true rfl) rfl rfl (U_160 (d + 1) x2 U) ?_
  refine g_astoreq (x := sat x2) 14 [(7, va_rf (sat x2)), (6, va_rf (sat x1)), (0, .ref 0), (1, .int x1), (2, .int x2), (3, .int x3), (4, .int x4), (5, .int x5)] rfl (Nat.le_of_ble_eq_true rfl) (by generalize sat x1 = y; cases y <;> rfl) rfl ?_
  refine g_aloadq (x := sat x1) 16 rfl rfl rfl ?_
  rcases ho23 : sat x1 with _ | o23
  · rw [ho23] at h
    dsimp only at h
    refine g_ifnullN 24 rfl rfl ?_
    refine g_aload_n 25 rfl rfl rfl ?_
    refine g_iconst (v := 1) 26 rfl rfl rfl ?_
    have tq24 := F_157 d 1 U
    rcases hq24 : f_157 1 U with ⟨q24, W25⟩
    rw [hq24] at h tq24
    dsimp only at h tq24
    refine g_callV (J := sm_I157) 29 rfl (Nat.le_of_ble_eq_true rfl) rfl rfl (Nat.le_of_ble_eq_true rfl) s_0 (Nat.le_of_ble_eq_true rfl) (Nat.le_of_ble_eq_true rfl) rfl rfl tq24 ?_
    cases h
    exact g_iret rfl rfl
  · rw [ho23] at h
    dsimp only at h
    refine g_ifnull 19 rfl rfl ?_
    refine g_aloadq (x := sat x2) 21 rfl rfl rfl ?_
    rcases ho26 : sat x2 with _ | o26
    · rw [ho26] at h
      dsimp only at h
      refine g_ifnonnullN 24 rfl rfl ?_
      refine g_aload_n 25 rfl rfl rfl ?_
      refine g_iconst (v := 1) 26 rfl rfl rfl ?_
      have tq27 := F_157 d 1 U
      rcases hq27 : f_157 1 U with ⟨q27, W28⟩
      rw [hq27] at h tq27
      dsimp only at h tq27
      refine g_callV (J := sm_I157) 29 rfl (Nat.le_of_ble_eq_true rfl) rfl rfl (Nat.le_of_ble_eq_true rfl) s_0 (Nat.le_of_ble_eq_true rfl) (Nat.le_of_ble_eq_true rfl) rfl rfl tq27 ?_
      cases h
      exact g_iret rfl rfl
    · rw [ho26] at h
      dsimp only at h
      refine g_ifnonnull 30 rfl rfl ?_
      refine g_aload 32 rfl rfl rfl ?_
      have r29 := F_81 (d + 1) o23 ((fun z hz => tagU_160 x1 U z hz) o23 ho23) U
      refine g_callV (J := sm_I81) 35 rfl (Nat.le_of_ble_eq_true rfl) rfl rfl (Nat.le_of_ble_eq_true rfl) ((fun z hz => tagU_160 x1 U z hz) o23 ho23) (Nat.le_of_ble_eq_true rfl) (Nat.le_of_ble_eq_true rfl) rfl rfl r29 ?_
      refine g_if_ne 46 38 rfl rfl (fun c30 => ?_) (fun c30 => ?_)
      · rw [if_neg c30] at h
        refine g_aload_n 47 rfl rfl rfl ?_
        refine g_iconst (v := 2) 48 rfl rfl rfl ?_
        have tq31 := F_157 d 2 U
        rcases hq31 : f_157 2 U with ⟨q31, W32⟩
        rw [hq31] at h tq31
        dsimp only at h tq31
        refine g_callV (J := sm_I157) 51 rfl (Nat.le_of_ble_eq_true rfl) rfl rfl (Nat.le_of_ble_eq_true rfl) s_0 (Nat.le_of_ble_eq_true rfl) (Nat.le_of_ble_eq_true rfl) rfl rfl tq31 ?_
        cases h
        exact g_iret rfl rfl
      · rw [if_pos c30] at h
        refine g_aload 40 rfl rfl rfl ?_
        have r33 := F_81 (d + 1) o26 ((fun z hz => tagU_160 x2 U z hz) o26 ho26) U
        refine g_callV (J := sm_I81) 43 rfl (Nat.le_of_ble_eq_true rfl) rfl rfl (Nat.le_of_ble_eq_true rfl) ((fun z hz => tagU_160 x2 U z hz) o26 ho26) (Nat.le_of_ble_eq_true rfl) (Nat.le_of_ble_eq_true rfl) rfl rfl r33 ?_
        refine g_if_eq 52 46 rfl rfl (fun c34 => ?_) (fun c34 => ?_)
        · rw [if_pos c34] at h
          refine g_aload 54 rfl rfl rfl ?_
          have r35 := F_80 (d + 1) o23 ((fun z hz => tagU_160 x1 U z hz) o23 ho23) U
          refine g_callV (J := sm_I80) 57 rfl (Nat.le_of_ble_eq_true rfl) rfl rfl (Nat.le_of_ble_eq_true rfl) ((fun z hz => tagU_160 x1 U z hz) o23 ho23) (Nat.le_of_ble_eq_true rfl) (Nat.le_of_ble_eq_true rfl) rfl rfl r35 ?_
          refine g_if_eq 87 60 rfl rfl (fun c36 => ?_) (fun c36 => ?_)
          · rw [if_pos c36] at h
            exact g_sub (Sc rfl (Sc rfl (Sc rfl (Sc rfl (Sc rfl (Sc rfl (Sn _))))))) (F_115_87 d x3 x4 x5 (some o23) (fun z hz => by cases hz; exact ((fun z hz => tagU_160 x1 U z hz) o23 ho23)) (some o26) (fun z hz => by cases hz; exact ((fun z hz => tagU_160 x2 U z hz) o26 ho26)) h)
          · rw [if_neg c36] at h
            refine g_aload 62 rfl rfl rfl ?_
            have r37 := F_80 (d + 1) o26 ((fun z hz => tagU_160 x2 U z hz) o26 ho26) U
            refine g_callV (J := sm_I80) 65 rfl (Nat.le_of_ble_eq_true rfl) rfl rfl (Nat.le_of_ble_eq_true rfl) ((fun z hz => tagU_160 x2 U z hz) o26 ho26) (Nat.le_of_ble_eq_true rfl) (Nat.le_of_ble_eq_true rfl) rfl rfl r37 ?_
            refine g_if_eq 87 68 rfl rfl (fun c38 => ?_) (fun c38 => ?_)
            · rw [if_pos c38] at h
              exact g_sub (Sc rfl (Sc rfl (Sc rfl (Sc rfl (Sc rfl (Sc rfl (Sn _))))))) (F_115_87 d x3 x4 x5 (some o23) (fun z hz => by cases hz; exact ((fun z hz => tagU_160 x1 U z hz) o23 ho23)) (some o26) (fun z hz => by cases hz; exact ((fun z hz => tagU_160 x2 U z hz) o26 ho26)) h)
            · rw [if_neg c38] at h
              refine g_aload 70 rfl rfl rfl ?_
              refine g_get 73 rfl ((fun z hz => tagU_160 x1 U z hz) o23 ho23) (Nat.le_of_ble_eq_true rfl) rfl rfl ?_
              refine g_aload 75 rfl rfl rfl ?_
              refine g_get 78 rfl ((fun z hz => tagU_160 x2 U z hz) o26 ho26) (Nat.le_of_ble_eq_true rfl) rfl rfl ?_
              refine g_icmp_eq 87 81 rfl rfl (fun c39 => ?_) (fun c39 => ?_)
              · rw [if_pos c39] at h
                exact g_sub (Sc rfl (Sc rfl (Sc rfl (Sc rfl (Sc rfl (Sc rfl (Sn _))))))) (F_115_87 d x3 x4 x5 (some o23) (fun z hz => by cases hz; exact ((fun z hz => tagU_160 x1 U z hz) o23 ho23)) (some o26) (fun z hz => by cases hz; exact ((fun z hz => tagU_160 x2 U z hz) o26 ho26)) h)
              · rw [if_neg c39] at h
                refine g_aload_n 82 rfl rfl rfl ?_
                refine g_iconst (v := 2) 83 rfl rfl rfl ?_
                have tq40 := F_157 d 2 U
                rcases hq40 : f_157 2 U with ⟨q40, W41⟩
                rw [hq40] at h tq40
                dsimp only at h tq40
                refine g_callV (J := sm_I157) 86 rfl (Nat.le_of_ble_eq_true rfl) rfl rfl (Nat.le_of_ble_eq_true rfl) s_0 (Nat.le_of_ble_eq_true rfl) (Nat.le_of_ble_eq_true rfl) rfl rfl tq40 ?_
                cases h
                exact g_iret rfl rfl
        · rw [if_neg c34] at h
          refine g_aload_n 47 rfl rfl rfl ?_
          refine g_iconst (v := 2) 48 rfl rfl rfl ?_
          have tq42 := F_157 d 2 U
          rcases hq42 : f_157 2 U with ⟨q42, W43⟩
          rw [hq42] at h tq42
          dsimp only at h tq42
          refine g_callV (J := sm_I157) 51 rfl (Nat.le_of_ble_eq_true rfl) rfl rfl (Nat.le_of_ble_eq_true rfl) s_0 (Nat.le_of_ble_eq_true rfl) (Nat.le_of_ble_eq_true rfl) rfl rfl tq42 ?_
          cases h
          exact g_iret rfl rfl

def f_116 (x1 : Int32) (x2 : Int32) (U : sU) : Int64 :=
  match sat x1 with
  | none =>
    0
  | some o1 =>
    jget o1 x2 U
set_option maxRecDepth 10000 in
set_option maxHeartbeats 2000000 in
theorem F_116 (d : Nat) (x1 : Int32) (x2 : Int32) (U : sU) : Rn (d + 2) sm_I116 [.ref 0, .int x1, .int x2] U (some (.long (f_116 x1 x2 U))) U := by
  refine Rn_of [(0, .ref 0), (1, .int x1), (2, .int x2)] (Nat.le_of_ble_eq_true rfl) (Sc rfl (Sc rfl (Sc rfl (Sn _)))) ?_
  generalize h : f_116 x1 x2 U = r
  first | rw [f_116] at h | rw [f_116.eq_def] at h
  refine g_aload_n 1 rfl rfl rfl ?_
  refine g_iload_n 2 rfl rfl rfl ?_
  refine g_callV (J := sm_I160) 5 rfl (Nat.le_of_ble_eq_true rfl) rfl rfl (Nat.le_of_ble_eq_true rfl) s_0 (Nat.le_of_ble_eq_true rfl) (Nat.le_of_ble_eq_true rfl) rfl rfl (U_160 (d + 1) x1 U) ?_
  refine g_astore_nq (x := sat x1) 6 [(3, va_rf (sat x1)), (0, .ref 0), (1, .int x1), (2, .int x2)] rfl (Nat.le_of_ble_eq_true rfl) rfl rfl ?_
  refine g_aload_nq (x := sat x1) 7 rfl rfl rfl ?_
  rcases ho1 : sat x1 with _ | o1
  · rw [ho1] at h
    dsimp only at h
    refine g_ifnonnullN 10 rfl rfl ?_
    refine g_lconst (v := 0) 11 rfl rfl rfl ?_
    refine g_goto 19 rfl ?_
    subst h
    exact g_lret rfl rfl
  · rw [ho1] at h
    dsimp only at h
    refine g_ifnonnull 14 rfl rfl ?_
    refine g_aload_n 15 rfl rfl rfl ?_
    refine g_iload_n 16 rfl rfl rfl ?_
    refine g_callV (J := sm_I87) 19 rfl (Nat.le_of_ble_eq_true rfl) rfl rfl (Nat.le_of_ble_eq_true rfl) ((fun z hz => tagU_160 x1 U z hz) o1 ho1) (Nat.le_of_ble_eq_true rfl) (Nat.le_of_ble_eq_true rfl) rfl rfl (U_87 d o1 ((fun z hz => tagU_160 x1 U z hz) o1 ho1) x2 U) ?_
    subst h
    exact g_lret rfl rfl

def f_117 (x1 : Int32) (x2 : Int32) (U : sU) : Int32 × sU :=
  match sat x1 with
  | none =>
    match f_157 1 U with
    | (q2, W3) =>
    (q2, W3)
  | some o1 =>
    if x2 = ((-1)) then
      (0, f_83 o1 U)
    else
      match mat 2 x2 U with
      | none =>
        match f_157 1 U with
        | (q6, W7) =>
        (q6, W7)
      | some o5 =>
        (1, f_84 o1 x2 U)
set_option maxRecDepth 10000 in
set_option maxHeartbeats 2000000 in
theorem F_117 (d : Nat) (x1 : Int32) (x2 : Int32) (U : sU) : Rn (d + 2) sm_I117 [.ref 0, .int x1, .int x2] U (some (.int (f_117 x1 x2 U).1)) (f_117 x1 x2 U).2 := by
  refine Rn_of [(0, .ref 0), (1, .int x1), (2, .int x2)] (Nat.le_of_ble_eq_true rfl) (Sc rfl (Sc rfl (Sc rfl (Sn _)))) ?_
  rcases h : f_117 x1 x2 U with ⟨r, U'⟩
  dsimp only
  first | rw [f_117] at h | rw [f_117.eq_def] at h
  refine g_aload_n 1 rfl rfl rfl ?_
  refine g_iload_n 2 rfl rfl rfl ?_
  refine g_callV (J := sm_I160) 5 rfl (Nat.le_of_ble_eq_true rfl) rfl rfl (Nat.le_of_ble_eq_true rfl) s_0 (Nat.le_of_ble_eq_true rfl) (Nat.le_of_ble_eq_true rfl) rfl rfl (U_160 (d + 1) x1 U) ?_
  refine g_astore_nq (x := sat x1) 6 [(3, va_rf (sat x1)), (0, .ref 0), (1, .int x1), (2, .int x2)] rfl (Nat.le_of_ble_eq_true rfl) rfl rfl ?_
  refine g_aload_nq (x := sat x1) 7 rfl rfl rfl ?_
  rcases ho1 : sat x1 with _ | o1
  · rw [ho1] at h
    dsimp only at h
    refine g_ifnonnullN 10 rfl rfl ?_
    refine g_aload_n 11 rfl rfl rfl ?_
    refine g_iconst (v := 1) 12 rfl rfl rfl ?_
    have tq2 := F_157 d 1 U
    rcases hq2 : f_157 1 U with ⟨q2, W3⟩
    rw [hq2] at h tq2
    dsimp only at h tq2
    refine g_callV (J := sm_I157) 15 rfl (Nat.le_of_ble_eq_true rfl) rfl rfl (Nat.le_of_ble_eq_true rfl) s_0 (Nat.le_of_ble_eq_true rfl) (Nat.le_of_ble_eq_true rfl) rfl rfl tq2 ?_
    cases h
    exact g_iret rfl rfl
  · rw [ho1] at h
    dsimp only at h
    refine g_ifnonnull 16 rfl rfl ?_
    refine g_iload_n 17 rfl rfl rfl ?_
    refine g_iconst (v := (-1)) 18 rfl rfl rfl ?_
    refine g_icmp_ne 27 21 rfl rfl (fun c4 => ?_) (fun c4 => ?_)
    · rw [if_neg c4] at h
      refine g_aload_n 28 rfl rfl rfl ?_
      refine g_get 31 rfl s_0 (Nat.le_of_ble_eq_true rfl) rfl rfl ?_
      refine g_iload_n 32 rfl rfl rfl ?_
      refine g_callV (J := sm_I94) 35 rfl (Nat.le_of_ble_eq_true rfl) rfl rfl (Nat.le_of_ble_eq_true rfl) s_2 (Nat.le_of_ble_eq_true rfl) (Nat.le_of_ble_eq_true rfl) rfl rfl (U_94 (d + 1) 2 s_2 x2 U) ?_
      rcases ho5 : mat 2 x2 U with _ | o5
      · rw [ho5] at h
        dsimp only at h
        refine g_ifnonnullN 38 rfl rfl ?_
        refine g_aload_n 39 rfl rfl rfl ?_
        refine g_iconst (v := 1) 40 rfl rfl rfl ?_
        have tq6 := F_157 d 1 U
        rcases hq6 : f_157 1 U with ⟨q6, W7⟩
        rw [hq6] at h tq6
        dsimp only at h tq6
        refine g_callV (J := sm_I157) 43 rfl (Nat.le_of_ble_eq_true rfl) rfl rfl (Nat.le_of_ble_eq_true rfl) s_0 (Nat.le_of_ble_eq_true rfl) (Nat.le_of_ble_eq_true rfl) rfl rfl tq6 ?_
        cases h
        exact g_iret rfl rfl
      · rw [ho5] at h
        dsimp only at h
        refine g_ifnonnull 44 rfl rfl ?_
        refine g_aload_n 45 rfl rfl rfl ?_
        refine g_iload_n 46 rfl rfl rfl ?_
        refine g_callV (J := sm_I84) 49 rfl (Nat.le_of_ble_eq_true rfl) rfl rfl (Nat.le_of_ble_eq_true rfl) ((fun z hz => tagU_160 x1 U z hz) o1 ho1) (Nat.le_of_ble_eq_true rfl) (Nat.le_of_ble_eq_true rfl) rfl rfl (F_84 d o1 ((fun z hz => tagU_160 x1 U z hz) o1 ho1) x2 U) ?_
        refine g_iconst (v := 1) 50 rfl rfl rfl ?_
        cases h
        exact g_iret rfl rfl
    · rw [if_pos c4] at h
      refine g_aload_n 22 rfl rfl rfl ?_
      refine g_callV (J := sm_I83) 25 rfl (Nat.le_of_ble_eq_true rfl) rfl rfl (Nat.le_of_ble_eq_true rfl) ((fun z hz => tagU_160 x1 U z hz) o1 ho1) (Nat.le_of_ble_eq_true rfl) (Nat.le_of_ble_eq_true rfl) rfl rfl (F_83 (d + 1) o1 ((fun z hz => tagU_160 x1 U z hz) o1 ho1) U) ?_
      refine g_iconst (v := 0) 26 rfl rfl rfl ?_
      cases h
      exact g_iret rfl rfl

def f_118 (x1 : Int32) (U : sU) : Int32 :=
  match sat x1 with
  | none =>
    (-1)
  | some o1 =>
    if (f_80 o1 U) = 0 then
      if (f_81 o1 U) = 0 then
        (-1)
      else
        U.1 o1 4
    else
      100 + (U.1 o1 2)
set_option maxRecDepth 10000 in
set_option maxHeartbeats 2000000 in
theorem F_118 (d : Nat) (x1 : Int32) (U : sU) : Rn (d + 1) sm_I118 [.ref 0, .int x1] U (some (.int (f_118 x1 U))) U := by
  refine Rn_of [(0, .ref 0), (1, .int x1)] (Nat.le_of_ble_eq_true rfl) (Sc rfl (Sc rfl (Sn _))) ?_
  generalize h : f_118 x1 U = r
  first | rw [f_118] at h | rw [f_118.eq_def] at h
  refine g_aload_n 1 rfl rfl rfl ?_
  refine g_iload_n 2 rfl rfl rfl ?_
  refine g_callV (J := sm_I160) 5 rfl (Nat.le_of_ble_eq_true rfl) rfl rfl (Nat.le_of_ble_eq_true rfl) s_0 (Nat.le_of_ble_eq_true rfl) (Nat.le_of_ble_eq_true rfl) rfl rfl (U_160 d x1 U) ?_
  refine g_astore_nq (x := sat x1) 6 [(2, va_rf (sat x1)), (0, .ref 0), (1, .int x1)] rfl (Nat.le_of_ble_eq_true rfl) rfl rfl ?_
  refine g_aload_nq (x := sat x1) 7 rfl rfl rfl ?_
  rcases ho1 : sat x1 with _ | o1
  · rw [ho1] at h
    dsimp only at h
    refine g_ifnonnullN 10 rfl rfl ?_
    refine g_iconst (v := (-1)) 11 rfl rfl rfl ?_
    subst h
    exact g_iret rfl rfl
  · rw [ho1] at h
    dsimp only at h
    refine g_ifnonnull 12 rfl rfl ?_
    refine g_aload_n 13 rfl rfl rfl ?_
    have r2 := F_80 d o1 ((fun z hz => tagU_160 x1 U z hz) o1 ho1) U
    refine g_callV (J := sm_I80) 16 rfl (Nat.le_of_ble_eq_true rfl) rfl rfl (Nat.le_of_ble_eq_true rfl) ((fun z hz => tagU_160 x1 U z hz) o1 ho1) (Nat.le_of_ble_eq_true rfl) (Nat.le_of_ble_eq_true rfl) rfl rfl r2 ?_
    refine g_if_eq 27 19 rfl rfl (fun c3 => ?_) (fun c3 => ?_)
    · rw [if_pos c3] at h
      refine g_aload_n 28 rfl rfl rfl ?_
      have r4 := F_81 d o1 ((fun z hz => tagU_160 x1 U z hz) o1 ho1) U
      refine g_callV (J := sm_I81) 31 rfl (Nat.le_of_ble_eq_true rfl) rfl rfl (Nat.le_of_ble_eq_true rfl) ((fun z hz => tagU_160 x1 U z hz) o1 ho1) (Nat.le_of_ble_eq_true rfl) (Nat.le_of_ble_eq_true rfl) rfl rfl r4 ?_
      refine g_if_eq 41 34 rfl rfl (fun c5 => ?_) (fun c5 => ?_)
      · rw [if_pos c5] at h
        refine g_iconst (v := (-1)) 42 rfl rfl rfl ?_
        subst h
        exact g_iret rfl rfl
      · rw [if_neg c5] at h
        refine g_aload_n 35 rfl rfl rfl ?_
        refine g_get 38 rfl ((fun z hz => tagU_160 x1 U z hz) o1 ho1) (Nat.le_of_ble_eq_true rfl) rfl rfl ?_
        refine g_goto 42 rfl ?_
        subst h
        exact g_iret rfl rfl
    · rw [if_neg c3] at h
      refine g_bipush (v := 100) 21 rfl (by decide) rfl ?_
      refine g_aload_n 22 rfl rfl rfl ?_
      refine g_get 25 rfl ((fun z hz => tagU_160 x1 U z hz) o1 ho1) (Nat.le_of_ble_eq_true rfl) rfl rfl ?_
      refine g_iadd 26 rfl rfl ?_
      subst h
      exact g_iret rfl rfl

def f_164_17 : Nat → Nat → (Option Nat) → Int32 → Int32 → sU → Option Int32
  | 0, _, _, _, _, _ => none
  | n + 1, v1, v2, v3, v4, U =>
    match v2 with
    | none =>
      some v3
    | some o1 =>
      if (U.1 o1 2) ≤ v4 then
        some v3
      else
        f_164_17 n v1 (some o1) (v3 ||| (1 <<< ((iget (v1 + 1) v4 U) &&& 31))) (v4 + 1) U
set_option maxRecDepth 10000 in
set_option maxHeartbeats 2000000 in
theorem F_164_17 (d : Nat)   : ∀ (n : Nat) (v1 : Nat) (hv1 : sh v1 = 3) (v2 : Option Nat) (hv2 : ∀ z, v2 = some z → sh z = 8) (v3 : Int32) (v4 : Int32) (U : sU) (r : Int32), f_164_17 n v1 v2 v3 v4 U = some r → G (d + 1) sm_I164 17 [(1, .ref v1), (2, va_rf v2), (3, .int v3), (4, .int v4)] [] U (some (.int r)) U := by
  intro n
  induction n with
  | zero => intro v1 hv1 v2 hv2 v3 v4 U r h; cases h
  | succ n ih =>
    intro v1 hv1 v2 hv2 v3 v4 U r h
    first | rw [f_164_17] at h | (rw [f_164_17.eq_def] at h; dsimp only at h)
    refine g_aload_nq (x := v2) 18 rfl rfl rfl ?_
    rcases ho1 : v2 with _ | o1
    · rw [ho1] at h
      dsimp only at h
      refine g_ifnullN 50 rfl rfl ?_
      refine g_iload_n 51 rfl rfl rfl ?_
      cases h
      exact g_iret rfl rfl
    · rw [ho1] at h
      dsimp only at h
      refine g_ifnull 21 rfl rfl ?_
      refine g_iload 23 rfl rfl rfl ?_
      refine g_aload_n 24 rfl rfl rfl ?_
      refine g_get 27 rfl (hv2 o1 ho1) (Nat.le_of_ble_eq_true rfl) rfl rfl ?_
      refine g_icmp_ge 50 30 rfl rfl (fun c2 => ?_) (fun c2 => ?_)
      · rw [if_pos c2] at h
        refine g_iload_n 51 rfl rfl rfl ?_
        cases h
        exact g_iret rfl rfl
      · rw [if_neg c2] at h
        refine g_iload_n 31 rfl rfl rfl ?_
        refine g_iconst (v := 1) 32 rfl rfl rfl ?_
        refine g_aload_n 33 rfl rfl rfl ?_
        refine g_get 36 rfl hv1 (Nat.le_of_ble_eq_true rfl) rfl rfl ?_
        refine g_iload 38 rfl rfl rfl ?_
        refine g_callV (J := sm_I9) 41 rfl (Nat.le_of_ble_eq_true rfl) rfl rfl (Nat.le_of_ble_eq_true rfl) (sh_3_1 hv1) (Nat.le_of_ble_eq_true rfl) (Nat.le_of_ble_eq_true rfl) rfl rfl (U_9 d (v1 + 1) (sh_3_1 hv1) v4 U) ?_
        refine g_ishl 42 rfl rfl ?_
        refine g_ior 43 rfl rfl ?_
        refine g_istore_n 44 [(3, .int (v3 ||| (1 <<< ((iget (v1 + 1) v4 U) &&& 31)))), (1, .ref v1), (2, .ref o1), (4, .int v4)] rfl (Nat.le_of_ble_eq_true rfl) rfl rfl ?_
        refine g_iinc (v := v4 + 1) 47 [(4, .int (v4 + 1)), (3, .int (v3 ||| (1 <<< ((iget (v1 + 1) v4 U) &&& 31)))), (1, .ref v1), (2, .ref o1)] rfl rfl (Nat.le_of_ble_eq_true rfl) rfl rfl rfl ?_
        refine g_goto 17 rfl ?_
        exact g_sub (Sc rfl (Sc rfl (Sc rfl (Sc rfl (Sn _))))) (ih v1 hv1 (some o1) (fun z hz => by cases hz; exact (hv2 o1 ho1)) (v3 ||| (1 <<< ((iget (v1 + 1) v4 U) &&& 31))) (v4 + 1) _ _ h)
def f_164 (x1 : Nat) (U : sU) : Option Int32 :=
  f_164_17 FU x1 (tat 2 (U.1 x1 3) U) 0 0 U
set_option maxRecDepth 10000 in
set_option maxHeartbeats 2000000 in
theorem F_164 (d : Nat) (x1 : Nat) (hx1 : sh x1 = 3) {U : sU} {r : Int32} (h : f_164 x1 U = some r) : Rn (d + 1) sm_I164 [.ref 0, .ref x1] U (some (.int r)) U := by
  refine Rn_of [(0, .ref 0), (1, .ref x1)] (Nat.le_of_ble_eq_true rfl) (Sc rfl (Sc rfl (Sn _))) ?_
  first | rw [f_164] at h | rw [f_164.eq_def] at h
  refine g_aload_n 1 rfl rfl rfl ?_
  refine g_get 4 rfl s_0 (Nat.le_of_ble_eq_true rfl) rfl rfl ?_
  refine g_aload_n 5 rfl rfl rfl ?_
  refine g_get 8 rfl hx1 (Nat.le_of_ble_eq_true rfl) rfl rfl ?_
  refine g_callV (J := sm_I93) 11 rfl (Nat.le_of_ble_eq_true rfl) rfl rfl (Nat.le_of_ble_eq_true rfl) s_2 (Nat.le_of_ble_eq_true rfl) (Nat.le_of_ble_eq_true rfl) rfl rfl (U_93 d 2 s_2 (U.1 x1 3) U) ?_
  refine g_astore_nq (x := tat 2 (U.1 x1 3) U) 12 [(2, va_rf (tat 2 (U.1 x1 3) U)), (0, .ref 0), (1, .ref x1)] rfl (Nat.le_of_ble_eq_true rfl) rfl rfl ?_
  refine g_iconst (v := 0) 13 rfl rfl rfl ?_
  refine g_istore_n 14 [(3, .int 0), (2, va_rf (tat 2 (U.1 x1 3) U)), (0, .ref 0), (1, .ref x1)] rfl (Nat.le_of_ble_eq_true rfl) (by generalize tat 2 (U.1 x1 3) U = y; cases y <;> rfl) rfl ?_
  refine g_iconst (v := 0) 15 rfl rfl rfl ?_
  refine g_istore 17 [(4, .int 0), (3, .int 0), (2, va_rf (tat 2 (U.1 x1 3) U)), (0, .ref 0), (1, .ref x1)] rfl (Nat.le_of_ble_eq_true rfl) rfl rfl ?_
  exact g_sub (Sc rfl (Sc rfl (Sc rfl (Sc rfl (Sn _))))) (F_164_17 d _ x1 hx1 (tat 2 (U.1 x1 3) U) (fun z hz => tagU_93 2 s_2 (U.1 x1 3) U z hz) 0 0 _ _ h)

def f_166 (x0 : Int32) (U : sU) : Int32 :=
  if x0 < 0 then
    0
  else
    if 5 < x0 then
      0
    else
      1
set_option maxRecDepth 10000 in
set_option maxHeartbeats 2000000 in
theorem F_166 (d : Nat) (x0 : Int32) (U : sU) : Rn (d + 0) sm_I166 [.int x0] U (some (.int (f_166 x0 U))) U := by
  refine Rn_of [(0, .int x0)] (Nat.le_of_ble_eq_true rfl) (Sc rfl (Sn _)) ?_
  generalize h : f_166 x0 U = r
  first | rw [f_166] at h | rw [f_166.eq_def] at h
  refine g_iload_n 1 rfl rfl rfl ?_
  refine g_if_lt 13 4 rfl rfl (fun c1 => ?_) (fun c1 => ?_)
  · rw [if_pos c1] at h
    refine g_iconst (v := 0) 14 rfl rfl rfl ?_
    subst h
    exact g_zret rfl rfl (Or.inl rfl)
  · rw [if_neg c1] at h
    refine g_iload_n 5 rfl rfl rfl ?_
    refine g_iconst (v := 5) 6 rfl rfl rfl ?_
    refine g_icmp_gt 13 9 rfl rfl (fun c2 => ?_) (fun c2 => ?_)
    · rw [if_pos c2] at h
      refine g_iconst (v := 0) 14 rfl rfl rfl ?_
      subst h
      exact g_zret rfl rfl (Or.inl rfl)
    · rw [if_neg c2] at h
      refine g_iconst (v := 1) 10 rfl rfl rfl ?_
      refine g_goto 14 rfl ?_
      subst h
      exact g_zret rfl rfl (Or.inr rfl)

def f_119_58 (v2 : Int32) (z0 : Option Nat) (U : sU) : Option (Int32 × sU) :=
  match z0 with
  | none =>
    match f_157 3 U with
    | (q2, W3) =>
    some (q2, W3)
  | some o1 =>
    if (f_167 (U.1 o1 2) v2 U) = 0 then
      match f_157 2 U with
      | (q10, W11) =>
      some (q10, W11)
    else
      if v2 = 0 then
        some (U.1 o1 3, U)
      else
      if v2 = 2 then
        some (U.1 o1 4, U)
      else
      if v2 = 5 then
        some (iget (o1 + 3) 0 U, U)
      else
      Option.bind (f_164 o1 U) fun q9 =>
      some (f_282 q9 U, U)
set_option maxRecDepth 10000 in
set_option maxHeartbeats 2000000 in
theorem F_119_58 (d : Nat)   (v2 : Int32) (z0 : Option Nat) (hz0 : ∀ z, z0 = some z → sh z = 3) {U : sU} {r : Int32} {U' : sU} (h : f_119_58 v2 z0 U = some (r, U')) : G (d + 2) sm_I119 58 [(0, .ref 0), (2, .int v2)] [va_rf z0] U (some (.int r)) U' := by
  first | rw [f_119_58] at h | rw [f_119_58.eq_def] at h
  refine g_astoreq (x := z0) 60 [(4, va_rf z0), (0, .ref 0), (2, .int v2)] rfl (Nat.le_of_ble_eq_true rfl) rfl rfl ?_
  refine g_aloadq (x := z0) 62 rfl rfl rfl ?_
  rcases ho1 : z0 with _ | o1
  · rw [ho1] at h
    dsimp only at h
    refine g_ifnonnullN 65 rfl rfl ?_
    refine g_aload_n 66 rfl rfl rfl ?_
    refine g_iconst (v := 3) 67 rfl rfl rfl ?_
    have tq2 := F_157 d 3 U
    rcases hq2 : f_157 3 U with ⟨q2, W3⟩
    rw [hq2] at h tq2
    dsimp only at h tq2
    refine g_callV (J := sm_I157) 70 rfl (Nat.le_of_ble_eq_true rfl) rfl rfl (Nat.le_of_ble_eq_true rfl) s_0 (Nat.le_of_ble_eq_true rfl) (Nat.le_of_ble_eq_true rfl) rfl rfl tq2 ?_
    cases h
    exact g_iret rfl rfl
  · rw [ho1] at h
    dsimp only at h
    refine g_ifnonnull 71 rfl rfl ?_
    refine g_aload 73 rfl rfl rfl ?_
    refine g_get 76 rfl (hz0 o1 ho1) (Nat.le_of_ble_eq_true rfl) rfl rfl ?_
    refine g_iload_n 77 rfl rfl rfl ?_
    have r4 := F_167 (d + 1) (U.1 o1 2) v2 U
    refine g_callS (J := sm_I167) 80 rfl (by decide) rfl rfl (Nat.le_of_ble_eq_true rfl) (Nat.le_of_ble_eq_true rfl) rfl rfl r4 ?_
    refine g_if_ne 89 83 rfl rfl (fun c5 => ?_) (fun c5 => ?_)
    · rw [if_neg c5] at h
      refine g_iload_n 90 rfl rfl rfl ?_
      by_cases w6 : v2 = 0
      case pos =>
        rw [if_pos w6] at h
        refine g_lsw 124 rfl (by decide) (by rw [w6]; rfl) ?_
        refine g_aload 126 rfl rfl rfl ?_
        refine g_get 129 rfl (hz0 o1 ho1) (Nat.le_of_ble_eq_true rfl) rfl rfl ?_
        cases h
        exact g_iret rfl rfl
      rw [if_neg w6] at h
      by_cases w7 : v2 = 2
      case pos =>
        rw [if_pos w7] at h
        refine g_lsw 130 rfl (by decide) (by rw [w7]; rfl) ?_
        refine g_aload 132 rfl rfl rfl ?_
        refine g_get 135 rfl (hz0 o1 ho1) (Nat.le_of_ble_eq_true rfl) rfl rfl ?_
        cases h
        exact g_iret rfl rfl
      rw [if_neg w7] at h
      by_cases w8 : v2 = 5
      case pos =>
        rw [if_pos w8] at h
        refine g_lsw 136 rfl (by decide) (by rw [w8]; rfl) ?_
        refine g_aload 138 rfl rfl rfl ?_
        refine g_get 141 rfl (hz0 o1 ho1) (Nat.le_of_ble_eq_true rfl) rfl rfl ?_
        refine g_iconst (v := 0) 142 rfl rfl rfl ?_
        refine g_callV (J := sm_I9) 145 rfl (Nat.le_of_ble_eq_true rfl) rfl rfl (Nat.le_of_ble_eq_true rfl) (sh_3_3 (hz0 o1 ho1)) (Nat.le_of_ble_eq_true rfl) (Nat.le_of_ble_eq_true rfl) rfl rfl (U_9 (d + 1) (o1 + 3) (sh_3_3 (hz0 o1 ho1)) 0 U) ?_
        cases h
        exact g_iret rfl rfl
      rw [if_neg w8] at h
      refine g_lsw 146 rfl (by decide) (by
        have e := fun (k : Int32) (hk : ¬ v2 = k) => (fun (z : v2.toInt = k.toInt) => hk (Int32.toInt_inj.mp z))
        have gw6 : ¬ 0 = v2.toInt := fun z => e 0 w6 z.symm
        have gw7 : ¬ 2 = v2.toInt := fun z => e 2 w7 z.symm
        have gw8 : ¬ 5 = v2.toInt := fun z => e 5 w8 z.symm
        simp [Op.lookupswitch.offset, gw6, gw7, gw8]; rfl) ?_
      refine g_aload_n 147 rfl rfl rfl ?_
      refine g_aload 149 rfl rfl rfl ?_
      obtain ⟨q9, hq9, h⟩ := Option.bind_eq_some_iff.mp h
      refine g_callV (J := sm_I164) 152 rfl (Nat.le_of_ble_eq_true rfl) rfl rfl (Nat.le_of_ble_eq_true rfl) s_0 (Nat.le_of_ble_eq_true rfl) (Nat.le_of_ble_eq_true rfl) rfl rfl (F_164 d o1 (hz0 o1 ho1) hq9) ?_
      refine g_callS (J := sm_I282) 155 rfl (by decide) rfl rfl (Nat.le_of_ble_eq_true rfl) (Nat.le_of_ble_eq_true rfl) rfl rfl (F_282 (d + 1) q9 U) ?_
      cases h
      exact g_iret rfl rfl
    · rw [if_pos c5] at h
      refine g_aload_n 84 rfl rfl rfl ?_
      refine g_iconst (v := 2) 85 rfl rfl rfl ?_
      have tq10 := F_157 d 2 U
      rcases hq10 : f_157 2 U with ⟨q10, W11⟩
      rw [hq10] at h tq10
      dsimp only at h tq10
      refine g_callV (J := sm_I157) 88 rfl (Nat.le_of_ble_eq_true rfl) rfl rfl (Nat.le_of_ble_eq_true rfl) s_0 (Nat.le_of_ble_eq_true rfl) (Nat.le_of_ble_eq_true rfl) rfl rfl tq10 ?_
      cases h
      exact g_iret rfl rfl
def f_119 (x1 : Int32) (x2 : Int32) (U : sU) : Option (Int32 × sU) :=
  match sat x1 with
  | none =>
    match f_157 1 U with
    | (q13, W14) =>
    some (q13, W14)
  | some o12 =>
    if (f_166 x2 U) = 0 then
      match f_157 1 U with
      | (q23, W24) =>
      some (q23, W24)
    else
      if (f_80 o12 U) = 0 then
        if (f_81 o12 U) = 0 then
          f_119_58 x2 none U
        else
          f_119_58 x2 (mat 2 (U.1 o12 4) U) U
      else
        match f_157 2 U with
        | (q21, W22) =>
        some (q21, W22)
set_option maxRecDepth 10000 in
set_option maxHeartbeats 2000000 in
theorem F_119 (d : Nat) (x1 : Int32) (x2 : Int32) {U : sU} {r : Int32} {U' : sU} (h : f_119 x1 x2 U = some (r, U')) : Rn (d + 2) sm_I119 [.ref 0, .int x1, .int x2] U (some (.int r)) U' := by
  refine Rn_of [(0, .ref 0), (1, .int x1), (2, .int x2)] (Nat.le_of_ble_eq_true rfl) (Sc rfl (Sc rfl (Sc rfl (Sn _)))) ?_
  first | rw [f_119] at h | rw [f_119.eq_def] at h
  refine g_aload_n 1 rfl rfl rfl ?_
  refine g_iload_n 2 rfl rfl rfl ?_
  refine g_callV (J := sm_I160) 5 rfl (Nat.le_of_ble_eq_true rfl) rfl rfl (Nat.le_of_ble_eq_true rfl) s_0 (Nat.le_of_ble_eq_true rfl) (Nat.le_of_ble_eq_true rfl) rfl rfl (U_160 (d + 1) x1 U) ?_
  refine g_astore_nq (x := sat x1) 6 [(3, va_rf (sat x1)), (0, .ref 0), (1, .int x1), (2, .int x2)] rfl (Nat.le_of_ble_eq_true rfl) rfl rfl ?_
  refine g_aload_nq (x := sat x1) 7 rfl rfl rfl ?_
  rcases ho12 : sat x1 with _ | o12
  · rw [ho12] at h
    dsimp only at h
    refine g_ifnullN 17 rfl rfl ?_
    refine g_aload_n 18 rfl rfl rfl ?_
    refine g_iconst (v := 1) 19 rfl rfl rfl ?_
    have tq13 := F_157 d 1 U
    rcases hq13 : f_157 1 U with ⟨q13, W14⟩
    rw [hq13] at h tq13
    dsimp only at h tq13
    refine g_callV (J := sm_I157) 22 rfl (Nat.le_of_ble_eq_true rfl) rfl rfl (Nat.le_of_ble_eq_true rfl) s_0 (Nat.le_of_ble_eq_true rfl) (Nat.le_of_ble_eq_true rfl) rfl rfl tq13 ?_
    cases h
    exact g_iret rfl rfl
  · rw [ho12] at h
    dsimp only at h
    refine g_ifnull 10 rfl rfl ?_
    refine g_iload_n 11 rfl rfl rfl ?_
    have r15 := F_166 (d + 1) x2 U
    refine g_callS (J := sm_I166) 14 rfl (by decide) rfl rfl (Nat.le_of_ble_eq_true rfl) (Nat.le_of_ble_eq_true rfl) rfl rfl r15 ?_
    refine g_if_ne 23 17 rfl rfl (fun c16 => ?_) (fun c16 => ?_)
    · rw [if_neg c16] at h
      refine g_aload_n 24 rfl rfl rfl ?_
      have r17 := F_80 (d + 1) o12 ((fun z hz => tagU_160 x1 U z hz) o12 ho12) U
      refine g_callV (J := sm_I80) 27 rfl (Nat.le_of_ble_eq_true rfl) rfl rfl (Nat.le_of_ble_eq_true rfl) ((fun z hz => tagU_160 x1 U z hz) o12 ho12) (Nat.le_of_ble_eq_true rfl) (Nat.le_of_ble_eq_true rfl) rfl rfl r17 ?_
      refine g_if_eq 36 30 rfl rfl (fun c18 => ?_) (fun c18 => ?_)
      · rw [if_pos c18] at h
        refine g_aload_n 37 rfl rfl rfl ?_
        have r19 := F_81 (d + 1) o12 ((fun z hz => tagU_160 x1 U z hz) o12 ho12) U
        refine g_callV (J := sm_I81) 40 rfl (Nat.le_of_ble_eq_true rfl) rfl rfl (Nat.le_of_ble_eq_true rfl) ((fun z hz => tagU_160 x1 U z hz) o12 ho12) (Nat.le_of_ble_eq_true rfl) (Nat.le_of_ble_eq_true rfl) rfl rfl r19 ?_
        refine g_if_eq 57 43 rfl rfl (fun c20 => ?_) (fun c20 => ?_)
        · rw [if_pos c20] at h
          refine g_aconst_null 58 rfl rfl ?_
          exact g_sub (Sc rfl (Sc rfl (Sn _))) (F_119_58 d x2 none (fun z hz => by cases hz) h)
        · rw [if_neg c20] at h
          refine g_aload_n 44 rfl rfl rfl ?_
          refine g_get 47 rfl s_0 (Nat.le_of_ble_eq_true rfl) rfl rfl ?_
          refine g_aload_n 48 rfl rfl rfl ?_
          refine g_get 51 rfl ((fun z hz => tagU_160 x1 U z hz) o12 ho12) (Nat.le_of_ble_eq_true rfl) rfl rfl ?_
          refine g_callV (J := sm_I94) 54 rfl (Nat.le_of_ble_eq_true rfl) rfl rfl (Nat.le_of_ble_eq_true rfl) s_2 (Nat.le_of_ble_eq_true rfl) (Nat.le_of_ble_eq_true rfl) rfl rfl (U_94 (d + 1) 2 s_2 (U.1 o12 4) U) ?_
          refine g_goto 58 rfl ?_
          exact g_sub (Sc rfl (Sc rfl (Sn _))) (F_119_58 d x2 (mat 2 (U.1 o12 4) U) (fun z hz => tagU_94 2 s_2 (U.1 o12 4) U z hz) h)
      · rw [if_neg c18] at h
        refine g_aload_n 31 rfl rfl rfl ?_
        refine g_iconst (v := 2) 32 rfl rfl rfl ?_
        have tq21 := F_157 d 2 U
        rcases hq21 : f_157 2 U with ⟨q21, W22⟩
        rw [hq21] at h tq21
        dsimp only at h tq21
        refine g_callV (J := sm_I157) 35 rfl (Nat.le_of_ble_eq_true rfl) rfl rfl (Nat.le_of_ble_eq_true rfl) s_0 (Nat.le_of_ble_eq_true rfl) (Nat.le_of_ble_eq_true rfl) rfl rfl tq21 ?_
        cases h
        exact g_iret rfl rfl
    · rw [if_pos c16] at h
      refine g_aload_n 18 rfl rfl rfl ?_
      refine g_iconst (v := 1) 19 rfl rfl rfl ?_
      have tq23 := F_157 d 1 U
      rcases hq23 : f_157 1 U with ⟨q23, W24⟩
      rw [hq23] at h tq23
      dsimp only at h tq23
      refine g_callV (J := sm_I157) 22 rfl (Nat.le_of_ble_eq_true rfl) rfl rfl (Nat.le_of_ble_eq_true rfl) s_0 (Nat.le_of_ble_eq_true rfl) (Nat.le_of_ble_eq_true rfl) rfl rfl tq23 ?_
      cases h
      exact g_iret rfl rfl

def f_120 (x1 : Int32) (U : sU) : Option (Int32 × sU) :=
  if (f_161 x1 U) = 0 then
    match sat x1 with
    | none =>
      match f_157 (f_161 x1 U) U with
      | (q5, W6) =>
      some (q5, W6)
    | some o4 =>
      Option.bind (f_14 215 o4 210 U) fun q7 =>
      if ((sI q7.2 0 5 q7.1).1 0 5) = ((-1)) then
        match ntk 2 (sI q7.2 0 5 q7.1) with
        | none =>
          match f_157 7 (sI q7.2 0 5 q7.1) with
          | (q10, W11) =>
          some (q10, W11)
        | some o9 =>
          Option.bind (f_100 o9 210 (sI q7.2 0 5 q7.1)) fun q12 =>
          some (((sI q12 2 2 ((q12.1 2 2) + 1)).1 2 2) - 1, sI q12 2 2 ((q12.1 2 2) + 1))
      else
        match f_157 6 (sI q7.2 0 5 q7.1) with
        | (q13, W14) =>
        some (q13, W14)
  else
    match f_157 (f_161 x1 U) U with
    | (q2, W3) =>
    some (q2, W3)
set_option maxRecDepth 10000 in
set_option maxHeartbeats 2000000 in
theorem F_120 (d : Nat) (x1 : Int32) {U : sU} {r : Int32} {U' : sU} (h : f_120 x1 U = some (r, U')) : Rn (d + 9) sm_I120 [.ref 0, .int x1] U (some (.int r)) U' := by
  refine Rn_of [(0, .ref 0), (1, .int x1)] (Nat.le_of_ble_eq_true rfl) (Sc rfl (Sc rfl (Sn _))) ?_
  first | rw [f_120] at h | rw [f_120.eq_def] at h
  refine g_aload_n 1 rfl rfl rfl ?_
  refine g_iload_n 2 rfl rfl rfl ?_
  refine g_callV (J := sm_I161) 5 rfl (Nat.le_of_ble_eq_true rfl) rfl rfl (Nat.le_of_ble_eq_true rfl) s_0 (Nat.le_of_ble_eq_true rfl) (Nat.le_of_ble_eq_true rfl) rfl rfl (F_161 (d + 7) x1 U) ?_
  refine g_istore_n 6 [(2, .int (f_161 x1 U)), (0, .ref 0), (1, .int x1)] rfl (Nat.le_of_ble_eq_true rfl) rfl rfl ?_
  refine g_aload_n 7 rfl rfl rfl ?_
  refine g_iload_n 8 rfl rfl rfl ?_
  refine g_callV (J := sm_I160) 11 rfl (Nat.le_of_ble_eq_true rfl) rfl rfl (Nat.le_of_ble_eq_true rfl) s_0 (Nat.le_of_ble_eq_true rfl) (Nat.le_of_ble_eq_true rfl) rfl rfl (U_160 (d + 8) x1 U) ?_
  refine g_astore_nq (x := sat x1) 12 [(3, va_rf (sat x1)), (2, .int (f_161 x1 U)), (0, .ref 0), (1, .int x1)] rfl (Nat.le_of_ble_eq_true rfl) rfl rfl ?_
  refine g_iload_n 13 rfl rfl rfl ?_
  refine g_if_ne 20 16 rfl rfl (fun c1 => ?_) (fun c1 => ?_)
  · rw [if_neg c1] at h
    refine g_aload_n 21 rfl rfl rfl ?_
    refine g_iload_n 22 rfl rfl rfl ?_
    have tq2 := F_157 (d + 7) (f_161 x1 U) U
    rcases hq2 : f_157 (f_161 x1 U) U with ⟨q2, W3⟩
    rw [hq2] at h tq2
    dsimp only at h tq2
    refine g_callV (J := sm_I157) 25 rfl (Nat.le_of_ble_eq_true rfl) rfl rfl (Nat.le_of_ble_eq_true rfl) s_0 (Nat.le_of_ble_eq_true rfl) (Nat.le_of_ble_eq_true rfl) rfl rfl tq2 ?_
    cases h
    exact g_iret rfl rfl
  · rw [if_pos c1] at h
    refine g_aload_nq (x := sat x1) 17 rfl rfl rfl ?_
    rcases ho4 : sat x1 with _ | o4
    · rw [ho4] at h
      dsimp only at h
      refine g_ifnonnullN 20 rfl rfl ?_
      refine g_aload_n 21 rfl rfl rfl ?_
      refine g_iload_n 22 rfl rfl rfl ?_
      have tq5 := F_157 (d + 7) (f_161 x1 U) U
      rcases hq5 : f_157 (f_161 x1 U) U with ⟨q5, W6⟩
      rw [hq5] at h tq5
      dsimp only at h tq5
      refine g_callV (J := sm_I157) 25 rfl (Nat.le_of_ble_eq_true rfl) rfl rfl (Nat.le_of_ble_eq_true rfl) s_0 (Nat.le_of_ble_eq_true rfl) (Nat.le_of_ble_eq_true rfl) rfl rfl tq5 ?_
      cases h
      exact g_iret rfl rfl
    · rw [ho4] at h
      dsimp only at h
      refine g_ifnonnull 26 rfl rfl ?_
      refine g_aload_n 27 rfl rfl rfl ?_
      refine g_aload_n 28 rfl rfl rfl ?_
      refine g_get 31 rfl s_0 (Nat.le_of_ble_eq_true rfl) rfl rfl ?_
      refine g_aload_n 32 rfl rfl rfl ?_
      refine g_aload_n 33 rfl rfl rfl ?_
      refine g_get 36 rfl s_0 (Nat.le_of_ble_eq_true rfl) rfl rfl ?_
      obtain ⟨q7, hq7, h⟩ := Option.bind_eq_some_iff.mp h
      refine g_callV (J := sm_I14) 39 rfl (Nat.le_of_ble_eq_true rfl) rfl rfl (Nat.le_of_ble_eq_true rfl) s_215 (Nat.le_of_ble_eq_true rfl) (Nat.le_of_ble_eq_true rfl) rfl rfl (F_14 d 215 s_215 o4 ((fun z hz => tagU_160 x1 U z hz) o4 ho4) 210 s_210 hq7) ?_
      refine g_putI 42 rfl s_0 (Nat.le_of_ble_eq_true rfl) (Nat.le_of_ble_eq_true rfl) rfl fs_9_5 rfl ?_
      refine g_aload_n 43 rfl rfl rfl ?_
      refine g_get 46 rfl s_0 (Nat.le_of_ble_eq_true rfl) rfl rfl ?_
      refine g_iconst (v := (-1)) 47 rfl rfl rfl ?_
      refine g_icmp_eq 57 50 rfl rfl (fun c8 => ?_) (fun c8 => ?_)
      · rw [if_pos c8] at h
        refine g_aload_n 58 rfl rfl rfl ?_
        refine g_get 61 rfl s_0 (Nat.le_of_ble_eq_true rfl) rfl rfl ?_
        refine g_callV (J := sm_I95) 64 rfl (Nat.le_of_ble_eq_true rfl) rfl rfl (Nat.le_of_ble_eq_true rfl) s_2 (Nat.le_of_ble_eq_true rfl) (Nat.le_of_ble_eq_true rfl) rfl rfl (U_95 (d + 8) 2 s_2 (sI q7.2 0 5 q7.1)) ?_
        refine g_astoreq (x := ntk 2 (sI q7.2 0 5 q7.1)) 66 [(4, va_rf (ntk 2 (sI q7.2 0 5 q7.1))), (3, .ref o4), (2, .int (f_161 x1 U)), (0, .ref 0), (1, .int x1)] rfl (Nat.le_of_ble_eq_true rfl) rfl rfl ?_
        refine g_aloadq (x := ntk 2 (sI q7.2 0 5 q7.1)) 68 rfl rfl rfl ?_
        rcases ho9 : ntk 2 (sI q7.2 0 5 q7.1) with _ | o9
        · rw [ho9] at h
          dsimp only at h
          refine g_ifnonnullN 71 rfl rfl ?_
          refine g_aload_n 72 rfl rfl rfl ?_
          refine g_bipush (v := 7) 74 rfl (by decide) rfl ?_
          have tq10 := F_157 (d + 7) 7 (sI q7.2 0 5 q7.1)
          rcases hq10 : f_157 7 (sI q7.2 0 5 q7.1) with ⟨q10, W11⟩
          rw [hq10] at h tq10
          dsimp only at h tq10
          refine g_callV (J := sm_I157) 77 rfl (Nat.le_of_ble_eq_true rfl) rfl rfl (Nat.le_of_ble_eq_true rfl) s_0 (Nat.le_of_ble_eq_true rfl) (Nat.le_of_ble_eq_true rfl) rfl rfl tq10 ?_
          cases h
          exact g_iret rfl rfl
        · rw [ho9] at h
          dsimp only at h
          refine g_ifnonnull 78 rfl rfl ?_
          refine g_aload 80 rfl rfl rfl ?_
          refine g_aload_n 81 rfl rfl rfl ?_
          refine g_get 84 rfl s_0 (Nat.le_of_ble_eq_true rfl) rfl rfl ?_
          obtain ⟨q12, hq12, h⟩ := Option.bind_eq_some_iff.mp h
          refine g_callV (J := sm_I100) 87 rfl (Nat.le_of_ble_eq_true rfl) rfl rfl (Nat.le_of_ble_eq_true rfl) ((fun z hz => tagU_95 2 s_2 (sI q7.2 0 5 q7.1) z hz) o9 ho9) (Nat.le_of_ble_eq_true rfl) (Nat.le_of_ble_eq_true rfl) rfl rfl (F_100 (d + 6) o9 ((fun z hz => tagU_95 2 s_2 (sI q7.2 0 5 q7.1) z hz) o9 ho9) 210 s_210 hq12) ?_
          refine g_aload_n 88 rfl rfl rfl ?_
          refine g_get 91 rfl s_0 (Nat.le_of_ble_eq_true rfl) rfl rfl ?_
          refine g_dup 92 rfl rfl rfl ?_
          refine g_get 95 rfl s_2 (Nat.le_of_ble_eq_true rfl) rfl rfl ?_
          refine g_iconst (v := 1) 96 rfl rfl rfl ?_
          refine g_iadd 97 rfl rfl ?_
          refine g_putI 100 rfl s_2 (Nat.le_of_ble_eq_true rfl) (Nat.le_of_ble_eq_true rfl) rfl fs_7_2 rfl ?_
          refine g_aload_n 101 rfl rfl rfl ?_
          refine g_get 104 rfl s_0 (Nat.le_of_ble_eq_true rfl) rfl rfl ?_
          refine g_get 107 rfl s_2 (Nat.le_of_ble_eq_true rfl) rfl rfl ?_
          refine g_iconst (v := 1) 108 rfl rfl rfl ?_
          refine g_isub 109 rfl rfl ?_
          cases h
          exact g_iret rfl rfl
      · rw [if_neg c8] at h
        refine g_aload_n 51 rfl rfl rfl ?_
        refine g_bipush (v := 6) 53 rfl (by decide) rfl ?_
        have tq13 := F_157 (d + 7) 6 (sI q7.2 0 5 q7.1)
        rcases hq13 : f_157 6 (sI q7.2 0 5 q7.1) with ⟨q13, W14⟩
        rw [hq13] at h tq13
        dsimp only at h tq13
        refine g_callV (J := sm_I157) 56 rfl (Nat.le_of_ble_eq_true rfl) rfl rfl (Nat.le_of_ble_eq_true rfl) s_0 (Nat.le_of_ble_eq_true rfl) (Nat.le_of_ble_eq_true rfl) rfl rfl tq13 ?_
        cases h
        exact g_iret rfl rfl

def f_121  (U : sU) : Int32 :=
  U.1 0 5
set_option maxRecDepth 10000 in
set_option maxHeartbeats 2000000 in
theorem F_121 (d : Nat)  (U : sU) : Rn (d + 0) sm_I121 [.ref 0] U (some (.int (f_121  U))) U := by
  refine Rn_of [(0, .ref 0)] (Nat.le_of_ble_eq_true rfl) (Sc rfl (Sn _)) ?_
  generalize h : f_121  U = r
  first | rw [f_121] at h | rw [f_121.eq_def] at h
  refine g_aload_n 1 rfl rfl rfl ?_
  refine g_get 4 rfl s_0 (Nat.le_of_ble_eq_true rfl) rfl rfl ?_
  subst h
  exact g_iret rfl rfl

def f_158 (x1 : Int32) (U : sU) : Int32 × sU :=
  match f_157 x1 U with
  | (q1, W2) =>
  (q1 - 2000000000, W2)
set_option maxRecDepth 10000 in
set_option maxHeartbeats 2000000 in
theorem F_158 (d : Nat) (x1 : Int32) (U : sU) : Rn (d + 2) sm_I158 [.ref 0, .int x1] U (some (.int (f_158 x1 U).1)) (f_158 x1 U).2 := by
  refine Rn_of [(0, .ref 0), (1, .int x1)] (Nat.le_of_ble_eq_true rfl) (Sc rfl (Sc rfl (Sn _))) ?_
  rcases h : f_158 x1 U with ⟨r, U'⟩
  dsimp only
  first | rw [f_158] at h | rw [f_158.eq_def] at h
  refine g_aload_n 1 rfl rfl rfl ?_
  refine g_iload_n 2 rfl rfl rfl ?_
  have tq1 := F_157 d x1 U
  rcases hq1 : f_157 x1 U with ⟨q1, W2⟩
  rw [hq1] at h tq1
  dsimp only at h tq1
  refine g_callV (J := sm_I157) 5 rfl (Nat.le_of_ble_eq_true rfl) rfl rfl (Nat.le_of_ble_eq_true rfl) s_0 (Nat.le_of_ble_eq_true rfl) (Nat.le_of_ble_eq_true rfl) rfl rfl tq1 ?_
  refine g_ldc_w (v := 2000000000) 8 rfl (by decide) rfl ?_
  refine g_isub 9 rfl rfl ?_
  cases h
  exact g_iret rfl rfl

def f_122 (x1 : Int32) (x2 : Int32) (U : sU) : Int32 × sU :=
  match tat 2 x1 U with
  | none =>
    match f_158 5 U with
    | (q2, W3) =>
    (q2, W3)
  | some o1 =>
    if x2 < 0 then
      match f_158 5 U with
      | (q5, W6) =>
      (q5, W6)
    else
      if x2 ≤ 7 then
        if x2 = 0 then
          (U.1 o1 2, U)
        else
        if x2 = 1 then
          (U.1 o1 3, U)
        else
        if x2 = 2 then
          (U.1 o1 4, U)
        else
        if x2 = 3 then
          (U.1 o1 5, U)
        else
        if x2 = 4 then
          (U.1 o1 6, U)
        else
        if x2 = 5 then
          if (U.1 o1 7) = 0 then
            (0, U)
          else
            (1, U)
        else
        if x2 = 6 then
          (U.1 o1 8, U)
        else
        (U.1 o1 9, U)
      else
        match f_158 5 U with
        | (q16, W17) =>
        (q16, W17)
set_option maxRecDepth 10000 in
set_option maxHeartbeats 2000000 in
theorem F_122 (d : Nat) (x1 : Int32) (x2 : Int32) (U : sU) : Rn (d + 3) sm_I122 [.ref 0, .int x1, .int x2] U (some (.int (f_122 x1 x2 U).1)) (f_122 x1 x2 U).2 := by
  refine Rn_of [(0, .ref 0), (1, .int x1), (2, .int x2)] (Nat.le_of_ble_eq_true rfl) (Sc rfl (Sc rfl (Sc rfl (Sn _)))) ?_
  rcases h : f_122 x1 x2 U with ⟨r, U'⟩
  dsimp only
  first | rw [f_122] at h | rw [f_122.eq_def] at h
  refine g_aload_n 1 rfl rfl rfl ?_
  refine g_get 4 rfl s_0 (Nat.le_of_ble_eq_true rfl) rfl rfl ?_
  refine g_iload_n 5 rfl rfl rfl ?_
  refine g_callV (J := sm_I93) 8 rfl (Nat.le_of_ble_eq_true rfl) rfl rfl (Nat.le_of_ble_eq_true rfl) s_2 (Nat.le_of_ble_eq_true rfl) (Nat.le_of_ble_eq_true rfl) rfl rfl (U_93 (d + 2) 2 s_2 x1 U) ?_
  refine g_astore_nq (x := tat 2 x1 U) 9 [(3, va_rf (tat 2 x1 U)), (0, .ref 0), (1, .int x1), (2, .int x2)] rfl (Nat.le_of_ble_eq_true rfl) rfl rfl ?_
  refine g_aload_nq (x := tat 2 x1 U) 10 rfl rfl rfl ?_
  rcases ho1 : tat 2 x1 U with _ | o1
  · rw [ho1] at h
    dsimp only at h
    refine g_ifnullN 23 rfl rfl ?_
    refine g_aload_n 24 rfl rfl rfl ?_
    refine g_iconst (v := 5) 25 rfl rfl rfl ?_
    have tq2 := F_158 d 5 U
    rcases hq2 : f_158 5 U with ⟨q2, W3⟩
    rw [hq2] at h tq2
    dsimp only at h tq2
    refine g_callV (J := sm_I158) 28 rfl (Nat.le_of_ble_eq_true rfl) rfl rfl (Nat.le_of_ble_eq_true rfl) s_0 (Nat.le_of_ble_eq_true rfl) (Nat.le_of_ble_eq_true rfl) rfl rfl tq2 ?_
    cases h
    exact g_iret rfl rfl
  · rw [ho1] at h
    dsimp only at h
    refine g_ifnull 13 rfl rfl ?_
    refine g_iload_n 14 rfl rfl rfl ?_
    refine g_if_lt 23 17 rfl rfl (fun c4 => ?_) (fun c4 => ?_)
    · rw [if_pos c4] at h
      refine g_aload_n 24 rfl rfl rfl ?_
      refine g_iconst (v := 5) 25 rfl rfl rfl ?_
      have tq5 := F_158 d 5 U
      rcases hq5 : f_158 5 U with ⟨q5, W6⟩
      rw [hq5] at h tq5
      dsimp only at h tq5
      refine g_callV (J := sm_I158) 28 rfl (Nat.le_of_ble_eq_true rfl) rfl rfl (Nat.le_of_ble_eq_true rfl) s_0 (Nat.le_of_ble_eq_true rfl) (Nat.le_of_ble_eq_true rfl) rfl rfl tq5 ?_
      cases h
      exact g_iret rfl rfl
    · rw [if_neg c4] at h
      refine g_iload_n 18 rfl rfl rfl ?_
      refine g_bipush (v := 7) 20 rfl (by decide) rfl ?_
      refine g_icmp_le 29 23 rfl rfl (fun c7 => ?_) (fun c7 => ?_)
      · rw [if_pos c7] at h
        refine g_iload_n 30 rfl rfl rfl ?_
        by_cases w8 : x2 = 0
        case pos =>
          rw [if_pos w8] at h
          refine g_tsw 72 rfl (by rw [w8]; rfl) ?_
          refine g_aload_n 73 rfl rfl rfl ?_
          refine g_get 76 rfl ((fun z hz => tagU_93 2 s_2 x1 U z hz) o1 ho1) (Nat.le_of_ble_eq_true rfl) rfl rfl ?_
          cases h
          exact g_iret rfl rfl
        rw [if_neg w8] at h
        by_cases w9 : x2 = 1
        case pos =>
          rw [if_pos w9] at h
          refine g_tsw 77 rfl (by rw [w9]; rfl) ?_
          refine g_aload_n 78 rfl rfl rfl ?_
          refine g_get 81 rfl ((fun z hz => tagU_93 2 s_2 x1 U z hz) o1 ho1) (Nat.le_of_ble_eq_true rfl) rfl rfl ?_
          cases h
          exact g_iret rfl rfl
        rw [if_neg w9] at h
        by_cases w10 : x2 = 2
        case pos =>
          rw [if_pos w10] at h
          refine g_tsw 82 rfl (by rw [w10]; rfl) ?_
          refine g_aload_n 83 rfl rfl rfl ?_
          refine g_get 86 rfl ((fun z hz => tagU_93 2 s_2 x1 U z hz) o1 ho1) (Nat.le_of_ble_eq_true rfl) rfl rfl ?_
          cases h
          exact g_iret rfl rfl
        rw [if_neg w10] at h
        by_cases w11 : x2 = 3
        case pos =>
          rw [if_pos w11] at h
          refine g_tsw 87 rfl (by rw [w11]; rfl) ?_
          refine g_aload_n 88 rfl rfl rfl ?_
          refine g_get 91 rfl ((fun z hz => tagU_93 2 s_2 x1 U z hz) o1 ho1) (Nat.le_of_ble_eq_true rfl) rfl rfl ?_
          cases h
          exact g_iret rfl rfl
        rw [if_neg w11] at h
        by_cases w12 : x2 = 4
        case pos =>
          rw [if_pos w12] at h
          refine g_tsw 92 rfl (by rw [w12]; rfl) ?_
          refine g_aload_n 93 rfl rfl rfl ?_
          refine g_get 96 rfl ((fun z hz => tagU_93 2 s_2 x1 U z hz) o1 ho1) (Nat.le_of_ble_eq_true rfl) rfl rfl ?_
          cases h
          exact g_iret rfl rfl
        rw [if_neg w12] at h
        by_cases w13 : x2 = 5
        case pos =>
          rw [if_pos w13] at h
          refine g_tsw 97 rfl (by rw [w13]; rfl) ?_
          refine g_aload_n 98 rfl rfl rfl ?_
          refine g_get 101 rfl ((fun z hz => tagU_93 2 s_2 x1 U z hz) o1 ho1) (Nat.le_of_ble_eq_true rfl) rfl rfl ?_
          refine g_if_eq 108 104 rfl rfl (fun c14 => ?_) (fun c14 => ?_)
          · rw [if_pos c14] at h
            refine g_iconst (v := 0) 109 rfl rfl rfl ?_
            cases h
            exact g_iret rfl rfl
          · rw [if_neg c14] at h
            refine g_iconst (v := 1) 105 rfl rfl rfl ?_
            refine g_goto 109 rfl ?_
            cases h
            exact g_iret rfl rfl
        rw [if_neg w13] at h
        by_cases w15 : x2 = 6
        case pos =>
          rw [if_pos w15] at h
          refine g_tsw 110 rfl (by rw [w15]; rfl) ?_
          refine g_aload_n 111 rfl rfl rfl ?_
          refine g_get 114 rfl ((fun z hz => tagU_93 2 s_2 x1 U z hz) o1 ho1) (Nat.le_of_ble_eq_true rfl) rfl rfl ?_
          cases h
          exact g_iret rfl rfl
        rw [if_neg w15] at h
        refine g_tsw 115 rfl (by
          have hX : x2.toInt < 0 ∨ 6 < x2.toInt := by
            have e := fun (k : Int32) (hk : ¬ x2 = k) => (fun (z : x2.toInt = k.toInt) => hk (Int32.toInt_inj.mp z))
            have gw8 : ¬ x2.toInt = 0 := e 0 w8
            have gw9 : ¬ x2.toInt = 1 := e 1 w9
            have gw10 : ¬ x2.toInt = 2 := e 2 w10
            have gw11 : ¬ x2.toInt = 3 := e 3 w11
            have gw12 : ¬ x2.toInt = 4 := e 4 w12
            have gw13 : ¬ x2.toInt = 5 := e 5 w13
            have gw15 : ¬ x2.toInt = 6 := e 6 w15
            omega
          rw [if_pos hX]; rfl) ?_
        refine g_aload_n 116 rfl rfl rfl ?_
        refine g_get 119 rfl ((fun z hz => tagU_93 2 s_2 x1 U z hz) o1 ho1) (Nat.le_of_ble_eq_true rfl) rfl rfl ?_
        cases h
        exact g_iret rfl rfl
      · rw [if_neg c7] at h
        refine g_aload_n 24 rfl rfl rfl ?_
        refine g_iconst (v := 5) 25 rfl rfl rfl ?_
        have tq16 := F_158 d 5 U
        rcases hq16 : f_158 5 U with ⟨q16, W17⟩
        rw [hq16] at h tq16
        dsimp only at h tq16
        refine g_callV (J := sm_I158) 28 rfl (Nat.le_of_ble_eq_true rfl) rfl rfl (Nat.le_of_ble_eq_true rfl) s_0 (Nat.le_of_ble_eq_true rfl) (Nat.le_of_ble_eq_true rfl) rfl rfl tq16 ?_
        cases h
        exact g_iret rfl rfl

def f_123 (x1 : Int32) (x2 : Int32) (x3 : Int32) (U : sU) : Int32 × sU :=
  match tat 2 x1 U with
  | none =>
    match f_157 5 U with
    | (q2, W3) =>
    (q2, W3)
  | some o1 =>
    if (f_102 o1 x2 U) = 0 then
      match f_157 5 U with
      | (q6, W7) =>
      (q6, W7)
    else
      if x3 < 0 then
        match f_157 5 U with
        | (q9, W10) =>
        (q9, W10)
      else
        if x3 ≤ 1 then
          if x3 = 0 then
            (iget (o1 + 1) x2 U, U)
          else
            (iget (o1 + 3) x2 U, U)
        else
          match f_157 5 U with
          | (q13, W14) =>
          (q13, W14)
set_option maxRecDepth 10000 in
set_option maxHeartbeats 2000000 in
theorem F_123 (d : Nat) (x1 : Int32) (x2 : Int32) (x3 : Int32) (U : sU) : Rn (d + 2) sm_I123 [.ref 0, .int x1, .int x2, .int x3] U (some (.int (f_123 x1 x2 x3 U).1)) (f_123 x1 x2 x3 U).2 := by
  refine Rn_of [(0, .ref 0), (1, .int x1), (2, .int x2), (3, .int x3)] (Nat.le_of_ble_eq_true rfl) (Sc rfl (Sc rfl (Sc rfl (Sc rfl (Sn _))))) ?_
  rcases h : f_123 x1 x2 x3 U with ⟨r, U'⟩
  dsimp only
  first | rw [f_123] at h | rw [f_123.eq_def] at h
  refine g_aload_n 1 rfl rfl rfl ?_
  refine g_get 4 rfl s_0 (Nat.le_of_ble_eq_true rfl) rfl rfl ?_
  refine g_iload_n 5 rfl rfl rfl ?_
  refine g_callV (J := sm_I93) 8 rfl (Nat.le_of_ble_eq_true rfl) rfl rfl (Nat.le_of_ble_eq_true rfl) s_2 (Nat.le_of_ble_eq_true rfl) (Nat.le_of_ble_eq_true rfl) rfl rfl (U_93 (d + 1) 2 s_2 x1 U) ?_
  refine g_astoreq (x := tat 2 x1 U) 10 [(4, va_rf (tat 2 x1 U)), (0, .ref 0), (1, .int x1), (2, .int x2), (3, .int x3)] rfl (Nat.le_of_ble_eq_true rfl) rfl rfl ?_
  refine g_aloadq (x := tat 2 x1 U) 12 rfl rfl rfl ?_
  rcases ho1 : tat 2 x1 U with _ | o1
  · rw [ho1] at h
    dsimp only at h
    refine g_ifnullN 33 rfl rfl ?_
    refine g_aload_n 34 rfl rfl rfl ?_
    refine g_iconst (v := 5) 35 rfl rfl rfl ?_
    have tq2 := F_157 d 5 U
    rcases hq2 : f_157 5 U with ⟨q2, W3⟩
    rw [hq2] at h tq2
    dsimp only at h tq2
    refine g_callV (J := sm_I157) 38 rfl (Nat.le_of_ble_eq_true rfl) rfl rfl (Nat.le_of_ble_eq_true rfl) s_0 (Nat.le_of_ble_eq_true rfl) (Nat.le_of_ble_eq_true rfl) rfl rfl tq2 ?_
    cases h
    exact g_iret rfl rfl
  · rw [ho1] at h
    dsimp only at h
    refine g_ifnull 15 rfl rfl ?_
    refine g_aload 17 rfl rfl rfl ?_
    refine g_iload_n 18 rfl rfl rfl ?_
    have r4 := F_102 (d + 1) o1 ((fun z hz => tagU_93 2 s_2 x1 U z hz) o1 ho1) x2 U
    refine g_callV (J := sm_I102) 21 rfl (Nat.le_of_ble_eq_true rfl) rfl rfl (Nat.le_of_ble_eq_true rfl) ((fun z hz => tagU_93 2 s_2 x1 U z hz) o1 ho1) (Nat.le_of_ble_eq_true rfl) (Nat.le_of_ble_eq_true rfl) rfl rfl r4 ?_
    refine g_if_eq 33 24 rfl rfl (fun c5 => ?_) (fun c5 => ?_)
    · rw [if_pos c5] at h
      refine g_aload_n 34 rfl rfl rfl ?_
      refine g_iconst (v := 5) 35 rfl rfl rfl ?_
      have tq6 := F_157 d 5 U
      rcases hq6 : f_157 5 U with ⟨q6, W7⟩
      rw [hq6] at h tq6
      dsimp only at h tq6
      refine g_callV (J := sm_I157) 38 rfl (Nat.le_of_ble_eq_true rfl) rfl rfl (Nat.le_of_ble_eq_true rfl) s_0 (Nat.le_of_ble_eq_true rfl) (Nat.le_of_ble_eq_true rfl) rfl rfl tq6 ?_
      cases h
      exact g_iret rfl rfl
    · rw [if_neg c5] at h
      refine g_iload_n 25 rfl rfl rfl ?_
      refine g_if_lt 33 28 rfl rfl (fun c8 => ?_) (fun c8 => ?_)
      · rw [if_pos c8] at h
        refine g_aload_n 34 rfl rfl rfl ?_
        refine g_iconst (v := 5) 35 rfl rfl rfl ?_
        have tq9 := F_157 d 5 U
        rcases hq9 : f_157 5 U with ⟨q9, W10⟩
        rw [hq9] at h tq9
        dsimp only at h tq9
        refine g_callV (J := sm_I157) 38 rfl (Nat.le_of_ble_eq_true rfl) rfl rfl (Nat.le_of_ble_eq_true rfl) s_0 (Nat.le_of_ble_eq_true rfl) (Nat.le_of_ble_eq_true rfl) rfl rfl tq9 ?_
        cases h
        exact g_iret rfl rfl
      · rw [if_neg c8] at h
        refine g_iload_n 29 rfl rfl rfl ?_
        refine g_iconst (v := 1) 30 rfl rfl rfl ?_
        refine g_icmp_le 39 33 rfl rfl (fun c11 => ?_) (fun c11 => ?_)
        · rw [if_pos c11] at h
          refine g_iload_n 40 rfl rfl rfl ?_
          refine g_if_ne 55 43 rfl rfl (fun c12 => ?_) (fun c12 => ?_)
          · rw [if_neg c12] at h
            refine g_aload 57 rfl rfl rfl ?_
            refine g_get 60 rfl ((fun z hz => tagU_93 2 s_2 x1 U z hz) o1 ho1) (Nat.le_of_ble_eq_true rfl) rfl rfl ?_
            refine g_iload_n 61 rfl rfl rfl ?_
            refine g_callV (J := sm_I9) 64 rfl (Nat.le_of_ble_eq_true rfl) rfl rfl (Nat.le_of_ble_eq_true rfl) (sh_8_3 ((fun z hz => tagU_93 2 s_2 x1 U z hz) o1 ho1)) (Nat.le_of_ble_eq_true rfl) (Nat.le_of_ble_eq_true rfl) rfl rfl (U_9 (d + 1) (o1 + 3) (sh_8_3 ((fun z hz => tagU_93 2 s_2 x1 U z hz) o1 ho1)) x2 U) ?_
            cases h
            exact g_iret rfl rfl
          · rw [if_pos c12] at h
            refine g_aload 45 rfl rfl rfl ?_
            refine g_get 48 rfl ((fun z hz => tagU_93 2 s_2 x1 U z hz) o1 ho1) (Nat.le_of_ble_eq_true rfl) rfl rfl ?_
            refine g_iload_n 49 rfl rfl rfl ?_
            refine g_callV (J := sm_I9) 52 rfl (Nat.le_of_ble_eq_true rfl) rfl rfl (Nat.le_of_ble_eq_true rfl) (sh_8_1 ((fun z hz => tagU_93 2 s_2 x1 U z hz) o1 ho1)) (Nat.le_of_ble_eq_true rfl) (Nat.le_of_ble_eq_true rfl) rfl rfl (U_9 (d + 1) (o1 + 1) (sh_8_1 ((fun z hz => tagU_93 2 s_2 x1 U z hz) o1 ho1)) x2 U) ?_
            refine g_goto 64 rfl ?_
            cases h
            exact g_iret rfl rfl
        · rw [if_neg c11] at h
          refine g_aload_n 34 rfl rfl rfl ?_
          refine g_iconst (v := 5) 35 rfl rfl rfl ?_
          have tq13 := F_157 d 5 U
          rcases hq13 : f_157 5 U with ⟨q13, W14⟩
          rw [hq13] at h tq13
          dsimp only at h tq13
          refine g_callV (J := sm_I157) 38 rfl (Nat.le_of_ble_eq_true rfl) rfl rfl (Nat.le_of_ble_eq_true rfl) s_0 (Nat.le_of_ble_eq_true rfl) (Nat.le_of_ble_eq_true rfl) rfl rfl tq13 ?_
          cases h
          exact g_iret rfl rfl

def f_124_58 : Nat → Int32 → (Option Nat) → Int32 → sU → Option (Int32 × sU)
  | 0, _, _, _, _ => none
  | n + 1, v2, v3, v4, U =>
    match v3 with
    | none => none
    | some o1 =>
      if (U.1 o1 2) ≤ v4 then
        Option.bind (f_41 218 U) fun q3 =>
        some (f_46 218 0 q3, q3)
      else
        if ((v2 >>> (v4 &&& 31)) &&& 1) = 1 then
          f_124_58 n v2 (some o1) (v4 + 1) (f_38 218 v4 0 U)
        else
          f_124_58 n v2 (some o1) (v4 + 1) (f_38 218 v4 1 U)
set_option maxRecDepth 10000 in
set_option maxHeartbeats 2000000 in
theorem F_124_58 (d : Nat)   : ∀ (n : Nat) (v2 : Int32) (v3 : Option Nat) (hv3 : ∀ z, v3 = some z → sh z = 8) (v4 : Int32) (U : sU) (r : Int32) (U' : sU), f_124_58 n v2 v3 v4 U = some (r, U') → G (d + 4) sm_I124 58 [(0, .ref 0), (2, .int v2), (3, va_rf v3), (4, .int v4)] [] U (some (.int r)) U' := by
  intro n
  induction n with
  | zero => intro v2 v3 hv3 v4 U r U' h; cases h
  | succ n ih =>
    intro v2 v3 hv3 v4 U r U' h
    first | rw [f_124_58] at h | (rw [f_124_58.eq_def] at h; dsimp only at h)
    refine g_iload 60 rfl rfl rfl ?_
    refine g_aload_nq (x := v3) 61 rfl rfl rfl ?_
    rcases ho1 : v3 with _ | o1
    · rw [ho1] at h; cases h
    rw [ho1] at h
    dsimp only at h
    refine g_get 64 rfl (hv3 o1 ho1) (Nat.le_of_ble_eq_true rfl) rfl rfl ?_
    refine g_icmp_ge 97 67 rfl rfl (fun c2 => ?_) (fun c2 => ?_)
    · rw [if_pos c2] at h
      refine g_aload_n 98 rfl rfl rfl ?_
      refine g_get 101 rfl s_0 (Nat.le_of_ble_eq_true rfl) rfl rfl ?_
      obtain ⟨q3, hq3, h⟩ := Option.bind_eq_some_iff.mp h
      refine g_callV (J := sm_I41) 104 rfl (Nat.le_of_ble_eq_true rfl) rfl rfl (Nat.le_of_ble_eq_true rfl) s_218 (Nat.le_of_ble_eq_true rfl) (Nat.le_of_ble_eq_true rfl) rfl rfl (F_41 d 218 s_218 hq3) ?_
      refine g_aload_n 105 rfl rfl rfl ?_
      refine g_get 108 rfl s_0 (Nat.le_of_ble_eq_true rfl) rfl rfl ?_
      refine g_iconst (v := 0) 109 rfl rfl rfl ?_
      refine g_callV (J := sm_I46) 112 rfl (Nat.le_of_ble_eq_true rfl) rfl rfl (Nat.le_of_ble_eq_true rfl) s_218 (Nat.le_of_ble_eq_true rfl) (Nat.le_of_ble_eq_true rfl) rfl rfl (F_46 (d + 2) 218 s_218 0 q3) ?_
      cases h
      exact g_iret rfl rfl
    · rw [if_neg c2] at h
      refine g_aload_n 68 rfl rfl rfl ?_
      refine g_get 71 rfl s_0 (Nat.le_of_ble_eq_true rfl) rfl rfl ?_
      refine g_iload 73 rfl rfl rfl ?_
      refine g_iload_n 74 rfl rfl rfl ?_
      refine g_iload 76 rfl rfl rfl ?_
      refine g_ishr 77 rfl rfl ?_
      refine g_iconst (v := 1) 78 rfl rfl rfl ?_
      refine g_iand 79 rfl rfl ?_
      refine g_iconst (v := 1) 80 rfl rfl rfl ?_
      refine g_icmp_ne 87 83 rfl rfl (fun c4 => ?_) (fun c4 => ?_)
      · rw [if_neg c4] at h
        refine g_iconst (v := 1) 88 rfl rfl rfl ?_
        refine g_callV (J := sm_I38) 91 rfl (Nat.le_of_ble_eq_true rfl) rfl rfl (Nat.le_of_ble_eq_true rfl) s_218 (Nat.le_of_ble_eq_true rfl) (Nat.le_of_ble_eq_true rfl) rfl rfl (F_38 (d + 2) 218 s_218 v4 1 U) ?_
        refine g_iinc (v := v4 + 1) 94 [(4, .int (v4 + 1)), (0, .ref 0), (2, .int v2), (3, .ref o1)] rfl rfl (Nat.le_of_ble_eq_true rfl) rfl rfl rfl ?_
        refine g_goto 58 rfl ?_
        exact g_sub (Sc rfl (Sc rfl (Sc rfl (Sc rfl (Sn _))))) (ih v2 (some o1) (fun z hz => by cases hz; exact (hv3 o1 ho1)) (v4 + 1) _ _ _ h)
      · rw [if_pos c4] at h
        refine g_iconst (v := 0) 84 rfl rfl rfl ?_
        refine g_goto 88 rfl ?_
        refine g_callV (J := sm_I38) 91 rfl (Nat.le_of_ble_eq_true rfl) rfl rfl (Nat.le_of_ble_eq_true rfl) s_218 (Nat.le_of_ble_eq_true rfl) (Nat.le_of_ble_eq_true rfl) rfl rfl (F_38 (d + 2) 218 s_218 v4 0 U) ?_
        refine g_iinc (v := v4 + 1) 94 [(4, .int (v4 + 1)), (0, .ref 0), (2, .int v2), (3, .ref o1)] rfl rfl (Nat.le_of_ble_eq_true rfl) rfl rfl rfl ?_
        refine g_goto 58 rfl ?_
        exact g_sub (Sc rfl (Sc rfl (Sc rfl (Sc rfl (Sn _))))) (ih v2 (some o1) (fun z hz => by cases hz; exact (hv3 o1 ho1)) (v4 + 1) _ _ _ h)
def f_124 (x1 : Int32) (x2 : Int32) (U : sU) : Option (Int32 × sU) :=
  match tat 2 x1 U with
  | none =>
    match f_157 1 U with
    | (q6, W7) =>
    some (q6, W7)
  | some o5 =>
    if (x2 >>> ((U.1 o5 2) &&& 31)) = 0 then
      if x2 = 0 then
        match f_157 6 U with
        | (q10, W11) =>
        some (q10, W11)
      else
        f_124_58 FU x2 (some o5) 0 (f_35 218 o5 (U.1 o5 4) (U.1 o5 3) U)
    else
      match f_157 1 U with
      | (q12, W13) =>
      some (q12, W13)
set_option maxRecDepth 10000 in
set_option maxHeartbeats 2000000 in
theorem F_124 (d : Nat) (x1 : Int32) (x2 : Int32) {U : sU} {r : Int32} {U' : sU} (h : f_124 x1 x2 U = some (r, U')) : Rn (d + 4) sm_I124 [.ref 0, .int x1, .int x2] U (some (.int r)) U' := by
  refine Rn_of [(0, .ref 0), (1, .int x1), (2, .int x2)] (Nat.le_of_ble_eq_true rfl) (Sc rfl (Sc rfl (Sc rfl (Sn _)))) ?_
  first | rw [f_124] at h | rw [f_124.eq_def] at h
  refine g_aload_n 1 rfl rfl rfl ?_
  refine g_get 4 rfl s_0 (Nat.le_of_ble_eq_true rfl) rfl rfl ?_
  refine g_iload_n 5 rfl rfl rfl ?_
  refine g_callV (J := sm_I93) 8 rfl (Nat.le_of_ble_eq_true rfl) rfl rfl (Nat.le_of_ble_eq_true rfl) s_2 (Nat.le_of_ble_eq_true rfl) (Nat.le_of_ble_eq_true rfl) rfl rfl (U_93 (d + 3) 2 s_2 x1 U) ?_
  refine g_astore_nq (x := tat 2 x1 U) 9 [(3, va_rf (tat 2 x1 U)), (0, .ref 0), (1, .int x1), (2, .int x2)] rfl (Nat.le_of_ble_eq_true rfl) rfl rfl ?_
  refine g_aload_nq (x := tat 2 x1 U) 10 rfl rfl rfl ?_
  rcases ho5 : tat 2 x1 U with _ | o5
  · rw [ho5] at h
    dsimp only at h
    refine g_ifnullN 22 rfl rfl ?_
    refine g_aload_n 23 rfl rfl rfl ?_
    refine g_iconst (v := 1) 24 rfl rfl rfl ?_
    have tq6 := F_157 (d + 2) 1 U
    rcases hq6 : f_157 1 U with ⟨q6, W7⟩
    rw [hq6] at h tq6
    dsimp only at h tq6
    refine g_callV (J := sm_I157) 27 rfl (Nat.le_of_ble_eq_true rfl) rfl rfl (Nat.le_of_ble_eq_true rfl) s_0 (Nat.le_of_ble_eq_true rfl) (Nat.le_of_ble_eq_true rfl) rfl rfl tq6 ?_
    cases h
    exact g_iret rfl rfl
  · rw [ho5] at h
    dsimp only at h
    refine g_ifnull 13 rfl rfl ?_
    refine g_iload_n 14 rfl rfl rfl ?_
    refine g_aload_n 15 rfl rfl rfl ?_
    refine g_get 18 rfl ((fun z hz => tagU_93 2 s_2 x1 U z hz) o5 ho5) (Nat.le_of_ble_eq_true rfl) rfl rfl ?_
    refine g_ishr 19 rfl rfl ?_
    refine g_if_eq 28 22 rfl rfl (fun c8 => ?_) (fun c8 => ?_)
    · rw [if_pos c8] at h
      refine g_iload_n 29 rfl rfl rfl ?_
      refine g_if_ne 39 32 rfl rfl (fun c9 => ?_) (fun c9 => ?_)
      · rw [if_neg c9] at h
        refine g_aload_n 40 rfl rfl rfl ?_
        refine g_get 43 rfl s_0 (Nat.le_of_ble_eq_true rfl) rfl rfl ?_
        refine g_aload_n 44 rfl rfl rfl ?_
        refine g_aload_n 45 rfl rfl rfl ?_
        refine g_get 48 rfl ((fun z hz => tagU_93 2 s_2 x1 U z hz) o5 ho5) (Nat.le_of_ble_eq_true rfl) rfl rfl ?_
        refine g_aload_n 49 rfl rfl rfl ?_
        refine g_get 52 rfl ((fun z hz => tagU_93 2 s_2 x1 U z hz) o5 ho5) (Nat.le_of_ble_eq_true rfl) rfl rfl ?_
        refine g_callV (J := sm_I35) 55 rfl (Nat.le_of_ble_eq_true rfl) rfl rfl (Nat.le_of_ble_eq_true rfl) s_218 (Nat.le_of_ble_eq_true rfl) (Nat.le_of_ble_eq_true rfl) rfl rfl (F_35 (d + 2) 218 s_218 o5 ((fun z hz => tagU_93 2 s_2 x1 U z hz) o5 ho5) (U.1 o5 4) (U.1 o5 3) U) ?_
        refine g_iconst (v := 0) 56 rfl rfl rfl ?_
        refine g_istore 58 [(4, .int 0), (3, .ref o5), (0, .ref 0), (1, .int x1), (2, .int x2)] rfl (Nat.le_of_ble_eq_true rfl) rfl rfl ?_
        exact g_sub (Sc rfl (Sc rfl (Sc rfl (Sc rfl (Sn _))))) (F_124_58 d _ x2 (some o5) (fun z hz => by cases hz; exact ((fun z hz => tagU_93 2 s_2 x1 U z hz) o5 ho5)) 0 _ _ _ h)
      · rw [if_pos c9] at h
        refine g_aload_n 33 rfl rfl rfl ?_
        refine g_bipush (v := 6) 35 rfl (by decide) rfl ?_
        have tq10 := F_157 (d + 2) 6 U
        rcases hq10 : f_157 6 U with ⟨q10, W11⟩
        rw [hq10] at h tq10
        dsimp only at h tq10
        refine g_callV (J := sm_I157) 38 rfl (Nat.le_of_ble_eq_true rfl) rfl rfl (Nat.le_of_ble_eq_true rfl) s_0 (Nat.le_of_ble_eq_true rfl) (Nat.le_of_ble_eq_true rfl) rfl rfl tq10 ?_
        cases h
        exact g_iret rfl rfl
    · rw [if_neg c8] at h
      refine g_aload_n 23 rfl rfl rfl ?_
      refine g_iconst (v := 1) 24 rfl rfl rfl ?_
      have tq12 := F_157 (d + 2) 1 U
      rcases hq12 : f_157 1 U with ⟨q12, W13⟩
      rw [hq12] at h tq12
      dsimp only at h tq12
      refine g_callV (J := sm_I157) 27 rfl (Nat.le_of_ble_eq_true rfl) rfl rfl (Nat.le_of_ble_eq_true rfl) s_0 (Nat.le_of_ble_eq_true rfl) (Nat.le_of_ble_eq_true rfl) rfl rfl tq12 ?_
      cases h
      exact g_iret rfl rfl

def f_171 (x0 : Int32) (U : sU) : Int32 :=
  if x0 < ((-500)) then
    0
  else
    if 500 < x0 then
      0
    else
      1
set_option maxRecDepth 10000 in
set_option maxHeartbeats 2000000 in
theorem F_171 (d : Nat) (x0 : Int32) (U : sU) : Rn (d + 0) sm_I171 [.int x0] U (some (.int (f_171 x0 U))) U := by
  refine Rn_of [(0, .int x0)] (Nat.le_of_ble_eq_true rfl) (Sc rfl (Sn _)) ?_
  generalize h : f_171 x0 U = r
  first | rw [f_171] at h | rw [f_171.eq_def] at h
  refine g_iload_n 1 rfl rfl rfl ?_
  refine g_sipush (v := (-500)) 4 rfl (by decide) rfl ?_
  refine g_icmp_lt 18 7 rfl rfl (fun c1 => ?_) (fun c1 => ?_)
  · rw [if_pos c1] at h
    refine g_iconst (v := 0) 19 rfl rfl rfl ?_
    subst h
    exact g_zret rfl rfl (Or.inl rfl)
  · rw [if_neg c1] at h
    refine g_iload_n 8 rfl rfl rfl ?_
    refine g_sipush (v := 500) 11 rfl (by decide) rfl ?_
    refine g_icmp_gt 18 14 rfl rfl (fun c2 => ?_) (fun c2 => ?_)
    · rw [if_pos c2] at h
      refine g_iconst (v := 0) 19 rfl rfl rfl ?_
      subst h
      exact g_zret rfl rfl (Or.inl rfl)
    · rw [if_neg c2] at h
      refine g_iconst (v := 1) 15 rfl rfl rfl ?_
      refine g_goto 19 rfl ?_
      subst h
      exact g_zret rfl rfl (Or.inr rfl)

def f_125_61 (v2 : Int32) (v3 : Int32) (v4 : Option Nat) (z0 : Int32) (U : sU) : Option (Int32 × sU) :=
  if v2 = 0 then
    match v4 with
    | none => none
    | some o3 =>
      some (z0, sI U o3 3 v3)
  else
    match v4 with
    | none => none
    | some o2 =>
      some (z0, sI U o2 4 v3)
set_option maxRecDepth 10000 in
set_option maxHeartbeats 2000000 in
theorem F_125_61 (d : Nat)   (v2 : Int32) (v3 : Int32) (v4 : Option Nat) (hv4 : ∀ z, v4 = some z → sh z = 8) (z0 : Int32) {U : sU} {r : Int32} {U' : sU} (h : f_125_61 v2 v3 v4 z0 U = some (r, U')) : G (d + 3) sm_I125 61 [(2, .int v2), (3, .int v3), (4, va_rf v4)] [.int z0] U (some (.int r)) U' := by
  first | rw [f_125_61] at h | rw [f_125_61.eq_def] at h
  refine g_istore 63 [(5, .int z0), (2, .int v2), (3, .int v3), (4, va_rf v4)] rfl (Nat.le_of_ble_eq_true rfl) (by generalize v4 = y; cases y <;> rfl) rfl ?_
  refine g_iload_n 64 rfl rfl rfl ?_
  refine g_if_ne 76 67 rfl rfl (fun c1 => ?_) (fun c1 => ?_)
  · rw [if_neg c1] at h
    refine g_aloadq (x := v4) 78 rfl rfl rfl ?_
    refine g_iload_n 79 rfl rfl rfl ?_
    rcases ho2 : v4 with _ | o2
    · rw [ho2] at h; cases h
    rw [ho2] at h
    dsimp only at h
    refine g_putI 82 rfl (hv4 o2 ho2) (Nat.le_of_ble_eq_true rfl) (Nat.le_of_ble_eq_true rfl) rfl fs_8_4 rfl ?_
    refine g_iload 84 rfl rfl rfl ?_
    cases h
    exact g_iret rfl rfl
  · rw [if_pos c1] at h
    refine g_aloadq (x := v4) 69 rfl rfl rfl ?_
    refine g_iload_n 70 rfl rfl rfl ?_
    rcases ho3 : v4 with _ | o3
    · rw [ho3] at h; cases h
    rw [ho3] at h
    dsimp only at h
    refine g_putI 73 rfl (hv4 o3 ho3) (Nat.le_of_ble_eq_true rfl) (Nat.le_of_ble_eq_true rfl) rfl fs_8_3 rfl ?_
    refine g_goto 82 rfl ?_
    refine g_iload 84 rfl rfl rfl ?_
    cases h
    exact g_iret rfl rfl
def f_125 (x1 : Int32) (x2 : Int32) (x3 : Int32) (U : sU) : Option (Int32 × sU) :=
  match tat 2 x1 U with
  | none =>
    match f_158 1 U with
    | (q5, W6) =>
    some (q5, W6)
  | some o4 =>
    if x2 < 0 then
      match f_158 6 U with
      | (q8, W9) =>
      some (q8, W9)
    else
      if 1 < x2 then
        match f_158 6 U with
        | (q11, W12) =>
        some (q11, W12)
      else
        if (f_171 x3 U) = 0 then
          match f_158 6 U with
          | (q16, W17) =>
          some (q16, W17)
        else
          if x2 = 0 then
            f_125_61 x2 x3 (some o4) (U.1 o4 3) U
          else
            f_125_61 x2 x3 (some o4) (U.1 o4 4) U
set_option maxRecDepth 10000 in
set_option maxHeartbeats 2000000 in
theorem F_125 (d : Nat) (x1 : Int32) (x2 : Int32) (x3 : Int32) {U : sU} {r : Int32} {U' : sU} (h : f_125 x1 x2 x3 U = some (r, U')) : Rn (d + 3) sm_I125 [.ref 0, .int x1, .int x2, .int x3] U (some (.int r)) U' := by
  refine Rn_of [(0, .ref 0), (1, .int x1), (2, .int x2), (3, .int x3)] (Nat.le_of_ble_eq_true rfl) (Sc rfl (Sc rfl (Sc rfl (Sc rfl (Sn _))))) ?_
  first | rw [f_125] at h | rw [f_125.eq_def] at h
  refine g_aload_n 1 rfl rfl rfl ?_
  refine g_get 4 rfl s_0 (Nat.le_of_ble_eq_true rfl) rfl rfl ?_
  refine g_iload_n 5 rfl rfl rfl ?_
  refine g_callV (J := sm_I93) 8 rfl (Nat.le_of_ble_eq_true rfl) rfl rfl (Nat.le_of_ble_eq_true rfl) s_2 (Nat.le_of_ble_eq_true rfl) (Nat.le_of_ble_eq_true rfl) rfl rfl (U_93 (d + 2) 2 s_2 x1 U) ?_
  refine g_astoreq (x := tat 2 x1 U) 10 [(4, va_rf (tat 2 x1 U)), (0, .ref 0), (1, .int x1), (2, .int x2), (3, .int x3)] rfl (Nat.le_of_ble_eq_true rfl) rfl rfl ?_
  refine g_aloadq (x := tat 2 x1 U) 12 rfl rfl rfl ?_
  rcases ho4 : tat 2 x1 U with _ | o4
  · rw [ho4] at h
    dsimp only at h
    refine g_ifnonnullN 15 rfl rfl ?_
    refine g_aload_n 16 rfl rfl rfl ?_
    refine g_iconst (v := 1) 17 rfl rfl rfl ?_
    have tq5 := F_158 d 1 U
    rcases hq5 : f_158 1 U with ⟨q5, W6⟩
    rw [hq5] at h tq5
    dsimp only at h tq5
    refine g_callV (J := sm_I158) 20 rfl (Nat.le_of_ble_eq_true rfl) rfl rfl (Nat.le_of_ble_eq_true rfl) s_0 (Nat.le_of_ble_eq_true rfl) (Nat.le_of_ble_eq_true rfl) rfl rfl tq5 ?_
    cases h
    exact g_iret rfl rfl
  · rw [ho4] at h
    dsimp only at h
    refine g_ifnonnull 21 rfl rfl ?_
    refine g_iload_n 22 rfl rfl rfl ?_
    refine g_if_lt 37 25 rfl rfl (fun c7 => ?_) (fun c7 => ?_)
    · rw [if_pos c7] at h
      refine g_aload_n 38 rfl rfl rfl ?_
      refine g_bipush (v := 6) 40 rfl (by decide) rfl ?_
      have tq8 := F_158 d 6 U
      rcases hq8 : f_158 6 U with ⟨q8, W9⟩
      rw [hq8] at h tq8
      dsimp only at h tq8
      refine g_callV (J := sm_I158) 43 rfl (Nat.le_of_ble_eq_true rfl) rfl rfl (Nat.le_of_ble_eq_true rfl) s_0 (Nat.le_of_ble_eq_true rfl) (Nat.le_of_ble_eq_true rfl) rfl rfl tq8 ?_
      cases h
      exact g_iret rfl rfl
    · rw [if_neg c7] at h
      refine g_iload_n 26 rfl rfl rfl ?_
      refine g_iconst (v := 1) 27 rfl rfl rfl ?_
      refine g_icmp_gt 37 30 rfl rfl (fun c10 => ?_) (fun c10 => ?_)
      · rw [if_pos c10] at h
        refine g_aload_n 38 rfl rfl rfl ?_
        refine g_bipush (v := 6) 40 rfl (by decide) rfl ?_
        have tq11 := F_158 d 6 U
        rcases hq11 : f_158 6 U with ⟨q11, W12⟩
        rw [hq11] at h tq11
        dsimp only at h tq11
        refine g_callV (J := sm_I158) 43 rfl (Nat.le_of_ble_eq_true rfl) rfl rfl (Nat.le_of_ble_eq_true rfl) s_0 (Nat.le_of_ble_eq_true rfl) (Nat.le_of_ble_eq_true rfl) rfl rfl tq11 ?_
        cases h
        exact g_iret rfl rfl
      · rw [if_neg c10] at h
        refine g_iload_n 31 rfl rfl rfl ?_
        have r13 := F_171 (d + 2) x3 U
        refine g_callS (J := sm_I171) 34 rfl (by decide) rfl rfl (Nat.le_of_ble_eq_true rfl) (Nat.le_of_ble_eq_true rfl) rfl rfl r13 ?_
        refine g_if_ne 44 37 rfl rfl (fun c14 => ?_) (fun c14 => ?_)
        · rw [if_neg c14] at h
          refine g_iload_n 45 rfl rfl rfl ?_
          refine g_if_ne 56 48 rfl rfl (fun c15 => ?_) (fun c15 => ?_)
          · rw [if_neg c15] at h
            refine g_aload 58 rfl rfl rfl ?_
            refine g_get 61 rfl ((fun z hz => tagU_93 2 s_2 x1 U z hz) o4 ho4) (Nat.le_of_ble_eq_true rfl) rfl rfl ?_
            exact g_sub (Sc rfl (Sc rfl (Sc rfl (Sn _)))) (F_125_61 d x2 x3 (some o4) (fun z hz => by cases hz; exact ((fun z hz => tagU_93 2 s_2 x1 U z hz) o4 ho4)) (U.1 o4 4) h)
          · rw [if_pos c15] at h
            refine g_aload 50 rfl rfl rfl ?_
            refine g_get 53 rfl ((fun z hz => tagU_93 2 s_2 x1 U z hz) o4 ho4) (Nat.le_of_ble_eq_true rfl) rfl rfl ?_
            refine g_goto 61 rfl ?_
            exact g_sub (Sc rfl (Sc rfl (Sc rfl (Sn _)))) (F_125_61 d x2 x3 (some o4) (fun z hz => by cases hz; exact ((fun z hz => tagU_93 2 s_2 x1 U z hz) o4 ho4)) (U.1 o4 3) h)
        · rw [if_pos c14] at h
          refine g_aload_n 38 rfl rfl rfl ?_
          refine g_bipush (v := 6) 40 rfl (by decide) rfl ?_
          have tq16 := F_158 d 6 U
          rcases hq16 : f_158 6 U with ⟨q16, W17⟩
          rw [hq16] at h tq16
          dsimp only at h tq16
          refine g_callV (J := sm_I158) 43 rfl (Nat.le_of_ble_eq_true rfl) rfl rfl (Nat.le_of_ble_eq_true rfl) s_0 (Nat.le_of_ble_eq_true rfl) (Nat.le_of_ble_eq_true rfl) rfl rfl tq16 ?_
          cases h
          exact g_iret rfl rfl

def f_126 (x1 : Int32) (x2 : Int32) (x3 : Int32) (U : sU) : Int32 × sU :=
  match tat 2 x1 U with
  | none =>
    match f_157 1 U with
    | (q2, W3) =>
    (q2, W3)
  | some o1 =>
    if (f_102 o1 x2 U) = 0 then
      match f_157 1 U with
      | (q12, W13) =>
      (q12, W13)
    else
      if x3 < 1 then
        match f_157 6 U with
        | (q7, W8) =>
        (q7, W8)
      else
        if x3 ≤ 99 then
          (iget (o1 + 3) x2 U, iput (o1 + 3) x2 x3 U)
        else
          match f_157 6 U with
          | (q10, W11) =>
          (q10, W11)
set_option maxRecDepth 10000 in
set_option maxHeartbeats 2000000 in
theorem F_126 (d : Nat) (x1 : Int32) (x2 : Int32) (x3 : Int32) (U : sU) : Rn (d + 2) sm_I126 [.ref 0, .int x1, .int x2, .int x3] U (some (.int (f_126 x1 x2 x3 U).1)) (f_126 x1 x2 x3 U).2 := by
  refine Rn_of [(0, .ref 0), (1, .int x1), (2, .int x2), (3, .int x3)] (Nat.le_of_ble_eq_true rfl) (Sc rfl (Sc rfl (Sc rfl (Sc rfl (Sn _))))) ?_
  rcases h : f_126 x1 x2 x3 U with ⟨r, U'⟩
  dsimp only
  first | rw [f_126] at h | rw [f_126.eq_def] at h
  refine g_aload_n 1 rfl rfl rfl ?_
  refine g_get 4 rfl s_0 (Nat.le_of_ble_eq_true rfl) rfl rfl ?_
  refine g_iload_n 5 rfl rfl rfl ?_
  refine g_callV (J := sm_I93) 8 rfl (Nat.le_of_ble_eq_true rfl) rfl rfl (Nat.le_of_ble_eq_true rfl) s_2 (Nat.le_of_ble_eq_true rfl) (Nat.le_of_ble_eq_true rfl) rfl rfl (U_93 (d + 1) 2 s_2 x1 U) ?_
  refine g_astoreq (x := tat 2 x1 U) 10 [(4, va_rf (tat 2 x1 U)), (0, .ref 0), (1, .int x1), (2, .int x2), (3, .int x3)] rfl (Nat.le_of_ble_eq_true rfl) rfl rfl ?_
  refine g_aloadq (x := tat 2 x1 U) 12 rfl rfl rfl ?_
  rcases ho1 : tat 2 x1 U with _ | o1
  · rw [ho1] at h
    dsimp only at h
    refine g_ifnullN 24 rfl rfl ?_
    refine g_aload_n 25 rfl rfl rfl ?_
    refine g_iconst (v := 1) 26 rfl rfl rfl ?_
    have tq2 := F_157 d 1 U
    rcases hq2 : f_157 1 U with ⟨q2, W3⟩
    rw [hq2] at h tq2
    dsimp only at h tq2
    refine g_callV (J := sm_I157) 29 rfl (Nat.le_of_ble_eq_true rfl) rfl rfl (Nat.le_of_ble_eq_true rfl) s_0 (Nat.le_of_ble_eq_true rfl) (Nat.le_of_ble_eq_true rfl) rfl rfl tq2 ?_
    cases h
    exact g_iret rfl rfl
  · rw [ho1] at h
    dsimp only at h
    refine g_ifnull 15 rfl rfl ?_
    refine g_aload 17 rfl rfl rfl ?_
    refine g_iload_n 18 rfl rfl rfl ?_
    have r4 := F_102 (d + 1) o1 ((fun z hz => tagU_93 2 s_2 x1 U z hz) o1 ho1) x2 U
    refine g_callV (J := sm_I102) 21 rfl (Nat.le_of_ble_eq_true rfl) rfl rfl (Nat.le_of_ble_eq_true rfl) ((fun z hz => tagU_93 2 s_2 x1 U z hz) o1 ho1) (Nat.le_of_ble_eq_true rfl) (Nat.le_of_ble_eq_true rfl) rfl rfl r4 ?_
    refine g_if_ne 30 24 rfl rfl (fun c5 => ?_) (fun c5 => ?_)
    · rw [if_neg c5] at h
      refine g_iload_n 31 rfl rfl rfl ?_
      refine g_iconst (v := 1) 32 rfl rfl rfl ?_
      refine g_icmp_lt 41 35 rfl rfl (fun c6 => ?_) (fun c6 => ?_)
      · rw [if_pos c6] at h
        refine g_aload_n 42 rfl rfl rfl ?_
        refine g_bipush (v := 6) 44 rfl (by decide) rfl ?_
        have tq7 := F_157 d 6 U
        rcases hq7 : f_157 6 U with ⟨q7, W8⟩
        rw [hq7] at h tq7
        dsimp only at h tq7
        refine g_callV (J := sm_I157) 47 rfl (Nat.le_of_ble_eq_true rfl) rfl rfl (Nat.le_of_ble_eq_true rfl) s_0 (Nat.le_of_ble_eq_true rfl) (Nat.le_of_ble_eq_true rfl) rfl rfl tq7 ?_
        cases h
        exact g_iret rfl rfl
      · rw [if_neg c6] at h
        refine g_iload_n 36 rfl rfl rfl ?_
        refine g_bipush (v := 99) 38 rfl (by decide) rfl ?_
        refine g_icmp_le 48 41 rfl rfl (fun c9 => ?_) (fun c9 => ?_)
        · rw [if_pos c9] at h
          refine g_aload 50 rfl rfl rfl ?_
          refine g_get 53 rfl ((fun z hz => tagU_93 2 s_2 x1 U z hz) o1 ho1) (Nat.le_of_ble_eq_true rfl) rfl rfl ?_
          refine g_iload_n 54 rfl rfl rfl ?_
          refine g_callV (J := sm_I9) 57 rfl (Nat.le_of_ble_eq_true rfl) rfl rfl (Nat.le_of_ble_eq_true rfl) (sh_8_3 ((fun z hz => tagU_93 2 s_2 x1 U z hz) o1 ho1)) (Nat.le_of_ble_eq_true rfl) (Nat.le_of_ble_eq_true rfl) rfl rfl (U_9 (d + 1) (o1 + 3) (sh_8_3 ((fun z hz => tagU_93 2 s_2 x1 U z hz) o1 ho1)) x2 U) ?_
          refine g_istore 59 [(5, .int (iget (o1 + 3) x2 U)), (4, .ref o1), (0, .ref 0), (1, .int x1), (2, .int x2), (3, .int x3)] rfl (Nat.le_of_ble_eq_true rfl) rfl rfl ?_
          refine g_aload 61 rfl rfl rfl ?_
          refine g_get 64 rfl ((fun z hz => tagU_93 2 s_2 x1 U z hz) o1 ho1) (Nat.le_of_ble_eq_true rfl) rfl rfl ?_
          refine g_iload_n 65 rfl rfl rfl ?_
          refine g_iload_n 66 rfl rfl rfl ?_
          refine g_callV (J := sm_I10) 69 rfl (Nat.le_of_ble_eq_true rfl) rfl rfl (Nat.le_of_ble_eq_true rfl) (sh_8_3 ((fun z hz => tagU_93 2 s_2 x1 U z hz) o1 ho1)) (Nat.le_of_ble_eq_true rfl) (Nat.le_of_ble_eq_true rfl) rfl rfl (U_10 (d + 1) (o1 + 3) (sh_8_3 ((fun z hz => tagU_93 2 s_2 x1 U z hz) o1 ho1)) x2 x3 U) ?_
          refine g_iload 71 rfl rfl rfl ?_
          cases h
          exact g_iret rfl rfl
        · rw [if_neg c9] at h
          refine g_aload_n 42 rfl rfl rfl ?_
          refine g_bipush (v := 6) 44 rfl (by decide) rfl ?_
          have tq10 := F_157 d 6 U
          rcases hq10 : f_157 6 U with ⟨q10, W11⟩
          rw [hq10] at h tq10
          dsimp only at h tq10
          refine g_callV (J := sm_I157) 47 rfl (Nat.le_of_ble_eq_true rfl) rfl rfl (Nat.le_of_ble_eq_true rfl) s_0 (Nat.le_of_ble_eq_true rfl) (Nat.le_of_ble_eq_true rfl) rfl rfl tq10 ?_
          cases h
          exact g_iret rfl rfl
    · rw [if_pos c5] at h
      refine g_aload_n 25 rfl rfl rfl ?_
      refine g_iconst (v := 1) 26 rfl rfl rfl ?_
      have tq12 := F_157 d 1 U
      rcases hq12 : f_157 1 U with ⟨q12, W13⟩
      rw [hq12] at h tq12
      dsimp only at h tq12
      refine g_callV (J := sm_I157) 29 rfl (Nat.le_of_ble_eq_true rfl) rfl rfl (Nat.le_of_ble_eq_true rfl) s_0 (Nat.le_of_ble_eq_true rfl) (Nat.le_of_ble_eq_true rfl) rfl rfl tq12 ?_
      cases h
      exact g_iret rfl rfl

def f_162_41 : Nat → Nat → (Option Nat) → Int32 → sU → Option Int32
  | 0, _, _, _, _ => none
  | n + 1, v1, v4, v5, U =>
    if (U.1 v1 2) ≤ v5 then
      some 0
    else
      match v4 with
      | none => none
      | some o2 =>
        if (f_88 o2 v5 U) < 0 then
          some 6
        else
          if (f_88 o2 v5 U) < (U.1 v1 5) then
            f_162_41 n v1 (some o2) (v5 + 1) U
          else
            some 6
set_option maxRecDepth 10000 in
set_option maxHeartbeats 2000000 in
theorem F_162_41 (d : Nat)   : ∀ (n : Nat) (v1 : Nat) (hv1 : sh v1 = 8) (v4 : Option Nat) (hv4 : ∀ z, v4 = some z → sh z = 6) (v5 : Int32) (U : sU) (r : Int32), f_162_41 n v1 v4 v5 U = some r → G (d + 3) sm_I162 41 [(1, .ref v1), (4, va_rf v4), (5, .int v5)] [] U (some (.int r)) U := by
  intro n
  induction n with
  | zero => intro v1 hv1 v4 hv4 v5 U r h; cases h
  | succ n ih =>
    intro v1 hv1 v4 hv4 v5 U r h
    first | rw [f_162_41] at h | (rw [f_162_41.eq_def] at h; dsimp only at h)
    refine g_iload 43 rfl rfl rfl ?_
    refine g_aload_n 44 rfl rfl rfl ?_
    refine g_get 47 rfl hv1 (Nat.le_of_ble_eq_true rfl) rfl rfl ?_
    refine g_icmp_ge 83 50 rfl rfl (fun c1 => ?_) (fun c1 => ?_)
    · rw [if_pos c1] at h
      refine g_iconst (v := 0) 84 rfl rfl rfl ?_
      cases h
      exact g_iret rfl rfl
    · rw [if_neg c1] at h
      refine g_aloadq (x := v4) 52 rfl rfl rfl ?_
      refine g_iload 54 rfl rfl rfl ?_
      rcases ho2 : v4 with _ | o2
      · rw [ho2] at h; cases h
      rw [ho2] at h
      dsimp only at h
      refine g_callV (J := sm_I88) 57 rfl (Nat.le_of_ble_eq_true rfl) rfl rfl (Nat.le_of_ble_eq_true rfl) (hv4 o2 ho2) (Nat.le_of_ble_eq_true rfl) (Nat.le_of_ble_eq_true rfl) rfl rfl (F_88 d o2 (hv4 o2 ho2) v5 U) ?_
      refine g_if_lt 74 60 rfl rfl (fun c3 => ?_) (fun c3 => ?_)
      · rw [if_pos c3] at h
        refine g_bipush (v := 6) 76 rfl (by decide) rfl ?_
        cases h
        exact g_iret rfl rfl
      · rw [if_neg c3] at h
        refine g_aload 62 rfl rfl rfl ?_
        refine g_iload 64 rfl rfl rfl ?_
        refine g_callV (J := sm_I88) 67 rfl (Nat.le_of_ble_eq_true rfl) rfl rfl (Nat.le_of_ble_eq_true rfl) (hv4 o2 ho2) (Nat.le_of_ble_eq_true rfl) (Nat.le_of_ble_eq_true rfl) rfl rfl (F_88 d o2 (hv4 o2 ho2) v5 U) ?_
        refine g_aload_n 68 rfl rfl rfl ?_
        refine g_get 71 rfl hv1 (Nat.le_of_ble_eq_true rfl) rfl rfl ?_
        refine g_icmp_lt 77 74 rfl rfl (fun c4 => ?_) (fun c4 => ?_)
        · rw [if_pos c4] at h
          refine g_iinc (v := v5 + 1) 80 [(5, .int (v5 + 1)), (1, .ref v1), (4, .ref o2)] rfl rfl (Nat.le_of_ble_eq_true rfl) rfl rfl rfl ?_
          refine g_goto 41 rfl ?_
          exact g_sub (Sc rfl (Sc rfl (Sc rfl (Sn _)))) (ih v1 hv1 (some o2) (fun z hz => by cases hz; exact (hv4 o2 ho2)) (v5 + 1) _ _ h)
        · rw [if_neg c4] at h
          refine g_bipush (v := 6) 76 rfl (by decide) rfl ?_
          cases h
          exact g_iret rfl rfl
def f_162 (x1 : Nat) (x2 : Int32) (U : sU) : Option Int32 :=
  if (f_161 x2 U) = 0 then
    match sat x2 with
    | none =>
      some (f_161 x2 U)
    | some o6 =>
      if (U.1 x1 2) ≤ (U.1 o6 3) then
        f_162_41 FU x1 (some o6) 0 U
      else
        some 5
  else
    some (f_161 x2 U)
set_option maxRecDepth 10000 in
set_option maxHeartbeats 2000000 in
theorem F_162 (d : Nat) (x1 : Nat) (hx1 : sh x1 = 8) (x2 : Int32) {U : sU} {r : Int32} (h : f_162 x1 x2 U = some r) : Rn (d + 3) sm_I162 [.ref 0, .ref x1, .int x2] U (some (.int r)) U := by
  refine Rn_of [(0, .ref 0), (1, .ref x1), (2, .int x2)] (Nat.le_of_ble_eq_true rfl) (Sc rfl (Sc rfl (Sc rfl (Sn _)))) ?_
  first | rw [f_162] at h | rw [f_162.eq_def] at h
  refine g_aload_n 1 rfl rfl rfl ?_
  refine g_iload_n 2 rfl rfl rfl ?_
  refine g_callV (J := sm_I161) 5 rfl (Nat.le_of_ble_eq_true rfl) rfl rfl (Nat.le_of_ble_eq_true rfl) s_0 (Nat.le_of_ble_eq_true rfl) (Nat.le_of_ble_eq_true rfl) rfl rfl (F_161 (d + 1) x2 U) ?_
  refine g_istore_n 6 [(3, .int (f_161 x2 U)), (0, .ref 0), (1, .ref x1), (2, .int x2)] rfl (Nat.le_of_ble_eq_true rfl) rfl rfl ?_
  refine g_aload_n 7 rfl rfl rfl ?_
  refine g_iload_n 8 rfl rfl rfl ?_
  refine g_callV (J := sm_I160) 11 rfl (Nat.le_of_ble_eq_true rfl) rfl rfl (Nat.le_of_ble_eq_true rfl) s_0 (Nat.le_of_ble_eq_true rfl) (Nat.le_of_ble_eq_true rfl) rfl rfl (U_160 (d + 2) x2 U) ?_
  refine g_astoreq (x := sat x2) 13 [(4, va_rf (sat x2)), (3, .int (f_161 x2 U)), (0, .ref 0), (1, .ref x1), (2, .int x2)] rfl (Nat.le_of_ble_eq_true rfl) rfl rfl ?_
  refine g_iload_n 14 rfl rfl rfl ?_
  refine g_if_ne 22 17 rfl rfl (fun c5 => ?_) (fun c5 => ?_)
  · rw [if_neg c5] at h
    refine g_iload_n 23 rfl rfl rfl ?_
    cases h
    exact g_iret rfl rfl
  · rw [if_pos c5] at h
    refine g_aloadq (x := sat x2) 19 rfl rfl rfl ?_
    rcases ho6 : sat x2 with _ | o6
    · rw [ho6] at h
      dsimp only at h
      refine g_ifnonnullN 22 rfl rfl ?_
      refine g_iload_n 23 rfl rfl rfl ?_
      cases h
      exact g_iret rfl rfl
    · rw [ho6] at h
      dsimp only at h
      refine g_ifnonnull 24 rfl rfl ?_
      refine g_aload 26 rfl rfl rfl ?_
      refine g_get 29 rfl ((fun z hz => tagU_160 x2 U z hz) o6 ho6) (Nat.le_of_ble_eq_true rfl) rfl rfl ?_
      refine g_aload_n 30 rfl rfl rfl ?_
      refine g_get 33 rfl hx1 (Nat.le_of_ble_eq_true rfl) rfl rfl ?_
      refine g_icmp_ge 38 36 rfl rfl (fun c7 => ?_) (fun c7 => ?_)
      · rw [if_pos c7] at h
        refine g_iconst (v := 0) 39 rfl rfl rfl ?_
        refine g_istore 41 [(5, .int 0), (4, .ref o6), (3, .int (f_161 x2 U)), (0, .ref 0), (1, .ref x1), (2, .int x2)] rfl (Nat.le_of_ble_eq_true rfl) rfl rfl ?_
        exact g_sub (Sc rfl (Sc rfl (Sc rfl (Sn _)))) (F_162_41 d _ x1 hx1 (some o6) (fun z hz => by cases hz; exact ((fun z hz => tagU_160 x2 U z hz) o6 ho6)) 0 _ _ h)
      · rw [if_neg c7] at h
        refine g_iconst (v := 5) 37 rfl rfl rfl ?_
        cases h
        exact g_iret rfl rfl

def f_163 (x1 : Nat) (x2 : Int32) (U : sU) : Int32 :=
  if x2 < 0 then
    if (0 : Int32) = 0 then
      6
    else
      0
  else
    if (f_103 x1 U) ≤ x2 then
      if (0 : Int32) = 0 then
        6
      else
        0
    else
      if (f_104 x1 x2 U) = 0 then
        if (0 : Int32) = 0 then
          6
        else
          0
      else
        if (1 : Int32) = 0 then
          6
        else
          0
set_option maxRecDepth 10000 in
set_option maxHeartbeats 2000000 in
theorem F_163 (d : Nat) (x1 : Nat) (hx1 : sh x1 = 8) (x2 : Int32) (U : sU) : Rn (d + 2) sm_I163 [.ref 0, .ref x1, .int x2] U (some (.int (f_163 x1 x2 U))) U := by
  refine Rn_of [(0, .ref 0), (1, .ref x1), (2, .int x2)] (Nat.le_of_ble_eq_true rfl) (Sc rfl (Sc rfl (Sc rfl (Sn _)))) ?_
  generalize h : f_163 x1 x2 U = r
  first | rw [f_163] at h | rw [f_163.eq_def] at h
  refine g_iload_n 1 rfl rfl rfl ?_
  refine g_if_lt 24 4 rfl rfl (fun c1 => ?_) (fun c1 => ?_)
  · rw [if_pos c1] at h
    refine g_iconst (v := 0) 25 rfl rfl rfl ?_
    refine g_istore_n 26 [(3, .int 0), (0, .ref 0), (1, .ref x1), (2, .int x2)] rfl (Nat.le_of_ble_eq_true rfl) rfl rfl ?_
    refine g_iload_n 27 rfl rfl rfl ?_
    refine g_if_eq 34 30 rfl rfl (fun c2 => ?_) (fun c2 => ?_)
    · rw [if_pos c2] at h
      refine g_bipush (v := 6) 36 rfl (by decide) rfl ?_
      subst h
      exact g_iret rfl rfl
    · rw [if_neg c2] at h
      refine g_iconst (v := 0) 31 rfl rfl rfl ?_
      refine g_goto 36 rfl ?_
      subst h
      exact g_iret rfl rfl
  · rw [if_neg c1] at h
    refine g_iload_n 5 rfl rfl rfl ?_
    refine g_aload_n 6 rfl rfl rfl ?_
    refine g_callV (J := sm_I103) 9 rfl (Nat.le_of_ble_eq_true rfl) rfl rfl (Nat.le_of_ble_eq_true rfl) hx1 (Nat.le_of_ble_eq_true rfl) (Nat.le_of_ble_eq_true rfl) rfl rfl (F_103 (d + 1) x1 hx1 U) ?_
    refine g_icmp_ge 24 12 rfl rfl (fun c3 => ?_) (fun c3 => ?_)
    · rw [if_pos c3] at h
      refine g_iconst (v := 0) 25 rfl rfl rfl ?_
      refine g_istore_n 26 [(3, .int 0), (0, .ref 0), (1, .ref x1), (2, .int x2)] rfl (Nat.le_of_ble_eq_true rfl) rfl rfl ?_
      refine g_iload_n 27 rfl rfl rfl ?_
      refine g_if_eq 34 30 rfl rfl (fun c4 => ?_) (fun c4 => ?_)
      · rw [if_pos c4] at h
        refine g_bipush (v := 6) 36 rfl (by decide) rfl ?_
        subst h
        exact g_iret rfl rfl
      · rw [if_neg c4] at h
        refine g_iconst (v := 0) 31 rfl rfl rfl ?_
        refine g_goto 36 rfl ?_
        subst h
        exact g_iret rfl rfl
    · rw [if_neg c3] at h
      refine g_aload_n 13 rfl rfl rfl ?_
      refine g_iload_n 14 rfl rfl rfl ?_
      have r5 := F_104 d x1 hx1 x2 U
      refine g_callV (J := sm_I104) 17 rfl (Nat.le_of_ble_eq_true rfl) rfl rfl (Nat.le_of_ble_eq_true rfl) hx1 (Nat.le_of_ble_eq_true rfl) (Nat.le_of_ble_eq_true rfl) rfl rfl r5 ?_
      refine g_if_eq 24 20 rfl rfl (fun c6 => ?_) (fun c6 => ?_)
      · rw [if_pos c6] at h
        refine g_iconst (v := 0) 25 rfl rfl rfl ?_
        refine g_istore_n 26 [(3, .int 0), (0, .ref 0), (1, .ref x1), (2, .int x2)] rfl (Nat.le_of_ble_eq_true rfl) rfl rfl ?_
        refine g_iload_n 27 rfl rfl rfl ?_
        refine g_if_eq 34 30 rfl rfl (fun c7 => ?_) (fun c7 => ?_)
        · rw [if_pos c7] at h
          refine g_bipush (v := 6) 36 rfl (by decide) rfl ?_
          subst h
          exact g_iret rfl rfl
        · rw [if_neg c7] at h
          refine g_iconst (v := 0) 31 rfl rfl rfl ?_
          refine g_goto 36 rfl ?_
          subst h
          exact g_iret rfl rfl
      · rw [if_neg c6] at h
        refine g_iconst (v := 1) 21 rfl rfl rfl ?_
        refine g_goto 25 rfl ?_
        refine g_istore_n 26 [(3, .int 1), (0, .ref 0), (1, .ref x1), (2, .int x2)] rfl (Nat.le_of_ble_eq_true rfl) rfl rfl ?_
        refine g_iload_n 27 rfl rfl rfl ?_
        refine g_if_eq 34 30 rfl rfl (fun c8 => ?_) (fun c8 => ?_)
        · rw [if_pos c8] at h
          refine g_bipush (v := 6) 36 rfl (by decide) rfl ?_
          subst h
          exact g_iret rfl rfl
        · rw [if_neg c8] at h
          refine g_iconst (v := 0) 31 rfl rfl rfl ?_
          refine g_goto 36 rfl ?_
          subst h
          exact g_iret rfl rfl

def f_127_184 (v3 : Int32) (v5 : Option Nat) (v6 : Int32) (v7 : Int32) (v9 : Option Nat) (z0 : Option Nat) (z1 : Int32) (z2 : Int32) (z3 : Int32) (U : sU) : Option (Int32 × sU) :=
  match z0 with
  | none => none
  | some o1 =>
    if v6 = 0 then
      match v5 with
      | none => none
      | some o3 =>
        match v9 with
        | none => none
        | some o4 =>
          Option.bind (f_32 o4 v7 ((f_30 o1 z1 z2 z3 U).1 o3 2) (f_30 o1 z1 z2 z3 U)) fun q5 =>
          some (((sI q5 2 3 ((q5.1 2 3) + 1)).1 2 3) - 1, sI q5 2 3 ((q5.1 2 3) + 1))
    else
      match v5 with
      | none => none
      | some o6 =>
        match v9 with
        | none => none
        | some o7 =>
          match sat v3 with
          | none => none
          | some o8 =>
            Option.bind (f_31 o7 o8 ((f_30 o1 z1 z2 z3 U).1 o6 2) (f_30 o1 z1 z2 z3 U)) fun q9 =>
            some (((sI q9 2 3 ((q9.1 2 3) + 1)).1 2 3) - 1, sI q9 2 3 ((q9.1 2 3) + 1))
set_option maxRecDepth 10000 in
set_option maxHeartbeats 2000000 in
theorem F_127_184 (d : Nat)   (v3 : Int32) (v5 : Option Nat) (hv5 : ∀ z, v5 = some z → sh z = 8) (v6 : Int32) (v7 : Int32) (v9 : Option Nat) (hv9 : ∀ z, v9 = some z → sh z = 3) (z0 : Option Nat) (hz0 : ∀ z, z0 = some z → sh z = 3) (z1 : Int32) (z2 : Int32) (z3 : Int32) {U : sU} {r : Int32} {U' : sU} (h : f_127_184 v3 v5 v6 v7 v9 z0 z1 z2 z3 U = some (r, U')) : G (d + 4) sm_I127 184 [(0, .ref 0), (3, .int v3), (5, va_rf v5), (6, .int v6), (7, .int v7), (9, va_rf v9)] [.int z3, .int z2, .int z1, va_rf z0] U (some (.int r)) U' := by
  first | rw [f_127_184] at h | rw [f_127_184.eq_def] at h
  rcases ho1 : z0 with _ | o1
  · rw [ho1] at h; cases h
  rw [ho1] at h
  dsimp only at h
  refine g_callV (J := sm_I30) 187 rfl (Nat.le_of_ble_eq_true rfl) rfl rfl (Nat.le_of_ble_eq_true rfl) (hz0 o1 ho1) (Nat.le_of_ble_eq_true rfl) (Nat.le_of_ble_eq_true rfl) rfl rfl (F_30 (d + 2) o1 (hz0 o1 ho1) z1 z2 z3 U) ?_
  refine g_iload 189 rfl rfl rfl ?_
  refine g_if_eq 210 192 rfl rfl (fun c2 => ?_) (fun c2 => ?_)
  · rw [if_pos c2] at h
    refine g_aloadq (x := v9) 212 rfl rfl rfl ?_
    refine g_iload 214 rfl rfl rfl ?_
    refine g_aloadq (x := v5) 216 rfl rfl rfl ?_
    rcases ho3 : v5 with _ | o3
    · rw [ho3] at h; cases h
    rw [ho3] at h
    dsimp only at h
    refine g_get 219 rfl (hv5 o3 ho3) (Nat.le_of_ble_eq_true rfl) rfl rfl ?_
    rcases ho4 : v9 with _ | o4
    · rw [ho4] at h; cases h
    rw [ho4] at h
    dsimp only at h
    obtain ⟨q5, hq5, h⟩ := Option.bind_eq_some_iff.mp h
    refine g_callV (J := sm_I32) 222 rfl (Nat.le_of_ble_eq_true rfl) rfl rfl (Nat.le_of_ble_eq_true rfl) (hv9 o4 ho4) (Nat.le_of_ble_eq_true rfl) (Nat.le_of_ble_eq_true rfl) rfl rfl (F_32 (d + 2) o4 (hv9 o4 ho4) v7 ((f_30 o1 z1 z2 z3 U).1 o3 2) hq5) ?_
    refine g_aload_n 223 rfl rfl rfl ?_
    refine g_get 226 rfl s_0 (Nat.le_of_ble_eq_true rfl) rfl rfl ?_
    refine g_dup 227 rfl rfl rfl ?_
    refine g_get 230 rfl s_2 (Nat.le_of_ble_eq_true rfl) rfl rfl ?_
    refine g_iconst (v := 1) 231 rfl rfl rfl ?_
    refine g_iadd 232 rfl rfl ?_
    refine g_putI 235 rfl s_2 (Nat.le_of_ble_eq_true rfl) (Nat.le_of_ble_eq_true rfl) rfl fs_7_3 rfl ?_
    refine g_aload_n 236 rfl rfl rfl ?_
    refine g_get 239 rfl s_0 (Nat.le_of_ble_eq_true rfl) rfl rfl ?_
    refine g_get 242 rfl s_2 (Nat.le_of_ble_eq_true rfl) rfl rfl ?_
    refine g_iconst (v := 1) 243 rfl rfl rfl ?_
    refine g_isub 244 rfl rfl ?_
    cases h
    exact g_iret rfl rfl
  · rw [if_neg c2] at h
    refine g_aloadq (x := v9) 194 rfl rfl rfl ?_
    refine g_aload_n 195 rfl rfl rfl ?_
    refine g_iload_n 196 rfl rfl rfl ?_
    refine g_callV (J := sm_I160) 199 rfl (Nat.le_of_ble_eq_true rfl) rfl rfl (Nat.le_of_ble_eq_true rfl) s_0 (Nat.le_of_ble_eq_true rfl) (by generalize v9 = y; cases y <;> exact (Nat.le_of_ble_eq_true rfl)) rfl rfl (U_160 (d + 3) v3 (f_30 o1 z1 z2 z3 U)) ?_
    refine g_aloadq (x := v5) 201 rfl rfl rfl ?_
    rcases ho6 : v5 with _ | o6
    · rw [ho6] at h; cases h
    rw [ho6] at h
    dsimp only at h
    refine g_get 204 rfl (hv5 o6 ho6) (Nat.le_of_ble_eq_true rfl) rfl rfl ?_
    rcases ho7 : v9 with _ | o7
    · rw [ho7] at h; cases h
    rw [ho7] at h
    dsimp only at h
    rcases ho8 : sat v3 with _ | o8
    · rw [ho8] at h; cases h
    rw [ho8] at h
    dsimp only at h
    obtain ⟨q9, hq9, h⟩ := Option.bind_eq_some_iff.mp h
    refine g_callV (J := sm_I31) 207 rfl (Nat.le_of_ble_eq_true rfl) rfl rfl (Nat.le_of_ble_eq_true rfl) (hv9 o7 ho7) (Nat.le_of_ble_eq_true rfl) (Nat.le_of_ble_eq_true rfl) rfl rfl (F_31 d o7 (hv9 o7 ho7) o8 ((fun z hz => tagU_160 v3 (f_30 o1 z1 z2 z3 U) z hz) o8 ho8) ((f_30 o1 z1 z2 z3 U).1 o6 2) hq9) ?_
    refine g_goto 222 rfl ?_
    refine g_aload_n 223 rfl rfl rfl ?_
    refine g_get 226 rfl s_0 (Nat.le_of_ble_eq_true rfl) rfl rfl ?_
    refine g_dup 227 rfl rfl rfl ?_
    refine g_get 230 rfl s_2 (Nat.le_of_ble_eq_true rfl) rfl rfl ?_
    refine g_iconst (v := 1) 231 rfl rfl rfl ?_
    refine g_iadd 232 rfl rfl ?_
    refine g_putI 235 rfl s_2 (Nat.le_of_ble_eq_true rfl) (Nat.le_of_ble_eq_true rfl) rfl fs_7_3 rfl ?_
    refine g_aload_n 236 rfl rfl rfl ?_
    refine g_get 239 rfl s_0 (Nat.le_of_ble_eq_true rfl) rfl rfl ?_
    refine g_get 242 rfl s_2 (Nat.le_of_ble_eq_true rfl) rfl rfl ?_
    refine g_iconst (v := 1) 243 rfl rfl rfl ?_
    refine g_isub 244 rfl rfl ?_
    cases h
    exact g_iret rfl rfl
def f_127_151 (v1 : Int32) (v2 : Int32) (v3 : Int32) (v4 : Int32) (v5 : Option Nat) (v6 : Int32) (v7 : Int32) (v8 : Int32) (v9 : Option Nat) (U : sU) : Option (Int32 × sU) :=
  if v8 = 0 then
    match v9 with
    | none =>
      match f_157 v8 U with
      | (q14, W15) =>
      some (q14, W15)
    | some o13 =>
      if v2 = 2 then
        f_127_184 v3 v5 v6 v7 (some o13) (some o13) v1 v2 v4 U
      else
        f_127_184 v3 v5 v6 v7 (some o13) (some o13) v1 v2 100 U
  else
    match f_157 v8 U with
    | (q11, W12) =>
    some (q11, W12)
set_option maxRecDepth 10000 in
set_option maxHeartbeats 2000000 in
theorem F_127_151 (d : Nat)   (v1 : Int32) (v2 : Int32) (v3 : Int32) (v4 : Int32) (v5 : Option Nat) (hv5 : ∀ z, v5 = some z → sh z = 8) (v6 : Int32) (v7 : Int32) (v8 : Int32) (v9 : Option Nat) (hv9 : ∀ z, v9 = some z → sh z = 3) {U : sU} {r : Int32} {U' : sU} (h : f_127_151 v1 v2 v3 v4 v5 v6 v7 v8 v9 U = some (r, U')) : G (d + 4) sm_I127 151 [(0, .ref 0), (1, .int v1), (2, .int v2), (3, .int v3), (4, .int v4), (5, va_rf v5), (6, .int v6), (7, .int v7), (8, .int v8), (9, va_rf v9)] [] U (some (.int r)) U' := by
  first | rw [f_127_151] at h | rw [f_127_151.eq_def] at h
  refine g_iload 153 rfl rfl rfl ?_
  refine g_if_ne 161 156 rfl rfl (fun c10 => ?_) (fun c10 => ?_)
  · rw [if_neg c10] at h
    refine g_aload_n 162 rfl rfl rfl ?_
    refine g_iload 164 rfl rfl rfl ?_
    have tq11 := F_157 (d + 2) v8 U
    rcases hq11 : f_157 v8 U with ⟨q11, W12⟩
    rw [hq11] at h tq11
    dsimp only at h tq11
    refine g_callV (J := sm_I157) 167 rfl (Nat.le_of_ble_eq_true rfl) rfl rfl (Nat.le_of_ble_eq_true rfl) s_0 (Nat.le_of_ble_eq_true rfl) (Nat.le_of_ble_eq_true rfl) rfl rfl tq11 ?_
    cases h
    exact g_iret rfl rfl
  · rw [if_pos c10] at h
    refine g_aloadq (x := v9) 158 rfl rfl rfl ?_
    rcases ho13 : v9 with _ | o13
    · rw [ho13] at h
      dsimp only at h
      refine g_ifnonnullN 161 rfl rfl ?_
      refine g_aload_n 162 rfl rfl rfl ?_
      refine g_iload 164 rfl rfl rfl ?_
      have tq14 := F_157 (d + 2) v8 U
      rcases hq14 : f_157 v8 U with ⟨q14, W15⟩
      rw [hq14] at h tq14
      dsimp only at h tq14
      refine g_callV (J := sm_I157) 167 rfl (Nat.le_of_ble_eq_true rfl) rfl rfl (Nat.le_of_ble_eq_true rfl) s_0 (Nat.le_of_ble_eq_true rfl) (Nat.le_of_ble_eq_true rfl) rfl rfl tq14 ?_
      cases h
      exact g_iret rfl rfl
    · rw [ho13] at h
      dsimp only at h
      refine g_ifnonnull 168 rfl rfl ?_
      refine g_aload 170 rfl rfl rfl ?_
      refine g_iload_n 171 rfl rfl rfl ?_
      refine g_iload_n 172 rfl rfl rfl ?_
      refine g_iload_n 173 rfl rfl rfl ?_
      refine g_iconst (v := 2) 174 rfl rfl rfl ?_
      refine g_icmp_ne 182 177 rfl rfl (fun c16 => ?_) (fun c16 => ?_)
      · rw [if_neg c16] at h
        refine g_bipush (v := 100) 184 rfl (by decide) rfl ?_
        exact g_sub (Sc rfl (Sc rfl (Sc rfl (Sc rfl (Sc rfl (Sc rfl (Sn _))))))) (F_127_184 d v3 v5 hv5 v6 v7 (some o13) (fun z hz => by cases hz; exact (hv9 o13 ho13)) (some o13) (fun z hz => by cases hz; exact (hv9 o13 ho13)) v1 v2 100 h)
      · rw [if_pos c16] at h
        refine g_iload 179 rfl rfl rfl ?_
        refine g_goto 184 rfl ?_
        exact g_sub (Sc rfl (Sc rfl (Sc rfl (Sc rfl (Sc rfl (Sc rfl (Sn _))))))) (F_127_184 d v3 v5 hv5 v6 v7 (some o13) (fun z hz => by cases hz; exact (hv9 o13 ho13)) (some o13) (fun z hz => by cases hz; exact (hv9 o13 ho13)) v1 v2 v4 h)
def f_127_128 (v1 : Int32) (v2 : Int32) (v3 : Int32) (v4 : Int32) (v5 : Option Nat) (v6 : Int32) (v7 : Int32) (v8 : Int32) (U : sU) : Option (Int32 × sU) :=
  if v8 = 0 then
    match nmg 2 U with
    | none =>
      f_127_151 v1 v2 v3 v4 v5 v6 v7 7 none U
    | some o18 =>
      f_127_151 v1 v2 v3 v4 v5 v6 v7 v8 (some o18) U
  else
    f_127_151 v1 v2 v3 v4 v5 v6 v7 v8 (nmg 2 U) U
set_option maxRecDepth 10000 in
set_option maxHeartbeats 2000000 in
theorem F_127_128 (d : Nat)   (v1 : Int32) (v2 : Int32) (v3 : Int32) (v4 : Int32) (v5 : Option Nat) (hv5 : ∀ z, v5 = some z → sh z = 8) (v6 : Int32) (v7 : Int32) (v8 : Int32) {U : sU} {r : Int32} {U' : sU} (h : f_127_128 v1 v2 v3 v4 v5 v6 v7 v8 U = some (r, U')) : G (d + 4) sm_I127 128 [(0, .ref 0), (1, .int v1), (2, .int v2), (3, .int v3), (4, .int v4), (5, va_rf v5), (6, .int v6), (7, .int v7), (8, .int v8)] [] U (some (.int r)) U' := by
  first | rw [f_127_128] at h | rw [f_127_128.eq_def] at h
  refine g_aload_n 129 rfl rfl rfl ?_
  refine g_get 132 rfl s_0 (Nat.le_of_ble_eq_true rfl) rfl rfl ?_
  refine g_callV (J := sm_I96) 135 rfl (Nat.le_of_ble_eq_true rfl) rfl rfl (Nat.le_of_ble_eq_true rfl) s_2 (Nat.le_of_ble_eq_true rfl) (Nat.le_of_ble_eq_true rfl) rfl rfl (U_96 (d + 3) 2 s_2 U) ?_
  refine g_astoreq (x := nmg 2 U) 137 [(9, va_rf (nmg 2 U)), (0, .ref 0), (1, .int v1), (2, .int v2), (3, .int v3), (4, .int v4), (5, va_rf v5), (6, .int v6), (7, .int v7), (8, .int v8)] rfl (Nat.le_of_ble_eq_true rfl) rfl rfl ?_
  refine g_iload 139 rfl rfl rfl ?_
  refine g_if_ne 151 142 rfl rfl (fun c17 => ?_) (fun c17 => ?_)
  · rw [if_neg c17] at h
    exact g_sub (Sc rfl (Sc rfl (Sc rfl (Sc rfl (Sc rfl (Sc rfl (Sc rfl (Sc rfl (Sc rfl (Sc rfl (Sn _))))))))))) (F_127_151 d v1 v2 v3 v4 v5 hv5 v6 v7 v8 (nmg 2 U) (fun z hz => tagU_96 2 s_2 U z hz) h)
  · rw [if_pos c17] at h
    refine g_aloadq (x := nmg 2 U) 144 rfl rfl rfl ?_
    rcases ho18 : nmg 2 U with _ | o18
    · rw [ho18] at h
      dsimp only at h
      refine g_ifnonnullN 147 rfl rfl ?_
      refine g_bipush (v := 7) 149 rfl (by decide) rfl ?_
      refine g_istore 151 [(8, .int 7), (9, va_rf none), (0, .ref 0), (1, .int v1), (2, .int v2), (3, .int v3), (4, .int v4), (5, va_rf v5), (6, .int v6), (7, .int v7)] rfl (Nat.le_of_ble_eq_true rfl) rfl rfl ?_
      exact g_sub (Sc rfl (Sc rfl (Sc rfl (Sc rfl (Sc rfl (Sc rfl (Sc rfl (Sc rfl (Sc rfl (Sc rfl (Sn _))))))))))) (F_127_151 d v1 v2 v3 v4 v5 hv5 v6 v7 7 none (fun z hz => by cases hz) h)
    · rw [ho18] at h
      dsimp only at h
      refine g_ifnonnull 151 rfl rfl ?_
      exact g_sub (Sc rfl (Sc rfl (Sc rfl (Sc rfl (Sc rfl (Sc rfl (Sc rfl (Sc rfl (Sc rfl (Sc rfl (Sn _))))))))))) (F_127_151 d v1 v2 v3 v4 v5 hv5 v6 v7 v8 (some o18) (fun z hz => by cases hz; exact ((fun z hz => tagU_96 2 s_2 U z hz) o18 ho18)) h)
def f_127_124 (v1 : Int32) (v2 : Int32) (v3 : Int32) (v4 : Int32) (v5 : Option Nat) (v6 : Int32) (v7 : Int32) (U : sU) : Option (Int32 × sU) :=
  f_127_128 v1 v2 v3 v4 v5 v6 v7 6 U
set_option maxRecDepth 10000 in
set_option maxHeartbeats 2000000 in
theorem F_127_124 (d : Nat)   (v1 : Int32) (v2 : Int32) (v3 : Int32) (v4 : Int32) (v5 : Option Nat) (hv5 : ∀ z, v5 = some z → sh z = 8) (v6 : Int32) (v7 : Int32) {U : sU} {r : Int32} {U' : sU} (h : f_127_124 v1 v2 v3 v4 v5 v6 v7 U = some (r, U')) : G (d + 4) sm_I127 124 [(0, .ref 0), (1, .int v1), (2, .int v2), (3, .int v3), (4, .int v4), (5, va_rf v5), (6, .int v6), (7, .int v7)] [] U (some (.int r)) U' := by
  first | rw [f_127_124] at h | rw [f_127_124.eq_def] at h
  refine g_bipush (v := 6) 126 rfl (by decide) rfl ?_
  refine g_istore 128 [(8, .int 6), (0, .ref 0), (1, .int v1), (2, .int v2), (3, .int v3), (4, .int v4), (5, va_rf v5), (6, .int v6), (7, .int v7)] rfl (Nat.le_of_ble_eq_true rfl) rfl rfl ?_
  exact g_sub (Sc rfl (Sc rfl (Sc rfl (Sc rfl (Sc rfl (Sc rfl (Sc rfl (Sc rfl (Sc rfl (Sn _)))))))))) (F_127_128 d v1 v2 v3 v4 v5 hv5 v6 v7 6 h)
def f_127_100 (v1 : Int32) (v2 : Int32) (v3 : Int32) (v4 : Int32) (v5 : Option Nat) (v6 : Int32) (v7 : Int32) (z0 : Int32) (U : sU) : Option (Int32 × sU) :=
  if z0 = 0 then
    if v2 = 2 then
      if v4 < 0 then
        f_127_124 v1 v2 v3 v4 v5 v6 v7 U
      else
        if v4 ≤ 100 then
          f_127_128 v1 v2 v3 v4 v5 v6 v7 z0 U
        else
          f_127_124 v1 v2 v3 v4 v5 v6 v7 U
    else
      f_127_128 v1 v2 v3 v4 v5 v6 v7 z0 U
  else
    f_127_128 v1 v2 v3 v4 v5 v6 v7 z0 U
set_option maxRecDepth 10000 in
set_option maxHeartbeats 2000000 in
theorem F_127_100 (d : Nat)   (v1 : Int32) (v2 : Int32) (v3 : Int32) (v4 : Int32) (v5 : Option Nat) (hv5 : ∀ z, v5 = some z → sh z = 8) (v6 : Int32) (v7 : Int32) (z0 : Int32) {U : sU} {r : Int32} {U' : sU} (h : f_127_100 v1 v2 v3 v4 v5 v6 v7 z0 U = some (r, U')) : G (d + 4) sm_I127 100 [(0, .ref 0), (1, .int v1), (2, .int v2), (3, .int v3), (4, .int v4), (5, va_rf v5), (6, .int v6), (7, .int v7)] [.int z0] U (some (.int r)) U' := by
  first | rw [f_127_100] at h | rw [f_127_100.eq_def] at h
  refine g_istore 102 [(8, .int z0), (0, .ref 0), (1, .int v1), (2, .int v2), (3, .int v3), (4, .int v4), (5, va_rf v5), (6, .int v6), (7, .int v7)] rfl (Nat.le_of_ble_eq_true rfl) rfl rfl ?_
  refine g_iload 104 rfl rfl rfl ?_
  refine g_if_ne 128 107 rfl rfl (fun c19 => ?_) (fun c19 => ?_)
  · rw [if_neg c19] at h
    exact g_sub (Sc rfl (Sc rfl (Sc rfl (Sc rfl (Sc rfl (Sc rfl (Sc rfl (Sc rfl (Sc rfl (Sn _)))))))))) (F_127_128 d v1 v2 v3 v4 v5 hv5 v6 v7 z0 h)
  · rw [if_pos c19] at h
    refine g_iload_n 108 rfl rfl rfl ?_
    refine g_iconst (v := 2) 109 rfl rfl rfl ?_
    refine g_icmp_ne 128 112 rfl rfl (fun c20 => ?_) (fun c20 => ?_)
    · rw [if_neg c20] at h
      exact g_sub (Sc rfl (Sc rfl (Sc rfl (Sc rfl (Sc rfl (Sc rfl (Sc rfl (Sc rfl (Sc rfl (Sn _)))))))))) (F_127_128 d v1 v2 v3 v4 v5 hv5 v6 v7 z0 h)
    · rw [if_pos c20] at h
      refine g_iload 114 rfl rfl rfl ?_
      refine g_if_lt 124 117 rfl rfl (fun c21 => ?_) (fun c21 => ?_)
      · rw [if_pos c21] at h
        exact g_sub (Sc rfl (Sc rfl (Sc rfl (Sc rfl (Sc rfl (Sc rfl (Sc rfl (Sc rfl (Sn _))))))))) (F_127_124 d v1 v2 v3 v4 v5 hv5 v6 v7 h)
      · rw [if_neg c21] at h
        refine g_iload 119 rfl rfl rfl ?_
        refine g_bipush (v := 100) 121 rfl (by decide) rfl ?_
        refine g_icmp_le 128 124 rfl rfl (fun c22 => ?_) (fun c22 => ?_)
        · rw [if_pos c22] at h
          exact g_sub (Sc rfl (Sc rfl (Sc rfl (Sc rfl (Sc rfl (Sc rfl (Sc rfl (Sc rfl (Sc rfl (Sn _)))))))))) (F_127_128 d v1 v2 v3 v4 v5 hv5 v6 v7 z0 h)
        · rw [if_neg c22] at h
          exact g_sub (Sc rfl (Sc rfl (Sc rfl (Sc rfl (Sc rfl (Sc rfl (Sc rfl (Sc rfl (Sn _))))))))) (F_127_124 d v1 v2 v3 v4 v5 hv5 v6 v7 h)
def f_127_75 (v1 : Int32) (v2 : Int32) (v3 : Int32) (v4 : Int32) (v5 : Option Nat) (v6 : Int32) (z0 : Int32) (U : sU) : Option (Int32 × sU) :=
  if v6 = 0 then
    match v5 with
    | none => none
    | some o24 =>
      f_127_100 v1 v2 v3 v4 (some o24) v6 z0 (f_163 o24 z0 U) U
  else
    match v5 with
    | none => none
    | some o25 =>
      Option.bind (f_162 o25 v3 U) fun q26 =>
      f_127_100 v1 v2 v3 v4 (some o25) v6 z0 q26 U
set_option maxRecDepth 10000 in
set_option maxHeartbeats 2000000 in
theorem F_127_75 (d : Nat)   (v1 : Int32) (v2 : Int32) (v3 : Int32) (v4 : Int32) (v5 : Option Nat) (hv5 : ∀ z, v5 = some z → sh z = 8) (v6 : Int32) (z0 : Int32) {U : sU} {r : Int32} {U' : sU} (h : f_127_75 v1 v2 v3 v4 v5 v6 z0 U = some (r, U')) : G (d + 4) sm_I127 75 [(0, .ref 0), (1, .int v1), (2, .int v2), (3, .int v3), (4, .int v4), (5, va_rf v5), (6, .int v6)] [.int z0] U (some (.int r)) U' := by
  first | rw [f_127_75] at h | rw [f_127_75.eq_def] at h
  refine g_istore 77 [(7, .int z0), (0, .ref 0), (1, .int v1), (2, .int v2), (3, .int v3), (4, .int v4), (5, va_rf v5), (6, .int v6)] rfl (Nat.le_of_ble_eq_true rfl) rfl rfl ?_
  refine g_iload 79 rfl rfl rfl ?_
  refine g_if_eq 92 82 rfl rfl (fun c23 => ?_) (fun c23 => ?_)
  · rw [if_pos c23] at h
    refine g_aload_n 93 rfl rfl rfl ?_
    refine g_aloadq (x := v5) 95 rfl rfl rfl ?_
    refine g_iload 97 rfl rfl rfl ?_
    rcases ho24 : v5 with _ | o24
    · rw [ho24] at h; cases h
    rw [ho24] at h
    dsimp only at h
    refine g_callV (J := sm_I163) 100 rfl (Nat.le_of_ble_eq_true rfl) rfl rfl (Nat.le_of_ble_eq_true rfl) s_0 (Nat.le_of_ble_eq_true rfl) (Nat.le_of_ble_eq_true rfl) rfl rfl (F_163 (d + 1) o24 (hv5 o24 ho24) z0 U) ?_
    exact g_sub (Sc rfl (Sc rfl (Sc rfl (Sc rfl (Sc rfl (Sc rfl (Sc rfl (Sc rfl (Sn _))))))))) (F_127_100 d v1 v2 v3 v4 (some o24) (fun z hz => by cases hz; exact (hv5 o24 ho24)) v6 z0 (f_163 o24 z0 U) h)
  · rw [if_neg c23] at h
    refine g_aload_n 83 rfl rfl rfl ?_
    refine g_aloadq (x := v5) 85 rfl rfl rfl ?_
    refine g_iload_n 86 rfl rfl rfl ?_
    rcases ho25 : v5 with _ | o25
    · rw [ho25] at h; cases h
    rw [ho25] at h
    dsimp only at h
    obtain ⟨q26, hq26, h⟩ := Option.bind_eq_some_iff.mp h
    refine g_callV (J := sm_I162) 89 rfl (Nat.le_of_ble_eq_true rfl) rfl rfl (Nat.le_of_ble_eq_true rfl) s_0 (Nat.le_of_ble_eq_true rfl) (Nat.le_of_ble_eq_true rfl) rfl rfl (F_162 d o25 (hv5 o25 ho25) v3 hq26) ?_
    refine g_goto 100 rfl ?_
    exact g_sub (Sc rfl (Sc rfl (Sc rfl (Sc rfl (Sc rfl (Sc rfl (Sc rfl (Sc rfl (Sn _))))))))) (F_127_100 d v1 v2 v3 v4 (some o25) (fun z hz => by cases hz; exact (hv5 o25 ho25)) v6 z0 q26 h)
def f_127_47 (v1 : Int32) (v2 : Int32) (v3 : Int32) (v4 : Int32) (v5 : Option Nat) (z0 : Int32) (U : sU) : Option (Int32 × sU) :=
  if v2 = 1 then
    f_127_75 v1 v2 v3 v4 v5 z0 v4 U
  else
    if v2 = 4 then
      match v5 with
      | none => none
      | some o29 =>
        f_127_75 v1 v2 v3 v4 (some o29) z0 ((f_103 o29 U) - 1) U
    else
      f_127_75 v1 v2 v3 v4 v5 z0 0 U
set_option maxRecDepth 10000 in
set_option maxHeartbeats 2000000 in
theorem F_127_47 (d : Nat)   (v1 : Int32) (v2 : Int32) (v3 : Int32) (v4 : Int32) (v5 : Option Nat) (hv5 : ∀ z, v5 = some z → sh z = 8) (z0 : Int32) {U : sU} {r : Int32} {U' : sU} (h : f_127_47 v1 v2 v3 v4 v5 z0 U = some (r, U')) : G (d + 4) sm_I127 47 [(0, .ref 0), (1, .int v1), (2, .int v2), (3, .int v3), (4, .int v4), (5, va_rf v5)] [.int z0] U (some (.int r)) U' := by
  first | rw [f_127_47] at h | rw [f_127_47.eq_def] at h
  refine g_istore 49 [(6, .int z0), (0, .ref 0), (1, .int v1), (2, .int v2), (3, .int v3), (4, .int v4), (5, va_rf v5)] rfl (Nat.le_of_ble_eq_true rfl) (by generalize v5 = y; cases y <;> rfl) rfl ?_
  refine g_iload_n 50 rfl rfl rfl ?_
  refine g_iconst (v := 1) 51 rfl rfl rfl ?_
  refine g_icmp_ne 59 54 rfl rfl (fun c27 => ?_) (fun c27 => ?_)
  · rw [if_neg c27] at h
    refine g_iload_n 60 rfl rfl rfl ?_
    refine g_iconst (v := 4) 61 rfl rfl rfl ?_
    refine g_icmp_ne 74 64 rfl rfl (fun c28 => ?_) (fun c28 => ?_)
    · rw [if_neg c28] at h
      refine g_iconst (v := 0) 75 rfl rfl rfl ?_
      exact g_sub (Sc rfl (Sc rfl (Sc rfl (Sc rfl (Sc rfl (Sc rfl (Sc rfl (Sn _)))))))) (F_127_75 d v1 v2 v3 v4 v5 hv5 z0 0 h)
    · rw [if_pos c28] at h
      refine g_aloadq (x := v5) 66 rfl rfl rfl ?_
      rcases ho29 : v5 with _ | o29
      · rw [ho29] at h; cases h
      rw [ho29] at h
      dsimp only at h
      refine g_callV (J := sm_I103) 69 rfl (Nat.le_of_ble_eq_true rfl) rfl rfl (Nat.le_of_ble_eq_true rfl) (hv5 o29 ho29) (Nat.le_of_ble_eq_true rfl) (Nat.le_of_ble_eq_true rfl) rfl rfl (F_103 (d + 3) o29 (hv5 o29 ho29) U) ?_
      refine g_iconst (v := 1) 70 rfl rfl rfl ?_
      refine g_isub 71 rfl rfl ?_
      refine g_goto 75 rfl ?_
      exact g_sub (Sc rfl (Sc rfl (Sc rfl (Sc rfl (Sc rfl (Sc rfl (Sc rfl (Sn _)))))))) (F_127_75 d v1 v2 v3 v4 (some o29) (fun z hz => by cases hz; exact (hv5 o29 ho29)) z0 ((f_103 o29 U) - 1) h)
  · rw [if_pos c27] at h
    refine g_iload 56 rfl rfl rfl ?_
    refine g_goto 75 rfl ?_
    exact g_sub (Sc rfl (Sc rfl (Sc rfl (Sc rfl (Sc rfl (Sc rfl (Sc rfl (Sn _)))))))) (F_127_75 d v1 v2 v3 v4 v5 hv5 z0 v4 h)
def f_127_42 (v1 : Int32) (v2 : Int32) (v3 : Int32) (v4 : Int32) (v5 : Option Nat) (U : sU) : Option (Int32 × sU) :=
  f_127_47 v1 v2 v3 v4 v5 1 U
set_option maxRecDepth 10000 in
set_option maxHeartbeats 2000000 in
theorem F_127_42 (d : Nat)   (v1 : Int32) (v2 : Int32) (v3 : Int32) (v4 : Int32) (v5 : Option Nat) (hv5 : ∀ z, v5 = some z → sh z = 8) {U : sU} {r : Int32} {U' : sU} (h : f_127_42 v1 v2 v3 v4 v5 U = some (r, U')) : G (d + 4) sm_I127 42 [(0, .ref 0), (1, .int v1), (2, .int v2), (3, .int v3), (4, .int v4), (5, va_rf v5)] [] U (some (.int r)) U' := by
  first | rw [f_127_42] at h | rw [f_127_42.eq_def] at h
  refine g_iconst (v := 1) 43 rfl rfl rfl ?_
  refine g_goto 47 rfl ?_
  exact g_sub (Sc rfl (Sc rfl (Sc rfl (Sc rfl (Sc rfl (Sc rfl (Sn _))))))) (F_127_47 d v1 v2 v3 v4 v5 hv5 1 h)
def f_127 (x1 : Int32) (x2 : Int32) (x3 : Int32) (x4 : Int32) (U : sU) : Option (Int32 × sU) :=
  match tat 2 x1 U with
  | none =>
    match f_157 1 U with
    | (q31, W32) =>
    some (q31, W32)
  | some o30 =>
    if (f_166 x2 U) = 0 then
      match f_157 1 U with
      | (q38, W39) =>
      some (q38, W39)
    else
      if x2 = 0 then
        f_127_42 x1 x2 x3 x4 (some o30) U
      else
        if x2 = 2 then
          f_127_42 x1 x2 x3 x4 (some o30) U
        else
          if x2 = 5 then
            f_127_42 x1 x2 x3 x4 (some o30) U
          else
            f_127_47 x1 x2 x3 x4 (some o30) 0 U
set_option maxRecDepth 10000 in
set_option maxHeartbeats 2000000 in
theorem F_127 (d : Nat) (x1 : Int32) (x2 : Int32) (x3 : Int32) (x4 : Int32) {U : sU} {r : Int32} {U' : sU} (h : f_127 x1 x2 x3 x4 U = some (r, U')) : Rn (d + 4) sm_I127 [.ref 0, .int x1, .int x2, .int x3, .int x4] U (some (.int r)) U' := by
  refine Rn_of [(0, .ref 0), (1, .int x1), (2, .int x2), (3, .int x3), (4, .int x4)] (Nat.le_of_ble_eq_true rfl) (Sc rfl (Sc rfl (Sc rfl (Sc rfl (Sc rfl (Sn _)))))) ?_
  first | rw [f_127] at h | rw [f_127.eq_def] at h
  refine g_aload_n 1 rfl rfl rfl ?_
  refine g_get 4 rfl s_0 (Nat.le_of_ble_eq_true rfl) rfl rfl ?_
  refine g_iload_n 5 rfl rfl rfl ?_
  refine g_callV (J := sm_I93) 8 rfl (Nat.le_of_ble_eq_true rfl) rfl rfl (Nat.le_of_ble_eq_true rfl) s_2 (Nat.le_of_ble_eq_true rfl) (Nat.le_of_ble_eq_true rfl) rfl rfl (U_93 (d + 3) 2 s_2 x1 U) ?_
  refine g_astoreq (x := tat 2 x1 U) 10 [(5, va_rf (tat 2 x1 U)), (0, .ref 0), (1, .int x1), (2, .int x2), (3, .int x3), (4, .int x4)] rfl (Nat.le_of_ble_eq_true rfl) rfl rfl ?_
  refine g_aloadq (x := tat 2 x1 U) 12 rfl rfl rfl ?_
  rcases ho30 : tat 2 x1 U with _ | o30
  · rw [ho30] at h
    dsimp only at h
    refine g_ifnullN 22 rfl rfl ?_
    refine g_aload_n 23 rfl rfl rfl ?_
    refine g_iconst (v := 1) 24 rfl rfl rfl ?_
    have tq31 := F_157 (d + 2) 1 U
    rcases hq31 : f_157 1 U with ⟨q31, W32⟩
    rw [hq31] at h tq31
    dsimp only at h tq31
    refine g_callV (J := sm_I157) 27 rfl (Nat.le_of_ble_eq_true rfl) rfl rfl (Nat.le_of_ble_eq_true rfl) s_0 (Nat.le_of_ble_eq_true rfl) (Nat.le_of_ble_eq_true rfl) rfl rfl tq31 ?_
    cases h
    exact g_iret rfl rfl
  · rw [ho30] at h
    dsimp only at h
    refine g_ifnull 15 rfl rfl ?_
    refine g_iload_n 16 rfl rfl rfl ?_
    have r33 := F_166 (d + 3) x2 U
    refine g_callS (J := sm_I166) 19 rfl (by decide) rfl rfl (Nat.le_of_ble_eq_true rfl) (Nat.le_of_ble_eq_true rfl) rfl rfl r33 ?_
    refine g_if_ne 28 22 rfl rfl (fun c34 => ?_) (fun c34 => ?_)
    · rw [if_neg c34] at h
      refine g_iload_n 29 rfl rfl rfl ?_
      refine g_if_eq 42 32 rfl rfl (fun c35 => ?_) (fun c35 => ?_)
      · rw [if_pos c35] at h
        exact g_sub (Sc rfl (Sc rfl (Sc rfl (Sc rfl (Sc rfl (Sc rfl (Sn _))))))) (F_127_42 d x1 x2 x3 x4 (some o30) (fun z hz => by cases hz; exact ((fun z hz => tagU_93 2 s_2 x1 U z hz) o30 ho30)) h)
      · rw [if_neg c35] at h
        refine g_iload_n 33 rfl rfl rfl ?_
        refine g_iconst (v := 2) 34 rfl rfl rfl ?_
        refine g_icmp_eq 42 37 rfl rfl (fun c36 => ?_) (fun c36 => ?_)
        · rw [if_pos c36] at h
          exact g_sub (Sc rfl (Sc rfl (Sc rfl (Sc rfl (Sc rfl (Sc rfl (Sn _))))))) (F_127_42 d x1 x2 x3 x4 (some o30) (fun z hz => by cases hz; exact ((fun z hz => tagU_93 2 s_2 x1 U z hz) o30 ho30)) h)
        · rw [if_neg c36] at h
          refine g_iload_n 38 rfl rfl rfl ?_
          refine g_iconst (v := 5) 39 rfl rfl rfl ?_
          refine g_icmp_ne 46 42 rfl rfl (fun c37 => ?_) (fun c37 => ?_)
          · rw [if_neg c37] at h
            refine g_iconst (v := 0) 47 rfl rfl rfl ?_
            exact g_sub (Sc rfl (Sc rfl (Sc rfl (Sc rfl (Sc rfl (Sc rfl (Sn _))))))) (F_127_47 d x1 x2 x3 x4 (some o30) (fun z hz => by cases hz; exact ((fun z hz => tagU_93 2 s_2 x1 U z hz) o30 ho30)) 0 h)
          · rw [if_pos c37] at h
            exact g_sub (Sc rfl (Sc rfl (Sc rfl (Sc rfl (Sc rfl (Sc rfl (Sn _))))))) (F_127_42 d x1 x2 x3 x4 (some o30) (fun z hz => by cases hz; exact ((fun z hz => tagU_93 2 s_2 x1 U z hz) o30 ho30)) h)
    · rw [if_pos c34] at h
      refine g_aload_n 23 rfl rfl rfl ?_
      refine g_iconst (v := 1) 24 rfl rfl rfl ?_
      have tq38 := F_157 (d + 2) 1 U
      rcases hq38 : f_157 1 U with ⟨q38, W39⟩
      rw [hq38] at h tq38
      dsimp only at h tq38
      refine g_callV (J := sm_I157) 27 rfl (Nat.le_of_ble_eq_true rfl) rfl rfl (Nat.le_of_ble_eq_true rfl) s_0 (Nat.le_of_ble_eq_true rfl) (Nat.le_of_ble_eq_true rfl) rfl rfl tq38 ?_
      cases h
      exact g_iret rfl rfl
