/-! methods turned -/
def f_261 (x1 : Int32) (U : sU) : Int32 :=
  if 0 ≤ x1 then
    if x1 ≤ 999 then
      x1
    else
      999
  else
    0
set_option maxRecDepth 10000 in
set_option maxHeartbeats 2000000 in
theorem F_261 (d : Nat) (x1 : Int32) (U : sU) : Rn (d + 0) sm_I261 [.ref 280, .int x1] U (some (.int (f_261 x1 U))) U := by
  refine Rn_of [(0, .ref 280), (1, .int x1)] (Nat.le_of_ble_eq_true rfl) (Sc rfl (Sc rfl (Sn _))) ?_
  generalize h : f_261 x1 U = r
  first | rw [f_261] at h | rw [f_261.eq_def] at h
  refine g_iload_n 1 rfl rfl rfl ?_
  refine g_if_ge 8 4 rfl rfl (fun c1 => ?_) (fun c1 => ?_)
  · rw [if_pos c1] at h
    refine g_iload_n 9 rfl rfl rfl ?_
    refine g_sipush (v := 999) 12 rfl (by decide) rfl ?_
    refine g_icmp_le 21 15 rfl rfl (fun c2 => ?_) (fun c2 => ?_)
    · rw [if_pos c2] at h
      refine g_iload_n 22 rfl rfl rfl ?_
      subst h
      exact g_iret rfl rfl
    · rw [if_neg c2] at h
      refine g_sipush (v := 999) 18 rfl (by decide) rfl ?_
      refine g_goto 22 rfl ?_
      subst h
      exact g_iret rfl rfl
  · rw [if_neg c1] at h
    refine g_iconst (v := 0) 5 rfl rfl rfl ?_
    refine g_goto 22 rfl ?_
    subst h
    exact g_iret rfl rfl

def f_262 (x1 : Int32) (x2 : Int32) (U : sU) : Option Int32 :=
  if ib x1 8 then
  if (U.1 288 x1.toNatClampNeg) ≤ x2 then
    if ib (((12 * x1) + x2) - (U.1 288 x1.toNatClampNeg)) 96 then
    if ib x1 8 then
    some (f_261 ((U.1 296 (((12 * x1) + x2) - (U.1 288 x1.toNatClampNeg)).toNatClampNeg) + (U.1 290 x1.toNatClampNeg)) U)
    else none
    else none
  else
    if ib ((12 * x1) + x2) 96 then
    if ib x1 8 then
    some (f_261 ((U.1 296 ((12 * x1) + x2).toNatClampNeg) + (U.1 289 x1.toNatClampNeg)) U)
    else none
    else none
  else none
set_option maxRecDepth 10000 in
set_option maxHeartbeats 2000000 in
theorem F_262 (d : Nat) (x1 : Int32) (x2 : Int32) {U : sU} {r : Int32} (h : f_262 x1 x2 U = some r) : Rn (d + 1) sm_I262 [.ref 280, .int x1, .int x2] U (some (.int r)) U := by
  refine Rn_of [(0, .ref 280), (1, .int x1), (2, .int x2)] (Nat.le_of_ble_eq_true rfl) (Sc rfl (Sc rfl (Sc rfl (Sn _)))) ?_
  first | rw [f_262] at h | rw [f_262.eq_def] at h
  refine g_aload_n 1 rfl rfl rfl ?_
  refine g_get 4 rfl s_280 (Nat.le_of_ble_eq_true rfl) rfl rfl ?_
  refine g_iload_n 5 rfl rfl rfl ?_
  by_cases i1 : ib x1 8
  case neg => rw [if_neg i1] at h; cases h
  rw [if_pos i1] at h
  refine g_iald 6 rfl s_288 l_288 i1 rfl ?_
  refine g_istore_n 7 [(3, .int (U.1 288 x1.toNatClampNeg)), (0, .ref 280), (1, .int x1), (2, .int x2)] rfl (Nat.le_of_ble_eq_true rfl) rfl rfl ?_
  refine g_iload_n 8 rfl rfl rfl ?_
  refine g_iload_n 9 rfl rfl rfl ?_
  refine g_icmp_ge 37 12 rfl rfl (fun c2 => ?_) (fun c2 => ?_)
  · rw [if_pos c2] at h
    refine g_aload_n 38 rfl rfl rfl ?_
    refine g_aload_n 39 rfl rfl rfl ?_
    refine g_get 42 rfl s_280 (Nat.le_of_ble_eq_true rfl) rfl rfl ?_
    refine g_bipush (v := 12) 44 rfl (by decide) rfl ?_
    refine g_iload_n 45 rfl rfl rfl ?_
    refine g_imul 46 rfl rfl ?_
    refine g_iload_n 47 rfl rfl rfl ?_
    refine g_iadd 48 rfl rfl ?_
    refine g_iload_n 49 rfl rfl rfl ?_
    refine g_isub 50 rfl rfl ?_
    by_cases i3 : ib (((12 * x1) + x2) - (U.1 288 x1.toNatClampNeg)) 96
    case neg => rw [if_neg i3] at h; cases h
    rw [if_pos i3] at h
    refine g_iald 51 rfl s_296 l_296 i3 rfl ?_
    refine g_aload_n 52 rfl rfl rfl ?_
    refine g_get 55 rfl s_280 (Nat.le_of_ble_eq_true rfl) rfl rfl ?_
    refine g_iload_n 56 rfl rfl rfl ?_
    by_cases i4 : ib x1 8
    case neg => rw [if_neg i4] at h; cases h
    rw [if_pos i4] at h
    refine g_iald 57 rfl s_290 l_290 i4 rfl ?_
    refine g_iadd 58 rfl rfl ?_
    refine g_callV (J := sm_I261) 61 rfl (Nat.le_of_ble_eq_true rfl) rfl rfl (Nat.le_of_ble_eq_true rfl) s_280 (Nat.le_of_ble_eq_true rfl) (Nat.le_of_ble_eq_true rfl) rfl rfl (F_261 d ((U.1 296 (((12 * x1) + x2) - (U.1 288 x1.toNatClampNeg)).toNatClampNeg) + (U.1 290 x1.toNatClampNeg)) U) ?_
    cases h
    exact g_iret rfl rfl
  · rw [if_neg c2] at h
    refine g_aload_n 13 rfl rfl rfl ?_
    refine g_aload_n 14 rfl rfl rfl ?_
    refine g_get 17 rfl s_280 (Nat.le_of_ble_eq_true rfl) rfl rfl ?_
    refine g_bipush (v := 12) 19 rfl (by decide) rfl ?_
    refine g_iload_n 20 rfl rfl rfl ?_
    refine g_imul 21 rfl rfl ?_
    refine g_iload_n 22 rfl rfl rfl ?_
    refine g_iadd 23 rfl rfl ?_
    by_cases i5 : ib ((12 * x1) + x2) 96
    case neg => rw [if_neg i5] at h; cases h
    rw [if_pos i5] at h
    refine g_iald 24 rfl s_296 l_296 i5 rfl ?_
    refine g_aload_n 25 rfl rfl rfl ?_
    refine g_get 28 rfl s_280 (Nat.le_of_ble_eq_true rfl) rfl rfl ?_
    refine g_iload_n 29 rfl rfl rfl ?_
    by_cases i6 : ib x1 8
    case neg => rw [if_neg i6] at h; cases h
    rw [if_pos i6] at h
    refine g_iald 30 rfl s_289 l_289 i6 rfl ?_
    refine g_iadd 31 rfl rfl ?_
    refine g_callV (J := sm_I261) 34 rfl (Nat.le_of_ble_eq_true rfl) rfl rfl (Nat.le_of_ble_eq_true rfl) s_280 (Nat.le_of_ble_eq_true rfl) (Nat.le_of_ble_eq_true rfl) rfl rfl (F_261 d ((U.1 296 ((12 * x1) + x2).toNatClampNeg) + (U.1 289 x1.toNatClampNeg)) U) ?_
    refine g_goto 61 rfl ?_
    cases h
    exact g_iret rfl rfl

def f_263_27 (k17 : Int32 → Int32 → Int64 → Int32 → Int32 → sU → Option Int32) : Nat → Int32 → Int32 → Int64 → Int32 → Int32 → Int32 → sU → Option Int32
  | 0, _, _, _, _, _, _, _ => none
  | n + 1, v1, v2, v3, v5, v6, v7, U =>
    if v5 ≤ v7 then
      k17 v1 v2 v3 v5 (v6 + 1) U
    else
      Option.bind (f_262 v1 v6 U) fun q2 =>
      Option.bind (f_262 v1 v7 U) fun q3 =>
      if q2 ≤ q3 then
        Option.bind (f_259 v1 q2 q3 U) fun q5 =>
        if v2 = ((-1)) then
          f_263_27 k17 n v1 ((1000 * q2) + q3) q5 v5 v6 (v7 + 1) U
        else
          if (lg_cmp q5 v3) < 0 then
            f_263_27 k17 n v1 ((1000 * q2) + q3) q5 v5 v6 (v7 + 1) U
          else
            if (lg_cmp q5 v3) = 0 then
              if v2 ≤ ((1000 * q2) + q3) then
                f_263_27 k17 n v1 v2 v3 v5 v6 (v7 + 1) U
              else
                f_263_27 k17 n v1 ((1000 * q2) + q3) q5 v5 v6 (v7 + 1) U
            else
              f_263_27 k17 n v1 v2 v3 v5 v6 (v7 + 1) U
      else
        f_263_27 k17 n v1 v2 v3 v5 v6 (v7 + 1) U
set_option maxRecDepth 10000 in
set_option maxHeartbeats 2000000 in
theorem F_263_27 (d : Nat) {k17 : Int32 → Int32 → Int64 → Int32 → Int32 → sU → Option Int32} (hk17 : ∀ (v1 : Int32) (v2 : Int32) (v3 : Int64) (v5 : Int32) (v6 : Int32) (U : sU) (r : Int32), k17 v1 v2 v3 v5 v6 U = some r → G (d + 2) sm_I263 17 [(0, .ref 280), (1, .int v1), (2, .int v2), (3, .long v3), (5, .int v5), (6, .int v6)] [] U (some (.int r)) U) : ∀ (n : Nat) (v1 : Int32) (v2 : Int32) (v3 : Int64) (v5 : Int32) (v6 : Int32) (v7 : Int32) (U : sU) (r : Int32), f_263_27 k17 n v1 v2 v3 v5 v6 v7 U = some r → G (d + 2) sm_I263 27 [(0, .ref 280), (1, .int v1), (2, .int v2), (3, .long v3), (5, .int v5), (6, .int v6), (7, .int v7)] [] U (some (.int r)) U := by
  intro n
  induction n with
  | zero => intro v1 v2 v3 v5 v6 v7 U r h; cases h
  | succ n ih =>
    intro v1 v2 v3 v5 v6 v7 U r h
    first | rw [f_263_27] at h | (rw [f_263_27.eq_def] at h; dsimp only at h)
    refine g_iload 29 rfl rfl rfl ?_
    refine g_iload 31 rfl rfl rfl ?_
    refine g_icmp_ge 124 34 rfl rfl (fun c1 => ?_) (fun c1 => ?_)
    · rw [if_pos c1] at h
      refine g_iinc (v := v6 + 1) 127 [(6, .int (v6 + 1)), (0, .ref 280), (1, .int v1), (2, .int v2), (3, .long v3), (5, .int v5), (7, .int v7)] rfl rfl (Nat.le_of_ble_eq_true rfl) rfl rfl rfl ?_
      refine g_goto 17 rfl ?_
      exact g_sub (Sc rfl (Sc rfl (Sc rfl (Sc rfl (Sc rfl (Sc rfl (Sn _))))))) (hk17 v1 v2 v3 v5 (v6 + 1) _ _ h)
    · rw [if_neg c1] at h
      refine g_aload_n 35 rfl rfl rfl ?_
      refine g_iload_n 36 rfl rfl rfl ?_
      refine g_iload 38 rfl rfl rfl ?_
      obtain ⟨q2, hq2, h⟩ := Option.bind_eq_some_iff.mp h
      refine g_callV (J := sm_I262) 41 rfl (Nat.le_of_ble_eq_true rfl) rfl rfl (Nat.le_of_ble_eq_true rfl) s_280 (Nat.le_of_ble_eq_true rfl) (Nat.le_of_ble_eq_true rfl) rfl rfl (F_262 d v1 v6 hq2) ?_
      refine g_istore 43 [(8, .int q2), (0, .ref 280), (1, .int v1), (2, .int v2), (3, .long v3), (5, .int v5), (6, .int v6), (7, .int v7)] rfl (Nat.le_of_ble_eq_true rfl) rfl rfl ?_
      refine g_aload_n 44 rfl rfl rfl ?_
      refine g_iload_n 45 rfl rfl rfl ?_
      refine g_iload 47 rfl rfl rfl ?_
      obtain ⟨q3, hq3, h⟩ := Option.bind_eq_some_iff.mp h
      refine g_callV (J := sm_I262) 50 rfl (Nat.le_of_ble_eq_true rfl) rfl rfl (Nat.le_of_ble_eq_true rfl) s_280 (Nat.le_of_ble_eq_true rfl) (Nat.le_of_ble_eq_true rfl) rfl rfl (F_262 d v1 v7 hq3) ?_
      refine g_istore 52 [(9, .int q3), (8, .int q2), (0, .ref 280), (1, .int v1), (2, .int v2), (3, .long v3), (5, .int v5), (6, .int v6), (7, .int v7)] rfl (Nat.le_of_ble_eq_true rfl) rfl rfl ?_
      refine g_iload 54 rfl rfl rfl ?_
      refine g_iload 56 rfl rfl rfl ?_
      refine g_icmp_le 62 59 rfl rfl (fun c4 => ?_) (fun c4 => ?_)
      · rw [if_pos c4] at h
        refine g_aload_n 63 rfl rfl rfl ?_
        refine g_iload_n 64 rfl rfl rfl ?_
        refine g_iload 66 rfl rfl rfl ?_
        refine g_iload 68 rfl rfl rfl ?_
        obtain ⟨q5, hq5, h⟩ := Option.bind_eq_some_iff.mp h
        refine g_callV (J := sm_I259) 71 rfl (Nat.le_of_ble_eq_true rfl) rfl rfl (Nat.le_of_ble_eq_true rfl) s_280 (Nat.le_of_ble_eq_true rfl) (Nat.le_of_ble_eq_true rfl) rfl rfl (F_259 d v1 q2 q3 hq5) ?_
        refine g_lstore 73 [(10, .long q5), (9, .int q3), (8, .int q2), (0, .ref 280), (1, .int v1), (2, .int v2), (3, .long v3), (5, .int v5), (6, .int v6), (7, .int v7)] rfl (Nat.le_of_ble_eq_true rfl) rfl rfl ?_
        refine g_iload_n 74 rfl rfl rfl ?_
        refine g_iconst (v := (-1)) 75 rfl rfl rfl ?_
        refine g_icmp_eq 105 78 rfl rfl (fun c6 => ?_) (fun c6 => ?_)
        · rw [if_pos c6] at h
          refine g_lload 107 rfl rfl rfl ?_
          refine g_lstore_n 108 [(3, .long q5), (10, .long q5), (9, .int q3), (8, .int q2), (0, .ref 280), (1, .int v1), (2, .int v2), (5, .int v5), (6, .int v6), (7, .int v7)] rfl (Nat.le_of_ble_eq_true rfl) rfl rfl ?_
          refine g_sipush (v := 1000) 111 rfl (by decide) rfl ?_
          refine g_iload 113 rfl rfl rfl ?_
          refine g_imul 114 rfl rfl ?_
          refine g_iload 116 rfl rfl rfl ?_
          refine g_iadd 117 rfl rfl ?_
          refine g_istore_n 118 [(2, .int ((1000 * q2) + q3)), (3, .long q5), (10, .long q5), (9, .int q3), (8, .int q2), (0, .ref 280), (1, .int v1), (5, .int v5), (6, .int v6), (7, .int v7)] rfl (Nat.le_of_ble_eq_true rfl) rfl rfl ?_
          refine g_iinc (v := v7 + 1) 121 [(7, .int (v7 + 1)), (2, .int ((1000 * q2) + q3)), (3, .long q5), (10, .long q5), (9, .int q3), (8, .int q2), (0, .ref 280), (1, .int v1), (5, .int v5), (6, .int v6)] rfl rfl (Nat.le_of_ble_eq_true rfl) rfl rfl rfl ?_
          refine g_goto 27 rfl ?_
          exact g_sub (Sc rfl (Sc rfl (Sc rfl (Sc rfl (Sc rfl (Sc rfl (Sc rfl (Sn _)))))))) (ih v1 ((1000 * q2) + q3) q5 v5 v6 (v7 + 1) _ _ h)
        · rw [if_neg c6] at h
          refine g_lload 80 rfl rfl rfl ?_
          refine g_lload_n 81 rfl rfl rfl ?_
          refine g_lcmp 82 rfl rfl ?_
          refine g_if_lt 105 85 rfl rfl (fun c7 => ?_) (fun c7 => ?_)
          · rw [if_pos c7] at h
            refine g_lload 107 rfl rfl rfl ?_
            refine g_lstore_n 108 [(3, .long q5), (10, .long q5), (9, .int q3), (8, .int q2), (0, .ref 280), (1, .int v1), (2, .int v2), (5, .int v5), (6, .int v6), (7, .int v7)] rfl (Nat.le_of_ble_eq_true rfl) rfl rfl ?_
            refine g_sipush (v := 1000) 111 rfl (by decide) rfl ?_
            refine g_iload 113 rfl rfl rfl ?_
            refine g_imul 114 rfl rfl ?_
            refine g_iload 116 rfl rfl rfl ?_
            refine g_iadd 117 rfl rfl ?_
            refine g_istore_n 118 [(2, .int ((1000 * q2) + q3)), (3, .long q5), (10, .long q5), (9, .int q3), (8, .int q2), (0, .ref 280), (1, .int v1), (5, .int v5), (6, .int v6), (7, .int v7)] rfl (Nat.le_of_ble_eq_true rfl) rfl rfl ?_
            refine g_iinc (v := v7 + 1) 121 [(7, .int (v7 + 1)), (2, .int ((1000 * q2) + q3)), (3, .long q5), (10, .long q5), (9, .int q3), (8, .int q2), (0, .ref 280), (1, .int v1), (5, .int v5), (6, .int v6)] rfl rfl (Nat.le_of_ble_eq_true rfl) rfl rfl rfl ?_
            refine g_goto 27 rfl ?_
            exact g_sub (Sc rfl (Sc rfl (Sc rfl (Sc rfl (Sc rfl (Sc rfl (Sc rfl (Sn _)))))))) (ih v1 ((1000 * q2) + q3) q5 v5 v6 (v7 + 1) _ _ h)
          · rw [if_neg c7] at h
            refine g_lload 87 rfl rfl rfl ?_
            refine g_lload_n 88 rfl rfl rfl ?_
            refine g_lcmp 89 rfl rfl ?_
            refine g_if_ne 118 92 rfl rfl (fun c8 => ?_) (fun c8 => ?_)
            · rw [if_neg c8] at h
              refine g_iinc (v := v7 + 1) 121 [(7, .int (v7 + 1)), (10, .long q5), (9, .int q3), (8, .int q2), (0, .ref 280), (1, .int v1), (2, .int v2), (3, .long v3), (5, .int v5), (6, .int v6)] rfl rfl (Nat.le_of_ble_eq_true rfl) rfl rfl rfl ?_
              refine g_goto 27 rfl ?_
              exact g_sub (Sc rfl (Sc rfl (Sc rfl (Sc rfl (Sc rfl (Sc rfl (Sc rfl (Sn _)))))))) (ih v1 v2 v3 v5 v6 (v7 + 1) _ _ h)
            · rw [if_pos c8] at h
              refine g_sipush (v := 1000) 95 rfl (by decide) rfl ?_
              refine g_iload 97 rfl rfl rfl ?_
              refine g_imul 98 rfl rfl ?_
              refine g_iload 100 rfl rfl rfl ?_
              refine g_iadd 101 rfl rfl ?_
              refine g_iload_n 102 rfl rfl rfl ?_
              refine g_icmp_ge 118 105 rfl rfl (fun c9 => ?_) (fun c9 => ?_)
              · rw [if_pos c9] at h
                refine g_iinc (v := v7 + 1) 121 [(7, .int (v7 + 1)), (10, .long q5), (9, .int q3), (8, .int q2), (0, .ref 280), (1, .int v1), (2, .int v2), (3, .long v3), (5, .int v5), (6, .int v6)] rfl rfl (Nat.le_of_ble_eq_true rfl) rfl rfl rfl ?_
                refine g_goto 27 rfl ?_
                exact g_sub (Sc rfl (Sc rfl (Sc rfl (Sc rfl (Sc rfl (Sc rfl (Sc rfl (Sn _)))))))) (ih v1 v2 v3 v5 v6 (v7 + 1) _ _ h)
              · rw [if_neg c9] at h
                refine g_lload 107 rfl rfl rfl ?_
                refine g_lstore_n 108 [(3, .long q5), (10, .long q5), (9, .int q3), (8, .int q2), (0, .ref 280), (1, .int v1), (2, .int v2), (5, .int v5), (6, .int v6), (7, .int v7)] rfl (Nat.le_of_ble_eq_true rfl) rfl rfl ?_
                refine g_sipush (v := 1000) 111 rfl (by decide) rfl ?_
                refine g_iload 113 rfl rfl rfl ?_
                refine g_imul 114 rfl rfl ?_
                refine g_iload 116 rfl rfl rfl ?_
                refine g_iadd 117 rfl rfl ?_
                refine g_istore_n 118 [(2, .int ((1000 * q2) + q3)), (3, .long q5), (10, .long q5), (9, .int q3), (8, .int q2), (0, .ref 280), (1, .int v1), (5, .int v5), (6, .int v6), (7, .int v7)] rfl (Nat.le_of_ble_eq_true rfl) rfl rfl ?_
                refine g_iinc (v := v7 + 1) 121 [(7, .int (v7 + 1)), (2, .int ((1000 * q2) + q3)), (3, .long q5), (10, .long q5), (9, .int q3), (8, .int q2), (0, .ref 280), (1, .int v1), (5, .int v5), (6, .int v6)] rfl rfl (Nat.le_of_ble_eq_true rfl) rfl rfl rfl ?_
                refine g_goto 27 rfl ?_
                exact g_sub (Sc rfl (Sc rfl (Sc rfl (Sc rfl (Sc rfl (Sc rfl (Sc rfl (Sn _)))))))) (ih v1 ((1000 * q2) + q3) q5 v5 v6 (v7 + 1) _ _ h)
      · rw [if_neg c4] at h
        refine g_goto 118 rfl ?_
        refine g_iinc (v := v7 + 1) 121 [(7, .int (v7 + 1)), (9, .int q3), (8, .int q2), (0, .ref 280), (1, .int v1), (2, .int v2), (3, .long v3), (5, .int v5), (6, .int v6)] rfl rfl (Nat.le_of_ble_eq_true rfl) rfl rfl rfl ?_
        refine g_goto 27 rfl ?_
        exact g_sub (Sc rfl (Sc rfl (Sc rfl (Sc rfl (Sc rfl (Sc rfl (Sc rfl (Sn _)))))))) (ih v1 v2 v3 v5 v6 (v7 + 1) _ _ h)
def f_263_17 : Nat → Int32 → Int32 → Int64 → Int32 → Int32 → sU → Option Int32
  | 0, _, _, _, _, _, _ => none
  | n + 1, v1, v2, v3, v5, v6, U =>
    if v5 ≤ v6 then
      some v2
    else
      f_263_27 (fun v1 v2 v3 v5 v6 U => f_263_17 n v1 v2 v3 v5 v6 U) FU v1 v2 v3 v5 v6 0 U
set_option maxRecDepth 10000 in
set_option maxHeartbeats 2000000 in
theorem F_263_17 (d : Nat)   : ∀ (n : Nat) (v1 : Int32) (v2 : Int32) (v3 : Int64) (v5 : Int32) (v6 : Int32) (U : sU) (r : Int32), f_263_17 n v1 v2 v3 v5 v6 U = some r → G (d + 2) sm_I263 17 [(0, .ref 280), (1, .int v1), (2, .int v2), (3, .long v3), (5, .int v5), (6, .int v6)] [] U (some (.int r)) U := by
  intro n
  induction n with
  | zero => intro v1 v2 v3 v5 v6 U r h; cases h
  | succ n ih =>
    intro v1 v2 v3 v5 v6 U r h
    first | rw [f_263_17] at h | (rw [f_263_17.eq_def] at h; dsimp only at h)
    refine g_iload 19 rfl rfl rfl ?_
    refine g_iload 21 rfl rfl rfl ?_
    refine g_icmp_ge 130 24 rfl rfl (fun c10 => ?_) (fun c10 => ?_)
    · rw [if_pos c10] at h
      refine g_iload_n 131 rfl rfl rfl ?_
      cases h
      exact g_iret rfl rfl
    · rw [if_neg c10] at h
      refine g_iconst (v := 0) 25 rfl rfl rfl ?_
      refine g_istore 27 [(7, .int 0), (0, .ref 280), (1, .int v1), (2, .int v2), (3, .long v3), (5, .int v5), (6, .int v6)] rfl (Nat.le_of_ble_eq_true rfl) rfl rfl ?_
      exact g_sub (Sc rfl (Sc rfl (Sc rfl (Sc rfl (Sc rfl (Sc rfl (Sc rfl (Sn _)))))))) (F_263_27 d (fun v1 v2 v3 v5 v6 U r h => ih v1 v2 v3 v5 v6 U r h) _ v1 v2 v3 v5 v6 0 _ _ h)
def f_263 (x1 : Int32) (U : sU) : Option Int32 :=
  if ib x1 8 then
  f_263_17 FU x1 ((-1)) 0 (2 * (U.1 288 x1.toNatClampNeg)) 0 U
  else none
set_option maxRecDepth 10000 in
set_option maxHeartbeats 2000000 in
theorem F_263 (d : Nat) (x1 : Int32) {U : sU} {r : Int32} (h : f_263 x1 U = some r) : Rn (d + 2) sm_I263 [.ref 280, .int x1] U (some (.int r)) U := by
  refine Rn_of [(0, .ref 280), (1, .int x1)] (Nat.le_of_ble_eq_true rfl) (Sc rfl (Sc rfl (Sn _))) ?_
  first | rw [f_263] at h | rw [f_263.eq_def] at h
  refine g_iconst (v := (-1)) 1 rfl rfl rfl ?_
  refine g_istore_n 2 [(2, .int ((-1))), (0, .ref 280), (1, .int x1)] rfl (Nat.le_of_ble_eq_true rfl) rfl rfl ?_
  refine g_lconst (v := 0) 3 rfl rfl rfl ?_
  refine g_lstore_n 4 [(3, .long 0), (2, .int ((-1))), (0, .ref 280), (1, .int x1)] rfl (Nat.le_of_ble_eq_true rfl) rfl rfl ?_
  refine g_iconst (v := 2) 5 rfl rfl rfl ?_
  refine g_aload_n 6 rfl rfl rfl ?_
  refine g_get 9 rfl s_280 (Nat.le_of_ble_eq_true rfl) rfl rfl ?_
  refine g_iload_n 10 rfl rfl rfl ?_
  by_cases i11 : ib x1 8
  case neg => rw [if_neg i11] at h; cases h
  rw [if_pos i11] at h
  refine g_iald 11 rfl s_288 l_288 i11 rfl ?_
  refine g_imul 12 rfl rfl ?_
  refine g_istore 14 [(5, .int (2 * (U.1 288 x1.toNatClampNeg))), (3, .long 0), (2, .int ((-1))), (0, .ref 280), (1, .int x1)] rfl (Nat.le_of_ble_eq_true rfl) rfl rfl ?_
  refine g_iconst (v := 0) 15 rfl rfl rfl ?_
  refine g_istore 17 [(6, .int 0), (5, .int (2 * (U.1 288 x1.toNatClampNeg))), (3, .long 0), (2, .int ((-1))), (0, .ref 280), (1, .int x1)] rfl (Nat.le_of_ble_eq_true rfl) rfl rfl ?_
  exact g_sub (Sc rfl (Sc rfl (Sc rfl (Sc rfl (Sc rfl (Sc rfl (Sn _))))))) (F_263_17 d _ x1 ((-1)) 0 (2 * (U.1 288 x1.toNatClampNeg)) 0 _ _ h)

def f_264 (x1 : Int32) (U : sU) : Option (Int32 × sU) :=
  if (f_178 x1 U) = 0 then
    Option.bind (f_174 ((-1)) U) fun q3 =>
    some (q3.1, q3.2)
  else
    Option.bind (f_263 x1 U) fun q4 =>
    some (q4, U)
set_option maxRecDepth 10000 in
set_option maxHeartbeats 2000000 in
theorem F_264 (d : Nat) (x1 : Int32) {U : sU} {r : Int32} {U' : sU} (h : f_264 x1 U = some (r, U')) : Rn (d + 3) sm_I264 [.ref 280, .int x1] U (some (.int r)) U' := by
  refine Rn_of [(0, .ref 280), (1, .int x1)] (Nat.le_of_ble_eq_true rfl) (Sc rfl (Sc rfl (Sn _))) ?_
  first | rw [f_264] at h | rw [f_264.eq_def] at h
  refine g_aload_n 1 rfl rfl rfl ?_
  refine g_iload_n 2 rfl rfl rfl ?_
  have r1 := F_178 (d + 2) x1 U
  refine g_callV (J := sm_I178) 5 rfl (Nat.le_of_ble_eq_true rfl) rfl rfl (Nat.le_of_ble_eq_true rfl) s_280 (Nat.le_of_ble_eq_true rfl) (Nat.le_of_ble_eq_true rfl) rfl rfl r1 ?_
  refine g_if_eq 16 8 rfl rfl (fun c2 => ?_) (fun c2 => ?_)
  · rw [if_pos c2] at h
    refine g_aload_n 17 rfl rfl rfl ?_
    refine g_iconst (v := (-1)) 18 rfl rfl rfl ?_
    obtain ⟨q3, hq3, h⟩ := Option.bind_eq_some_iff.mp h
    refine g_callV (J := sm_I174) 21 rfl (Nat.le_of_ble_eq_true rfl) rfl rfl (Nat.le_of_ble_eq_true rfl) s_280 (Nat.le_of_ble_eq_true rfl) (Nat.le_of_ble_eq_true rfl) rfl rfl (F_174 (d + 2) ((-1)) hq3) ?_
    cases h
    exact g_iret rfl rfl
  · rw [if_neg c2] at h
    refine g_aload_n 9 rfl rfl rfl ?_
    refine g_iload_n 10 rfl rfl rfl ?_
    obtain ⟨q4, hq4, h⟩ := Option.bind_eq_some_iff.mp h
    refine g_callV (J := sm_I263) 13 rfl (Nat.le_of_ble_eq_true rfl) rfl rfl (Nat.le_of_ble_eq_true rfl) s_280 (Nat.le_of_ble_eq_true rfl) (Nat.le_of_ble_eq_true rfl) rfl rfl (F_263 d x1 hq4) ?_
    refine g_goto 21 rfl ?_
    cases h
    exact g_iret rfl rfl

def f_265 (x1 : Int32) (U : sU) : Option (Int32 × sU) :=
  if (f_178 x1 U) = 0 then
    Option.bind (f_174 ((-1)) U) fun q14 =>
    some (q14.1, q14.2)
  else
    Option.bind (f_263 x1 U) fun q3 =>
    Option.bind (f_259 x1 (q3 / 1000) (q3 - q3 / 1000 * 1000) U) fun q6 =>
    if ib x1 8 then
    Option.bind (f_247 x1 (U.1 290 x1.toNatClampNeg) U) fun q8 =>
    Option.bind (f_234 x1 q8.1 q8.2) fun q9 =>
    Option.bind (f_235 x1 q9) fun q10 =>
    if ib x1 8 then
    Option.bind (f_241 x1 (q10.1 290 x1.toNatClampNeg) q10) fun q12 =>
    if 0 ≤ (lg_cmp q6 q12) then
      some (0, q10)
    else
      some (1, q10)
    else none
    else none
set_option maxRecDepth 10000 in
set_option maxHeartbeats 2000000 in
theorem F_265 (d : Nat) (x1 : Int32) {U : sU} {r : Int32} {U' : sU} (h : f_265 x1 U = some (r, U')) : Rn (d + 5) sm_I265 [.ref 280, .int x1] U (some (.int r)) U' := by
  refine Rn_of [(0, .ref 280), (1, .int x1)] (Nat.le_of_ble_eq_true rfl) (Sc rfl (Sc rfl (Sn _))) ?_
  first | rw [f_265] at h | rw [f_265.eq_def] at h
  refine g_aload_n 1 rfl rfl rfl ?_
  refine g_iload_n 2 rfl rfl rfl ?_
  have r1 := F_178 (d + 4) x1 U
  refine g_callV (J := sm_I178) 5 rfl (Nat.le_of_ble_eq_true rfl) rfl rfl (Nat.le_of_ble_eq_true rfl) s_280 (Nat.le_of_ble_eq_true rfl) (Nat.le_of_ble_eq_true rfl) rfl rfl r1 ?_
  refine g_if_ne 14 8 rfl rfl (fun c2 => ?_) (fun c2 => ?_)
  · rw [if_neg c2] at h
    refine g_aload_n 15 rfl rfl rfl ?_
    refine g_iload_n 16 rfl rfl rfl ?_
    obtain ⟨q3, hq3, h⟩ := Option.bind_eq_some_iff.mp h
    refine g_callV (J := sm_I263) 19 rfl (Nat.le_of_ble_eq_true rfl) rfl rfl (Nat.le_of_ble_eq_true rfl) s_280 (Nat.le_of_ble_eq_true rfl) (Nat.le_of_ble_eq_true rfl) rfl rfl (F_263 (d + 2) x1 hq3) ?_
    refine g_istore_n 20 [(2, .int q3), (0, .ref 280), (1, .int x1)] rfl (Nat.le_of_ble_eq_true rfl) rfl rfl ?_
    refine g_aload_n 21 rfl rfl rfl ?_
    refine g_iload_n 22 rfl rfl rfl ?_
    refine g_iload_n 23 rfl rfl rfl ?_
    refine g_sipush (v := 1000) 26 rfl (by decide) rfl ?_
    refine g_idiv 27 rfl (by decide) rfl ?_
    refine g_iload_n 28 rfl rfl rfl ?_
    refine g_sipush (v := 1000) 31 rfl (by decide) rfl ?_
    refine g_irem 32 rfl (by decide) rfl ?_
    obtain ⟨q6, hq6, h⟩ := Option.bind_eq_some_iff.mp h
    refine g_callV (J := sm_I259) 35 rfl (Nat.le_of_ble_eq_true rfl) rfl rfl (Nat.le_of_ble_eq_true rfl) s_280 (Nat.le_of_ble_eq_true rfl) (Nat.le_of_ble_eq_true rfl) rfl rfl (F_259 (d + 3) x1 (q3 / 1000) (q3 - q3 / 1000 * 1000) hq6) ?_
    refine g_lstore_n 36 [(3, .long q6), (2, .int q3), (0, .ref 280), (1, .int x1)] rfl (Nat.le_of_ble_eq_true rfl) rfl rfl ?_
    refine g_aload_n 37 rfl rfl rfl ?_
    refine g_iload_n 38 rfl rfl rfl ?_
    refine g_aload_n 39 rfl rfl rfl ?_
    refine g_iload_n 40 rfl rfl rfl ?_
    refine g_aload_n 41 rfl rfl rfl ?_
    refine g_get 44 rfl s_280 (Nat.le_of_ble_eq_true rfl) rfl rfl ?_
    refine g_iload_n 45 rfl rfl rfl ?_
    by_cases i7 : ib x1 8
    case neg => rw [if_neg i7] at h; cases h
    rw [if_pos i7] at h
    refine g_iald 46 rfl s_290 l_290 i7 rfl ?_
    obtain ⟨q8, hq8, h⟩ := Option.bind_eq_some_iff.mp h
    refine g_callV (J := sm_I247) 49 rfl (Nat.le_of_ble_eq_true rfl) rfl rfl (Nat.le_of_ble_eq_true rfl) s_280 (Nat.le_of_ble_eq_true rfl) (Nat.le_of_ble_eq_true rfl) rfl rfl (F_247 d x1 (U.1 290 x1.toNatClampNeg) hq8) ?_
    obtain ⟨q9, hq9, h⟩ := Option.bind_eq_some_iff.mp h
    refine g_callV (J := sm_I234) 52 rfl (Nat.le_of_ble_eq_true rfl) rfl rfl (Nat.le_of_ble_eq_true rfl) s_280 (Nat.le_of_ble_eq_true rfl) (Nat.le_of_ble_eq_true rfl) rfl rfl (F_234 (d + 4) x1 q8.1 hq9) ?_
    refine g_aload_n 53 rfl rfl rfl ?_
    refine g_iload_n 54 rfl rfl rfl ?_
    obtain ⟨q10, hq10, h⟩ := Option.bind_eq_some_iff.mp h
    refine g_callV (J := sm_I235) 57 rfl (Nat.le_of_ble_eq_true rfl) rfl rfl (Nat.le_of_ble_eq_true rfl) s_280 (Nat.le_of_ble_eq_true rfl) (Nat.le_of_ble_eq_true rfl) rfl rfl (F_235 (d + 2) x1 hq10) ?_
    refine g_lload_n 58 rfl rfl rfl ?_
    refine g_aload_n 59 rfl rfl rfl ?_
    refine g_iload_n 60 rfl rfl rfl ?_
    refine g_aload_n 61 rfl rfl rfl ?_
    refine g_get 64 rfl s_280 (Nat.le_of_ble_eq_true rfl) rfl rfl ?_
    refine g_iload_n 65 rfl rfl rfl ?_
    by_cases i11 : ib x1 8
    case neg => rw [if_neg i11] at h; cases h
    rw [if_pos i11] at h
    refine g_iald 66 rfl s_290 l_290 i11 rfl ?_
    obtain ⟨q12, hq12, h⟩ := Option.bind_eq_some_iff.mp h
    refine g_callV (J := sm_I241) 69 rfl (Nat.le_of_ble_eq_true rfl) rfl rfl (Nat.le_of_ble_eq_true rfl) s_280 (Nat.le_of_ble_eq_true rfl) (Nat.le_of_ble_eq_true rfl) rfl rfl (F_241 (d + 3) x1 (q10.1 290 x1.toNatClampNeg) hq12) ?_
    refine g_lcmp 70 rfl rfl ?_
    refine g_if_ge 77 73 rfl rfl (fun c13 => ?_) (fun c13 => ?_)
    · rw [if_pos c13] at h
      refine g_iconst (v := 0) 78 rfl rfl rfl ?_
      cases h
      exact g_iret rfl rfl
    · rw [if_neg c13] at h
      refine g_iconst (v := 1) 74 rfl rfl rfl ?_
      refine g_goto 78 rfl ?_
      cases h
      exact g_iret rfl rfl
  · rw [if_pos c2] at h
    refine g_aload_n 9 rfl rfl rfl ?_
    refine g_iconst (v := (-1)) 10 rfl rfl rfl ?_
    obtain ⟨q14, hq14, h⟩ := Option.bind_eq_some_iff.mp h
    refine g_callV (J := sm_I174) 13 rfl (Nat.le_of_ble_eq_true rfl) rfl rfl (Nat.le_of_ble_eq_true rfl) s_280 (Nat.le_of_ble_eq_true rfl) (Nat.le_of_ble_eq_true rfl) rfl rfl (F_174 (d + 4) ((-1)) hq14) ?_
    cases h
    exact g_iret rfl rfl

def f_266_87 : Nat → Int32 → Int32 → Int32 → Int32 → Int64 → Int64 → Int32 → sU → Option Int32
  | 0, _, _, _, _, _, _, _, _ => none
  | n + 1, v1, v4, v5, v6, v7, v9, v11, U =>
    if 999 < v11 then
      some 0
    else
      if ib v1 8 then
      Option.bind (f_208 v1 (((v11 - v6) - (U.1 289 v1.toNatClampNeg)).toInt64) U) fun q3 =>
      if (lg_cmp q3 v7) < 0 then
        f_266_87 n v1 v4 v5 v6 v7 v9 (v11 + 1) U
      else
        Option.bind (f_208 v1 (((v11 - v5) - v4).toInt64) U) fun q5 =>
        if (lg_cmp q5 v9) < 0 then
          f_266_87 n v1 v4 v5 v6 v7 v9 (v11 + 1) U
        else
          some 1
      else none
set_option maxRecDepth 10000 in
set_option maxHeartbeats 2000000 in
theorem F_266_87 (d : Nat)   : ∀ (n : Nat) (v1 : Int32) (v4 : Int32) (v5 : Int32) (v6 : Int32) (v7 : Int64) (v9 : Int64) (v11 : Int32) (U : sU) (r : Int32), f_266_87 n v1 v4 v5 v6 v7 v9 v11 U = some r → G (d + 1) sm_I266 87 [(0, .ref 280), (1, .int v1), (4, .int v4), (5, .int v5), (6, .int v6), (7, .long v7), (9, .long v9), (11, .int v11)] [] U (some (.int r)) U := by
  intro n
  induction n with
  | zero => intro v1 v4 v5 v6 v7 v9 v11 U r h; cases h
  | succ n ih =>
    intro v1 v4 v5 v6 v7 v9 v11 U r h
    first | rw [f_266_87] at h | (rw [f_266_87.eq_def] at h; dsimp only at h)
    refine g_iload 89 rfl rfl rfl ?_
    refine g_sipush (v := 999) 92 rfl (by decide) rfl ?_
    refine g_icmp_gt 147 95 rfl rfl (fun c1 => ?_) (fun c1 => ?_)
    · rw [if_pos c1] at h
      refine g_iconst (v := 0) 148 rfl rfl rfl ?_
      cases h
      exact g_zret rfl rfl (Or.inl rfl)
    · rw [if_neg c1] at h
      refine g_aload_n 96 rfl rfl rfl ?_
      refine g_iload_n 97 rfl rfl rfl ?_
      refine g_iload 99 rfl rfl rfl ?_
      refine g_iload 101 rfl rfl rfl ?_
      refine g_isub 102 rfl rfl ?_
      refine g_aload_n 103 rfl rfl rfl ?_
      refine g_get 106 rfl s_280 (Nat.le_of_ble_eq_true rfl) rfl rfl ?_
      refine g_iload_n 107 rfl rfl rfl ?_
      by_cases i2 : ib v1 8
      case neg => rw [if_neg i2] at h; cases h
      rw [if_pos i2] at h
      refine g_iald 108 rfl s_289 l_289 i2 rfl ?_
      refine g_isub 109 rfl rfl ?_
      refine g_i2l 110 rfl rfl ?_
      obtain ⟨q3, hq3, h⟩ := Option.bind_eq_some_iff.mp h
      refine g_callV (J := sm_I208) 113 rfl (Nat.le_of_ble_eq_true rfl) rfl rfl (Nat.le_of_ble_eq_true rfl) s_280 (Nat.le_of_ble_eq_true rfl) (Nat.le_of_ble_eq_true rfl) rfl rfl (F_208 d v1 (((v11 - v6) - (U.1 289 v1.toNatClampNeg)).toInt64) hq3) ?_
      refine g_lload 115 rfl rfl rfl ?_
      refine g_lcmp 116 rfl rfl ?_
      refine g_if_lt 141 119 rfl rfl (fun c4 => ?_) (fun c4 => ?_)
      · rw [if_pos c4] at h
        refine g_iinc (v := v11 + 1) 144 [(11, .int (v11 + 1)), (0, .ref 280), (1, .int v1), (4, .int v4), (5, .int v5), (6, .int v6), (7, .long v7), (9, .long v9)] rfl rfl (Nat.le_of_ble_eq_true rfl) rfl rfl rfl ?_
        refine g_goto 87 rfl ?_
        exact g_sub (Sc rfl (Sc rfl (Sc rfl (Sc rfl (Sc rfl (Sc rfl (Sc rfl (Sc rfl (Sn _))))))))) (ih v1 v4 v5 v6 v7 v9 (v11 + 1) _ _ h)
      · rw [if_neg c4] at h
        refine g_aload_n 120 rfl rfl rfl ?_
        refine g_iload_n 121 rfl rfl rfl ?_
        refine g_iload 123 rfl rfl rfl ?_
        refine g_iload 125 rfl rfl rfl ?_
        refine g_isub 126 rfl rfl ?_
        refine g_iload 128 rfl rfl rfl ?_
        refine g_isub 129 rfl rfl ?_
        refine g_i2l 130 rfl rfl ?_
        obtain ⟨q5, hq5, h⟩ := Option.bind_eq_some_iff.mp h
        refine g_callV (J := sm_I208) 133 rfl (Nat.le_of_ble_eq_true rfl) rfl rfl (Nat.le_of_ble_eq_true rfl) s_280 (Nat.le_of_ble_eq_true rfl) (Nat.le_of_ble_eq_true rfl) rfl rfl (F_208 d v1 (((v11 - v5) - v4).toInt64) hq5) ?_
        refine g_lload 135 rfl rfl rfl ?_
        refine g_lcmp 136 rfl rfl ?_
        refine g_if_lt 141 139 rfl rfl (fun c6 => ?_) (fun c6 => ?_)
        · rw [if_pos c6] at h
          refine g_iinc (v := v11 + 1) 144 [(11, .int (v11 + 1)), (0, .ref 280), (1, .int v1), (4, .int v4), (5, .int v5), (6, .int v6), (7, .long v7), (9, .long v9)] rfl rfl (Nat.le_of_ble_eq_true rfl) rfl rfl rfl ?_
          refine g_goto 87 rfl ?_
          exact g_sub (Sc rfl (Sc rfl (Sc rfl (Sc rfl (Sc rfl (Sc rfl (Sc rfl (Sc rfl (Sn _))))))))) (ih v1 v4 v5 v6 v7 v9 (v11 + 1) _ _ h)
        · rw [if_neg c6] at h
          refine g_iconst (v := 1) 140 rfl rfl rfl ?_
          cases h
          exact g_zret rfl rfl (Or.inr rfl)
def f_266 (x1 : Int32) (x2 : Int32) (x3 : Int32) (x4 : Int32) (U : sU) : Option Int32 :=
  if ib ((12 * x1) + x2) 96 then
  if ib ((12 * x1) + x3) 96 then
  if ib x1 8 then
  if ib x1 8 then
  Option.bind (f_208 x1 ((((f_261 ((U.1 296 ((12 * x1) + x3).toNatClampNeg) + (U.1 290 x1.toNatClampNeg)) U) - (U.1 296 ((12 * x1) + x3).toNatClampNeg)) - (U.1 289 x1.toNatClampNeg)).toInt64) U) fun q11 =>
  if ib x1 8 then
  Option.bind (f_208 x1 ((((f_261 ((U.1 296 ((12 * x1) + x2).toNatClampNeg) + (U.1 290 x1.toNatClampNeg)) U) - (U.1 296 ((12 * x1) + x2).toNatClampNeg)) - x4).toInt64) U) fun q13 =>
  f_266_87 FU x1 x4 (U.1 296 ((12 * x1) + x2).toNatClampNeg) (U.1 296 ((12 * x1) + x3).toNatClampNeg) q11 q13 0 U
  else none
  else none
  else none
  else none
  else none
set_option maxRecDepth 10000 in
set_option maxHeartbeats 2000000 in
theorem F_266 (d : Nat) (x1 : Int32) (x2 : Int32) (x3 : Int32) (x4 : Int32) {U : sU} {r : Int32} (h : f_266 x1 x2 x3 x4 U = some r) : Rn (d + 1) sm_I266 [.ref 280, .int x1, .int x2, .int x3, .int x4] U (some (.int r)) U := by
  refine Rn_of [(0, .ref 280), (1, .int x1), (2, .int x2), (3, .int x3), (4, .int x4)] (Nat.le_of_ble_eq_true rfl) (Sc rfl (Sc rfl (Sc rfl (Sc rfl (Sc rfl (Sn _)))))) ?_
  first | rw [f_266] at h | rw [f_266.eq_def] at h
  refine g_aload_n 1 rfl rfl rfl ?_
  refine g_get 4 rfl s_280 (Nat.le_of_ble_eq_true rfl) rfl rfl ?_
  refine g_bipush (v := 12) 6 rfl (by decide) rfl ?_
  refine g_iload_n 7 rfl rfl rfl ?_
  refine g_imul 8 rfl rfl ?_
  refine g_iload_n 9 rfl rfl rfl ?_
  refine g_iadd 10 rfl rfl ?_
  by_cases i7 : ib ((12 * x1) + x2) 96
  case neg => rw [if_neg i7] at h; cases h
  rw [if_pos i7] at h
  refine g_iald 11 rfl s_296 l_296 i7 rfl ?_
  refine g_istore 13 [(5, .int (U.1 296 ((12 * x1) + x2).toNatClampNeg)), (0, .ref 280), (1, .int x1), (2, .int x2), (3, .int x3), (4, .int x4)] rfl (Nat.le_of_ble_eq_true rfl) rfl rfl ?_
  refine g_aload_n 14 rfl rfl rfl ?_
  refine g_get 17 rfl s_280 (Nat.le_of_ble_eq_true rfl) rfl rfl ?_
  refine g_bipush (v := 12) 19 rfl (by decide) rfl ?_
  refine g_iload_n 20 rfl rfl rfl ?_
  refine g_imul 21 rfl rfl ?_
  refine g_iload_n 22 rfl rfl rfl ?_
  refine g_iadd 23 rfl rfl ?_
  by_cases i8 : ib ((12 * x1) + x3) 96
  case neg => rw [if_neg i8] at h; cases h
  rw [if_pos i8] at h
  refine g_iald 24 rfl s_296 l_296 i8 rfl ?_
  refine g_istore 26 [(6, .int (U.1 296 ((12 * x1) + x3).toNatClampNeg)), (5, .int (U.1 296 ((12 * x1) + x2).toNatClampNeg)), (0, .ref 280), (1, .int x1), (2, .int x2), (3, .int x3), (4, .int x4)] rfl (Nat.le_of_ble_eq_true rfl) rfl rfl ?_
  refine g_aload_n 27 rfl rfl rfl ?_
  refine g_iload_n 28 rfl rfl rfl ?_
  refine g_aload_n 29 rfl rfl rfl ?_
  refine g_iload 31 rfl rfl rfl ?_
  refine g_aload_n 32 rfl rfl rfl ?_
  refine g_get 35 rfl s_280 (Nat.le_of_ble_eq_true rfl) rfl rfl ?_
  refine g_iload_n 36 rfl rfl rfl ?_
  by_cases i9 : ib x1 8
  case neg => rw [if_neg i9] at h; cases h
  rw [if_pos i9] at h
  refine g_iald 37 rfl s_290 l_290 i9 rfl ?_
  refine g_iadd 38 rfl rfl ?_
  refine g_callV (J := sm_I261) 41 rfl (Nat.le_of_ble_eq_true rfl) rfl rfl (Nat.le_of_ble_eq_true rfl) s_280 (Nat.le_of_ble_eq_true rfl) (Nat.le_of_ble_eq_true rfl) rfl rfl (F_261 d ((U.1 296 ((12 * x1) + x3).toNatClampNeg) + (U.1 290 x1.toNatClampNeg)) U) ?_
  refine g_iload 43 rfl rfl rfl ?_
  refine g_isub 44 rfl rfl ?_
  refine g_aload_n 45 rfl rfl rfl ?_
  refine g_get 48 rfl s_280 (Nat.le_of_ble_eq_true rfl) rfl rfl ?_
  refine g_iload_n 49 rfl rfl rfl ?_
  by_cases i10 : ib x1 8
  case neg => rw [if_neg i10] at h; cases h
  rw [if_pos i10] at h
  refine g_iald 50 rfl s_289 l_289 i10 rfl ?_
  refine g_isub 51 rfl rfl ?_
  refine g_i2l 52 rfl rfl ?_
  obtain ⟨q11, hq11, h⟩ := Option.bind_eq_some_iff.mp h
  refine g_callV (J := sm_I208) 55 rfl (Nat.le_of_ble_eq_true rfl) rfl rfl (Nat.le_of_ble_eq_true rfl) s_280 (Nat.le_of_ble_eq_true rfl) (Nat.le_of_ble_eq_true rfl) rfl rfl (F_208 d x1 ((((f_261 ((U.1 296 ((12 * x1) + x3).toNatClampNeg) + (U.1 290 x1.toNatClampNeg)) U) - (U.1 296 ((12 * x1) + x3).toNatClampNeg)) - (U.1 289 x1.toNatClampNeg)).toInt64) hq11) ?_
  refine g_lstore 57 [(7, .long q11), (6, .int (U.1 296 ((12 * x1) + x3).toNatClampNeg)), (5, .int (U.1 296 ((12 * x1) + x2).toNatClampNeg)), (0, .ref 280), (1, .int x1), (2, .int x2), (3, .int x3), (4, .int x4)] rfl (Nat.le_of_ble_eq_true rfl) rfl rfl ?_
  refine g_aload_n 58 rfl rfl rfl ?_
  refine g_iload_n 59 rfl rfl rfl ?_
  refine g_aload_n 60 rfl rfl rfl ?_
  refine g_iload 62 rfl rfl rfl ?_
  refine g_aload_n 63 rfl rfl rfl ?_
  refine g_get 66 rfl s_280 (Nat.le_of_ble_eq_true rfl) rfl rfl ?_
  refine g_iload_n 67 rfl rfl rfl ?_
  by_cases i12 : ib x1 8
  case neg => rw [if_neg i12] at h; cases h
  rw [if_pos i12] at h
  refine g_iald 68 rfl s_290 l_290 i12 rfl ?_
  refine g_iadd 69 rfl rfl ?_
  refine g_callV (J := sm_I261) 72 rfl (Nat.le_of_ble_eq_true rfl) rfl rfl (Nat.le_of_ble_eq_true rfl) s_280 (Nat.le_of_ble_eq_true rfl) (Nat.le_of_ble_eq_true rfl) rfl rfl (F_261 d ((U.1 296 ((12 * x1) + x2).toNatClampNeg) + (U.1 290 x1.toNatClampNeg)) U) ?_
  refine g_iload 74 rfl rfl rfl ?_
  refine g_isub 75 rfl rfl ?_
  refine g_iload 77 rfl rfl rfl ?_
  refine g_isub 78 rfl rfl ?_
  refine g_i2l 79 rfl rfl ?_
  obtain ⟨q13, hq13, h⟩ := Option.bind_eq_some_iff.mp h
  refine g_callV (J := sm_I208) 82 rfl (Nat.le_of_ble_eq_true rfl) rfl rfl (Nat.le_of_ble_eq_true rfl) s_280 (Nat.le_of_ble_eq_true rfl) (Nat.le_of_ble_eq_true rfl) rfl rfl (F_208 d x1 ((((f_261 ((U.1 296 ((12 * x1) + x2).toNatClampNeg) + (U.1 290 x1.toNatClampNeg)) U) - (U.1 296 ((12 * x1) + x2).toNatClampNeg)) - x4).toInt64) hq13) ?_
  refine g_lstore 84 [(9, .long q13), (7, .long q11), (6, .int (U.1 296 ((12 * x1) + x3).toNatClampNeg)), (5, .int (U.1 296 ((12 * x1) + x2).toNatClampNeg)), (0, .ref 280), (1, .int x1), (2, .int x2), (3, .int x3), (4, .int x4)] rfl (Nat.le_of_ble_eq_true rfl) rfl rfl ?_
  refine g_iconst (v := 0) 85 rfl rfl rfl ?_
  refine g_istore 87 [(11, .int 0), (9, .long q13), (7, .long q11), (6, .int (U.1 296 ((12 * x1) + x3).toNatClampNeg)), (5, .int (U.1 296 ((12 * x1) + x2).toNatClampNeg)), (0, .ref 280), (1, .int x1), (2, .int x2), (3, .int x3), (4, .int x4)] rfl (Nat.le_of_ble_eq_true rfl) rfl rfl ?_
  exact g_sub (Sc rfl (Sc rfl (Sc rfl (Sc rfl (Sc rfl (Sc rfl (Sc rfl (Sc rfl (Sn _))))))))) (F_266_87 d _ x1 x4 (U.1 296 ((12 * x1) + x2).toNatClampNeg) (U.1 296 ((12 * x1) + x3).toNatClampNeg) q11 q13 0 _ _ h)

def f_267_50 (k37 : Int32 → Int32 → Int32 → sU → Option (Int32 × sU)) : Nat → Int32 → Int32 → Int32 → Int32 → sU → Option (Int32 × sU)
  | 0, _, _, _, _, _ => none
  | n + 1, v1, v2, v3, v4, U =>
    if ib v1 8 then
    if (U.1 288 v1.toNatClampNeg) ≤ v4 then
      k37 v1 v2 (v3 + 1) U
    else
      if v4 = v3 then
        f_267_50 k37 n v1 v2 v3 (v4 + 1) U
      else
        Option.bind (f_266 v1 v3 v4 v2 U) fun q4 =>
        if q4 = 0 then
          some ((100 * v3) + v4, U)
        else
          f_267_50 k37 n v1 v2 v3 (v4 + 1) U
    else none
set_option maxRecDepth 10000 in
set_option maxHeartbeats 2000000 in
theorem F_267_50 (d : Nat) {k37 : Int32 → Int32 → Int32 → sU → Option (Int32 × sU)} (hk37 : ∀ (v1 : Int32) (v2 : Int32) (v3 : Int32) (U : sU) (r : Int32) (U' : sU), k37 v1 v2 v3 U = some (r, U') → G (d + 2) sm_I267 37 [(0, .ref 280), (1, .int v1), (2, .int v2), (3, .int v3)] [] U (some (.int r)) U') : ∀ (n : Nat) (v1 : Int32) (v2 : Int32) (v3 : Int32) (v4 : Int32) (U : sU) (r : Int32) (U' : sU), f_267_50 k37 n v1 v2 v3 v4 U = some (r, U') → G (d + 2) sm_I267 50 [(0, .ref 280), (1, .int v1), (2, .int v2), (3, .int v3), (4, .int v4)] [] U (some (.int r)) U' := by
  intro n
  induction n with
  | zero => intro v1 v2 v3 v4 U r U' h; cases h
  | succ n ih =>
    intro v1 v2 v3 v4 U r U' h
    first | rw [f_267_50] at h | (rw [f_267_50.eq_def] at h; dsimp only at h)
    refine g_iload 52 rfl rfl rfl ?_
    refine g_aload_n 53 rfl rfl rfl ?_
    refine g_get 56 rfl s_280 (Nat.le_of_ble_eq_true rfl) rfl rfl ?_
    refine g_iload_n 57 rfl rfl rfl ?_
    by_cases i1 : ib v1 8
    case neg => rw [if_neg i1] at h; cases h
    rw [if_pos i1] at h
    refine g_iald 58 rfl s_288 l_288 i1 rfl ?_
    refine g_icmp_ge 93 61 rfl rfl (fun c2 => ?_) (fun c2 => ?_)
    · rw [if_pos c2] at h
      refine g_iinc (v := v3 + 1) 96 [(3, .int (v3 + 1)), (0, .ref 280), (1, .int v1), (2, .int v2), (4, .int v4)] rfl rfl (Nat.le_of_ble_eq_true rfl) rfl rfl rfl ?_
      refine g_goto 37 rfl ?_
      exact g_sub (Sc rfl (Sc rfl (Sc rfl (Sc rfl (Sn _))))) (hk37 v1 v2 (v3 + 1) _ _ _ h)
    · rw [if_neg c2] at h
      refine g_iload 63 rfl rfl rfl ?_
      refine g_iload_n 64 rfl rfl rfl ?_
      refine g_icmp_eq 87 67 rfl rfl (fun c3 => ?_) (fun c3 => ?_)
      · rw [if_pos c3] at h
        refine g_iinc (v := v4 + 1) 90 [(4, .int (v4 + 1)), (0, .ref 280), (1, .int v1), (2, .int v2), (3, .int v3)] rfl rfl (Nat.le_of_ble_eq_true rfl) rfl rfl rfl ?_
        refine g_goto 50 rfl ?_
        exact g_sub (Sc rfl (Sc rfl (Sc rfl (Sc rfl (Sc rfl (Sn _)))))) (ih v1 v2 v3 (v4 + 1) _ _ _ h)
      · rw [if_neg c3] at h
        refine g_aload_n 68 rfl rfl rfl ?_
        refine g_iload_n 69 rfl rfl rfl ?_
        refine g_iload_n 70 rfl rfl rfl ?_
        refine g_iload 72 rfl rfl rfl ?_
        refine g_iload_n 73 rfl rfl rfl ?_
        obtain ⟨q4, hq4, h⟩ := Option.bind_eq_some_iff.mp h
        have r5 := (F_266 d v1 v3 v4 v2 hq4)
        refine g_callV (J := sm_I266) 76 rfl (Nat.le_of_ble_eq_true rfl) rfl rfl (Nat.le_of_ble_eq_true rfl) s_280 (Nat.le_of_ble_eq_true rfl) (Nat.le_of_ble_eq_true rfl) rfl rfl r5 ?_
        refine g_if_ne 87 79 rfl rfl (fun c6 => ?_) (fun c6 => ?_)
        · rw [if_neg c6] at h
          refine g_iinc (v := v4 + 1) 90 [(4, .int (v4 + 1)), (0, .ref 280), (1, .int v1), (2, .int v2), (3, .int v3)] rfl rfl (Nat.le_of_ble_eq_true rfl) rfl rfl rfl ?_
          refine g_goto 50 rfl ?_
          exact g_sub (Sc rfl (Sc rfl (Sc rfl (Sc rfl (Sc rfl (Sn _)))))) (ih v1 v2 v3 (v4 + 1) _ _ _ h)
        · rw [if_pos c6] at h
          refine g_bipush (v := 100) 81 rfl (by decide) rfl ?_
          refine g_iload_n 82 rfl rfl rfl ?_
          refine g_imul 83 rfl rfl ?_
          refine g_iload 85 rfl rfl rfl ?_
          refine g_iadd 86 rfl rfl ?_
          cases h
          exact g_iret rfl rfl
def f_267_37 : Nat → Int32 → Int32 → Int32 → sU → Option (Int32 × sU)
  | 0, _, _, _, _ => none
  | n + 1, v1, v2, v3, U =>
    if ib v1 8 then
    if (U.1 288 v1.toNatClampNeg) ≤ v3 then
      some ((-1), U)
    else
      f_267_50 (fun v1 v2 v3 U => f_267_37 n v1 v2 v3 U) FU v1 v2 v3 0 U
    else none
set_option maxRecDepth 10000 in
set_option maxHeartbeats 2000000 in
theorem F_267_37 (d : Nat)   : ∀ (n : Nat) (v1 : Int32) (v2 : Int32) (v3 : Int32) (U : sU) (r : Int32) (U' : sU), f_267_37 n v1 v2 v3 U = some (r, U') → G (d + 2) sm_I267 37 [(0, .ref 280), (1, .int v1), (2, .int v2), (3, .int v3)] [] U (some (.int r)) U' := by
  intro n
  induction n with
  | zero => intro v1 v2 v3 U r U' h; cases h
  | succ n ih =>
    intro v1 v2 v3 U r U' h
    first | rw [f_267_37] at h | (rw [f_267_37.eq_def] at h; dsimp only at h)
    refine g_iload_n 38 rfl rfl rfl ?_
    refine g_aload_n 39 rfl rfl rfl ?_
    refine g_get 42 rfl s_280 (Nat.le_of_ble_eq_true rfl) rfl rfl ?_
    refine g_iload_n 43 rfl rfl rfl ?_
    by_cases i7 : ib v1 8
    case neg => rw [if_neg i7] at h; cases h
    rw [if_pos i7] at h
    refine g_iald 44 rfl s_288 l_288 i7 rfl ?_
    refine g_icmp_ge 99 47 rfl rfl (fun c8 => ?_) (fun c8 => ?_)
    · rw [if_pos c8] at h
      refine g_iconst (v := (-1)) 100 rfl rfl rfl ?_
      cases h
      exact g_iret rfl rfl
    · rw [if_neg c8] at h
      refine g_iconst (v := 0) 48 rfl rfl rfl ?_
      refine g_istore 50 [(4, .int 0), (0, .ref 280), (1, .int v1), (2, .int v2), (3, .int v3)] rfl (Nat.le_of_ble_eq_true rfl) rfl rfl ?_
      exact g_sub (Sc rfl (Sc rfl (Sc rfl (Sc rfl (Sc rfl (Sn _)))))) (F_267_50 d (fun v1 v2 v3 U r U' h => ih v1 v2 v3 U r U' h) _ v1 v2 v3 0 _ _ _ h)
def f_267 (x1 : Int32) (x2 : Int32) (U : sU) : Option (Int32 × sU) :=
  if (f_178 x1 U) = 0 then
    Option.bind (f_176 ((-1)) U) fun q15 =>
    some (q15.1, q15.2)
  else
    if x2 < ((-500)) then
      Option.bind (f_176 ((-6)) U) fun q12 =>
      some (q12.1, q12.2)
    else
      if x2 ≤ 500 then
        f_267_37 FU x1 x2 0 U
      else
        Option.bind (f_176 ((-6)) U) fun q14 =>
        some (q14.1, q14.2)
set_option maxRecDepth 10000 in
set_option maxHeartbeats 2000000 in
theorem F_267 (d : Nat) (x1 : Int32) (x2 : Int32) {U : sU} {r : Int32} {U' : sU} (h : f_267 x1 x2 U = some (r, U')) : Rn (d + 2) sm_I267 [.ref 280, .int x1, .int x2] U (some (.int r)) U' := by
  refine Rn_of [(0, .ref 280), (1, .int x1), (2, .int x2)] (Nat.le_of_ble_eq_true rfl) (Sc rfl (Sc rfl (Sc rfl (Sn _)))) ?_
  first | rw [f_267] at h | rw [f_267.eq_def] at h
  refine g_aload_n 1 rfl rfl rfl ?_
  refine g_iload_n 2 rfl rfl rfl ?_
  have r9 := F_178 (d + 1) x1 U
  refine g_callV (J := sm_I178) 5 rfl (Nat.le_of_ble_eq_true rfl) rfl rfl (Nat.le_of_ble_eq_true rfl) s_280 (Nat.le_of_ble_eq_true rfl) (Nat.le_of_ble_eq_true rfl) rfl rfl r9 ?_
  refine g_if_ne 14 8 rfl rfl (fun c10 => ?_) (fun c10 => ?_)
  · rw [if_neg c10] at h
    refine g_iload_n 15 rfl rfl rfl ?_
    refine g_sipush (v := (-500)) 18 rfl (by decide) rfl ?_
    refine g_icmp_lt 28 21 rfl rfl (fun c11 => ?_) (fun c11 => ?_)
    · rw [if_pos c11] at h
      refine g_aload_n 29 rfl rfl rfl ?_
      refine g_bipush (v := (-6)) 31 rfl (by decide) rfl ?_
      obtain ⟨q12, hq12, h⟩ := Option.bind_eq_some_iff.mp h
      refine g_callV (J := sm_I176) 34 rfl (Nat.le_of_ble_eq_true rfl) rfl rfl (Nat.le_of_ble_eq_true rfl) s_280 (Nat.le_of_ble_eq_true rfl) (Nat.le_of_ble_eq_true rfl) rfl rfl (F_176 (d + 1) ((-6)) hq12) ?_
      cases h
      exact g_iret rfl rfl
    · rw [if_neg c11] at h
      refine g_iload_n 22 rfl rfl rfl ?_
      refine g_sipush (v := 500) 25 rfl (by decide) rfl ?_
      refine g_icmp_le 35 28 rfl rfl (fun c13 => ?_) (fun c13 => ?_)
      · rw [if_pos c13] at h
        refine g_iconst (v := 0) 36 rfl rfl rfl ?_
        refine g_istore_n 37 [(3, .int 0), (0, .ref 280), (1, .int x1), (2, .int x2)] rfl (Nat.le_of_ble_eq_true rfl) rfl rfl ?_
        exact g_sub (Sc rfl (Sc rfl (Sc rfl (Sc rfl (Sn _))))) (F_267_37 d _ x1 x2 0 _ _ _ h)
      · rw [if_neg c13] at h
        refine g_aload_n 29 rfl rfl rfl ?_
        refine g_bipush (v := (-6)) 31 rfl (by decide) rfl ?_
        obtain ⟨q14, hq14, h⟩ := Option.bind_eq_some_iff.mp h
        refine g_callV (J := sm_I176) 34 rfl (Nat.le_of_ble_eq_true rfl) rfl rfl (Nat.le_of_ble_eq_true rfl) s_280 (Nat.le_of_ble_eq_true rfl) (Nat.le_of_ble_eq_true rfl) rfl rfl (F_176 (d + 1) ((-6)) hq14) ?_
        cases h
        exact g_iret rfl rfl
  · rw [if_pos c10] at h
    refine g_aload_n 9 rfl rfl rfl ?_
    refine g_iconst (v := (-1)) 10 rfl rfl rfl ?_
    obtain ⟨q15, hq15, h⟩ := Option.bind_eq_some_iff.mp h
    refine g_callV (J := sm_I176) 13 rfl (Nat.le_of_ble_eq_true rfl) rfl rfl (Nat.le_of_ble_eq_true rfl) s_280 (Nat.le_of_ble_eq_true rfl) (Nat.le_of_ble_eq_true rfl) rfl rfl (F_176 (d + 1) ((-1)) hq15) ?_
    cases h
    exact g_iret rfl rfl

def f_268_4 : Nat → Int32 → Int32 → sU → Option (Int32 × sU)
  | 0, _, _, _ => none
  | n + 1, v1, v2, U =>
    if (U.1 280 1) ≤ v2 then
      some (v1, U)
    else
      Option.bind (f_228 v2 U) fun q2 =>
      if q2.1 = ((-1)) then
        f_268_4 n (v1 ||| (1 <<< (v2 &&& 31))) (v2 + 1) q2.2
      else
        f_268_4 n v1 (v2 + 1) q2.2
set_option maxRecDepth 10000 in
set_option maxHeartbeats 2000000 in
theorem F_268_4 (d : Nat)   : ∀ (n : Nat) (v1 : Int32) (v2 : Int32) (U : sU) (r : Int32) (U' : sU), f_268_4 n v1 v2 U = some (r, U') → G (d + 6) sm_I268 4 [(0, .ref 280), (1, .int v1), (2, .int v2)] [] U (some (.int r)) U' := by
  intro n
  induction n with
  | zero => intro v1 v2 U r U' h; cases h
  | succ n ih =>
    intro v1 v2 U r U' h
    first | rw [f_268_4] at h | (rw [f_268_4.eq_def] at h; dsimp only at h)
    refine g_iload_n 5 rfl rfl rfl ?_
    refine g_aload_n 6 rfl rfl rfl ?_
    refine g_get 9 rfl s_280 (Nat.le_of_ble_eq_true rfl) rfl rfl ?_
    refine g_icmp_ge 33 12 rfl rfl (fun c1 => ?_) (fun c1 => ?_)
    · rw [if_pos c1] at h
      refine g_iload_n 34 rfl rfl rfl ?_
      cases h
      exact g_iret rfl rfl
    · rw [if_neg c1] at h
      refine g_aload_n 13 rfl rfl rfl ?_
      refine g_iload_n 14 rfl rfl rfl ?_
      obtain ⟨q2, hq2, h⟩ := Option.bind_eq_some_iff.mp h
      refine g_callV (J := sm_I228) 17 rfl (Nat.le_of_ble_eq_true rfl) rfl rfl (Nat.le_of_ble_eq_true rfl) s_280 (Nat.le_of_ble_eq_true rfl) (Nat.le_of_ble_eq_true rfl) rfl rfl (F_228 d v2 hq2) ?_
      refine g_iconst (v := (-1)) 18 rfl rfl rfl ?_
      refine g_icmp_ne 27 21 rfl rfl (fun c3 => ?_) (fun c3 => ?_)
      · rw [if_neg c3] at h
        refine g_iinc (v := v2 + 1) 30 [(2, .int (v2 + 1)), (0, .ref 280), (1, .int v1)] rfl rfl (Nat.le_of_ble_eq_true rfl) rfl rfl rfl ?_
        refine g_goto 4 rfl ?_
        exact g_sub (Sc rfl (Sc rfl (Sc rfl (Sn _)))) (ih v1 (v2 + 1) _ _ _ h)
      · rw [if_pos c3] at h
        refine g_iload_n 22 rfl rfl rfl ?_
        refine g_iconst (v := 1) 23 rfl rfl rfl ?_
        refine g_iload_n 24 rfl rfl rfl ?_
        refine g_ishl 25 rfl rfl ?_
        refine g_ior 26 rfl rfl ?_
        refine g_istore_n 27 [(1, .int (v1 ||| (1 <<< (v2 &&& 31)))), (0, .ref 280), (2, .int v2)] rfl (Nat.le_of_ble_eq_true rfl) rfl rfl ?_
        refine g_iinc (v := v2 + 1) 30 [(2, .int (v2 + 1)), (1, .int (v1 ||| (1 <<< (v2 &&& 31)))), (0, .ref 280)] rfl rfl (Nat.le_of_ble_eq_true rfl) rfl rfl rfl ?_
        refine g_goto 4 rfl ?_
        exact g_sub (Sc rfl (Sc rfl (Sc rfl (Sn _)))) (ih (v1 ||| (1 <<< (v2 &&& 31))) (v2 + 1) _ _ _ h)
def f_268  (U : sU) : Option (Int32 × sU) :=
  f_268_4 FU 0 0 U
set_option maxRecDepth 10000 in
set_option maxHeartbeats 2000000 in
theorem F_268 (d : Nat)  {U : sU} {r : Int32} {U' : sU} (h : f_268  U = some (r, U')) : Rn (d + 6) sm_I268 [.ref 280] U (some (.int r)) U' := by
  refine Rn_of [(0, .ref 280)] (Nat.le_of_ble_eq_true rfl) (Sc rfl (Sn _)) ?_
  first | rw [f_268] at h | rw [f_268.eq_def] at h
  refine g_iconst (v := 0) 1 rfl rfl rfl ?_
  refine g_istore_n 2 [(1, .int 0), (0, .ref 280)] rfl (Nat.le_of_ble_eq_true rfl) rfl rfl ?_
  refine g_iconst (v := 0) 3 rfl rfl rfl ?_
  refine g_istore_n 4 [(2, .int 0), (1, .int 0), (0, .ref 280)] rfl (Nat.le_of_ble_eq_true rfl) rfl rfl ?_
  exact g_sub (Sc rfl (Sc rfl (Sc rfl (Sn _)))) (F_268_4 d _ 0 0 _ _ _ h)

def f_269 (x1 : Int32) (U : sU) : Option (Int32 × sU) :=
  if ¬ x1 = 0 then
  some ((((sI U 280 51 ((((U.1 280 51) * 1103515245) + 12345) &&& 2147483647)).1 280 51) / 65536) - (((sI U 280 51 ((((U.1 280 51) * 1103515245) + 12345) &&& 2147483647)).1 280 51) / 65536) / x1 * x1, sI U 280 51 ((((U.1 280 51) * 1103515245) + 12345) &&& 2147483647))
  else none
set_option maxRecDepth 10000 in
set_option maxHeartbeats 2000000 in
theorem F_269 (d : Nat) (x1 : Int32) {U : sU} {r : Int32} {U' : sU} (h : f_269 x1 U = some (r, U')) : Rn (d + 0) sm_I269 [.ref 280, .int x1] U (some (.int r)) U' := by
  refine Rn_of [(0, .ref 280), (1, .int x1)] (Nat.le_of_ble_eq_true rfl) (Sc rfl (Sc rfl (Sn _))) ?_
  first | rw [f_269] at h | rw [f_269.eq_def] at h
  refine g_aload_n 1 rfl rfl rfl ?_
  refine g_aload_n 2 rfl rfl rfl ?_
  refine g_get 5 rfl s_280 (Nat.le_of_ble_eq_true rfl) rfl rfl ?_
  refine g_ldc_w (v := 1103515245) 8 rfl (by decide) rfl ?_
  refine g_imul 9 rfl rfl ?_
  refine g_sipush (v := 12345) 12 rfl (by decide) rfl ?_
  refine g_iadd 13 rfl rfl ?_
  refine g_ldc_w (v := 2147483647) 16 rfl (by decide) rfl ?_
  refine g_iand 17 rfl rfl ?_
  refine g_putI 20 rfl s_280 (Nat.le_of_ble_eq_true rfl) (Nat.le_of_ble_eq_true rfl) rfl fs_10_51 rfl ?_
  refine g_aload_n 21 rfl rfl rfl ?_
  refine g_get 24 rfl s_280 (Nat.le_of_ble_eq_true rfl) rfl rfl ?_
  refine g_ldc_w (v := 65536) 27 rfl (by decide) rfl ?_
  refine g_idiv 28 rfl (by decide) rfl ?_
  refine g_iload_n 29 rfl rfl rfl ?_
  by_cases n2 : ¬ x1 = 0
  case neg => rw [if_neg n2] at h; cases h
  rw [if_pos n2] at h
  refine g_irem 30 rfl n2 rfl ?_
  cases h
  exact g_iret rfl rfl

def f_270_222 (k212 : Int32 → Int32 → Int32 → Int32 → Int64 → Int32 → Int32 → Int32 → Int32 → Int32 → sU → Option (Int64 × sU)) : Nat → Int32 → Int32 → Int32 → Int32 → Int64 → Int32 → Int32 → Int32 → Int32 → Int32 → sU → Option (Int64 × sU)
  | 0, _, _, _, _, _, _, _, _, _, _, _ => none
  | n + 1, v1, v3, v4, v5, v6, v8, v10, v11, v12, v13, U =>
    if (((U.1 280 43) >>> (v11 &&& 31)) &&& 1) = 0 then
      f_270_222 k212 n v1 v3 v4 v5 v6 v8 v10 (v11 + 1) v12 v13 U
    else
      k212 v1 v3 v4 v5 v6 v8 v10 v11 v12 (v13 + 1) U
set_option maxRecDepth 10000 in
set_option maxHeartbeats 2000000 in
theorem F_270_222 (d : Nat) {k212 : Int32 → Int32 → Int32 → Int32 → Int64 → Int32 → Int32 → Int32 → Int32 → Int32 → sU → Option (Int64 × sU)} (hk212 : ∀ (v1 : Int32) (v3 : Int32) (v4 : Int32) (v5 : Int32) (v6 : Int64) (v8 : Int32) (v10 : Int32) (v11 : Int32) (v12 : Int32) (v13 : Int32) (U : sU) (r : Int64) (U' : sU), k212 v1 v3 v4 v5 v6 v8 v10 v11 v12 v13 U = some (r, U') → G (d + 5) sm_I270 212 [(0, .ref 280), (1, .int v1), (3, .int v3), (4, .int v4), (5, .int v5), (6, .long v6), (8, .int v8), (10, .int v10), (11, .int v11), (12, .int v12), (13, .int v13)] [] U (some (.long r)) U') : ∀ (n : Nat) (v1 : Int32) (v3 : Int32) (v4 : Int32) (v5 : Int32) (v6 : Int64) (v8 : Int32) (v10 : Int32) (v11 : Int32) (v12 : Int32) (v13 : Int32) (U : sU) (r : Int64) (U' : sU), f_270_222 k212 n v1 v3 v4 v5 v6 v8 v10 v11 v12 v13 U = some (r, U') → G (d + 5) sm_I270 222 [(0, .ref 280), (1, .int v1), (3, .int v3), (4, .int v4), (5, .int v5), (6, .long v6), (8, .int v8), (10, .int v10), (11, .int v11), (12, .int v12), (13, .int v13)] [] U (some (.long r)) U' := by
  intro n
  induction n with
  | zero => intro v1 v3 v4 v5 v6 v8 v10 v11 v12 v13 U r U' h; cases h
  | succ n ih =>
    intro v1 v3 v4 v5 v6 v8 v10 v11 v12 v13 U r U' h
    first | rw [f_270_222] at h | (rw [f_270_222.eq_def] at h; dsimp only at h)
    refine g_aload_n 223 rfl rfl rfl ?_
    refine g_get 226 rfl s_280 (Nat.le_of_ble_eq_true rfl) rfl rfl ?_
    refine g_iload 228 rfl rfl rfl ?_
    refine g_ishr 229 rfl rfl ?_
    refine g_iconst (v := 1) 230 rfl rfl rfl ?_
    refine g_iand 231 rfl rfl ?_
    refine g_if_ne 240 234 rfl rfl (fun c1 => ?_) (fun c1 => ?_)
    · rw [if_neg c1] at h
      refine g_iinc (v := v13 + 1) 243 [(13, .int (v13 + 1)), (0, .ref 280), (1, .int v1), (3, .int v3), (4, .int v4), (5, .int v5), (6, .long v6), (8, .int v8), (10, .int v10), (11, .int v11), (12, .int v12)] rfl rfl (Nat.le_of_ble_eq_true rfl) rfl rfl rfl ?_
      refine g_goto 212 rfl ?_
      exact g_sub (Sc rfl (Sc rfl (Sc rfl (Sc rfl (Sc rfl (Sc rfl (Sc rfl (Sc rfl (Sc rfl (Sc rfl (Sc rfl (Sn _)))))))))))) (hk212 v1 v3 v4 v5 v6 v8 v10 v11 v12 (v13 + 1) _ _ _ h)
    · rw [if_pos c1] at h
      refine g_iinc (v := v11 + 1) 237 [(11, .int (v11 + 1)), (0, .ref 280), (1, .int v1), (3, .int v3), (4, .int v4), (5, .int v5), (6, .long v6), (8, .int v8), (10, .int v10), (12, .int v12), (13, .int v13)] rfl rfl (Nat.le_of_ble_eq_true rfl) rfl rfl rfl ?_
      refine g_goto 222 rfl ?_
      exact g_sub (Sc rfl (Sc rfl (Sc rfl (Sc rfl (Sc rfl (Sc rfl (Sc rfl (Sc rfl (Sc rfl (Sc rfl (Sc rfl (Sn _)))))))))))) (ih v1 v3 v4 v5 v6 v8 v10 (v11 + 1) v12 v13 _ _ _ h)
def f_270_246 (k98 : Int32 → Int32 → Int32 → Int32 → Int64 → Int32 → sU → Option (Int64 × sU)) (v1 : Int32) (v3 : Int32) (v4 : Int32) (v5 : Int32) (v6 : Int64) (v8 : Int32) (v10 : Int32) (v11 : Int32) (U : sU) : Option (Int64 × sU) :=
  if ib v11 12 then
  if ib ((12 * v4) + v10) 96 then
  if ib v4 8 then
  Option.bind (f_208 v4 ((((U.1 306 v11.toNatClampNeg) - (U.1 296 ((12 * v4) + v10).toNatClampNeg)) - (U.1 290 v4.toNatClampNeg)).toInt64) U) fun q5 =>
  k98 v1 v3 v4 v5 (v6 + q5) (v8 + 1) U
  else none
  else none
  else none
set_option maxRecDepth 10000 in
set_option maxHeartbeats 2000000 in
theorem F_270_246 (d : Nat) {k98 : Int32 → Int32 → Int32 → Int32 → Int64 → Int32 → sU → Option (Int64 × sU)} (hk98 : ∀ (v1 : Int32) (v3 : Int32) (v4 : Int32) (v5 : Int32) (v6 : Int64) (v8 : Int32) (U : sU) (r : Int64) (U' : sU), k98 v1 v3 v4 v5 v6 v8 U = some (r, U') → G (d + 5) sm_I270 98 [(0, .ref 280), (1, .int v1), (3, .int v3), (4, .int v4), (5, .int v5), (6, .long v6), (8, .int v8)] [] U (some (.long r)) U') (v1 : Int32) (v3 : Int32) (v4 : Int32) (v5 : Int32) (v6 : Int64) (v8 : Int32) (v10 : Int32) (v11 : Int32) {U : sU} {r : Int64} {U' : sU} (h : f_270_246 k98 v1 v3 v4 v5 v6 v8 v10 v11 U = some (r, U')) : G (d + 5) sm_I270 246 [(0, .ref 280), (1, .int v1), (3, .int v3), (4, .int v4), (5, .int v5), (6, .long v6), (8, .int v8), (10, .int v10), (11, .int v11)] [] U (some (.long r)) U' := by
  first | rw [f_270_246] at h | rw [f_270_246.eq_def] at h
  refine g_lload 248 rfl rfl rfl ?_
  refine g_aload_n 249 rfl rfl rfl ?_
  refine g_iload 251 rfl rfl rfl ?_
  refine g_aload_n 252 rfl rfl rfl ?_
  refine g_get 255 rfl s_280 (Nat.le_of_ble_eq_true rfl) rfl rfl ?_
  refine g_iload 257 rfl rfl rfl ?_
  by_cases i2 : ib v11 12
  case neg => rw [if_neg i2] at h; cases h
  rw [if_pos i2] at h
  refine g_iald 258 rfl s_306 l_306 i2 rfl ?_
  refine g_aload_n 259 rfl rfl rfl ?_
  refine g_get 262 rfl s_280 (Nat.le_of_ble_eq_true rfl) rfl rfl ?_
  refine g_bipush (v := 12) 264 rfl (by decide) rfl ?_
  refine g_iload 266 rfl rfl rfl ?_
  refine g_imul 267 rfl rfl ?_
  refine g_iload 269 rfl rfl rfl ?_
  refine g_iadd 270 rfl rfl ?_
  by_cases i3 : ib ((12 * v4) + v10) 96
  case neg => rw [if_neg i3] at h; cases h
  rw [if_pos i3] at h
  refine g_iald 271 rfl s_296 l_296 i3 rfl ?_
  refine g_isub 272 rfl rfl ?_
  refine g_aload_n 273 rfl rfl rfl ?_
  refine g_get 276 rfl s_280 (Nat.le_of_ble_eq_true rfl) rfl rfl ?_
  refine g_iload 278 rfl rfl rfl ?_
  by_cases i4 : ib v4 8
  case neg => rw [if_neg i4] at h; cases h
  rw [if_pos i4] at h
  refine g_iald 279 rfl s_290 l_290 i4 rfl ?_
  refine g_isub 280 rfl rfl ?_
  refine g_i2l 281 rfl rfl ?_
  obtain ⟨q5, hq5, h⟩ := Option.bind_eq_some_iff.mp h
  refine g_callV (J := sm_I208) 284 rfl (Nat.le_of_ble_eq_true rfl) rfl rfl (Nat.le_of_ble_eq_true rfl) s_280 (Nat.le_of_ble_eq_true rfl) (Nat.le_of_ble_eq_true rfl) rfl rfl (F_208 (d + 4) v4 ((((U.1 306 v11.toNatClampNeg) - (U.1 296 ((12 * v4) + v10).toNatClampNeg)) - (U.1 290 v4.toNatClampNeg)).toInt64) hq5) ?_
  refine g_ladd 285 rfl rfl ?_
  refine g_lstore 287 [(6, .long (v6 + q5)), (0, .ref 280), (1, .int v1), (3, .int v3), (4, .int v4), (5, .int v5), (8, .int v8), (10, .int v10), (11, .int v11)] rfl (Nat.le_of_ble_eq_true rfl) rfl rfl ?_
  refine g_iinc (v := v8 + 1) 290 [(8, .int (v8 + 1)), (6, .long (v6 + q5)), (0, .ref 280), (1, .int v1), (3, .int v3), (4, .int v4), (5, .int v5), (10, .int v10), (11, .int v11)] rfl rfl (Nat.le_of_ble_eq_true rfl) rfl rfl rfl ?_
  refine g_goto 98 rfl ?_
  exact g_sub (Sc rfl (Sc rfl (Sc rfl (Sc rfl (Sc rfl (Sc rfl (Sc rfl (Sn _)))))))) (hk98 v1 v3 v4 v5 (v6 + q5) (v8 + 1) _ _ _ h)
def f_270_212 (k98 : Int32 → Int32 → Int32 → Int32 → Int64 → Int32 → sU → Option (Int64 × sU)) : Nat → Int32 → Int32 → Int32 → Int32 → Int64 → Int32 → Int32 → Int32 → Int32 → Int32 → sU → Option (Int64 × sU)
  | 0, _, _, _, _, _, _, _, _, _, _, _ => none
  | n + 1, v1, v3, v4, v5, v6, v8, v10, v11, v12, v13, U =>
    if v12 < v13 then
      f_270_246 k98 v1 v3 v4 v5 v6 v8 v10 v11 U
    else
      f_270_222 (fun v1 v3 v4 v5 v6 v8 v10 v11 v12 v13 U => f_270_212 k98 n v1 v3 v4 v5 v6 v8 v10 v11 v12 v13 U) FU v1 v3 v4 v5 v6 v8 v10 (v11 + 1) v12 v13 U
set_option maxRecDepth 10000 in
set_option maxHeartbeats 2000000 in
theorem F_270_212 (d : Nat) {k98 : Int32 → Int32 → Int32 → Int32 → Int64 → Int32 → sU → Option (Int64 × sU)} (hk98 : ∀ (v1 : Int32) (v3 : Int32) (v4 : Int32) (v5 : Int32) (v6 : Int64) (v8 : Int32) (U : sU) (r : Int64) (U' : sU), k98 v1 v3 v4 v5 v6 v8 U = some (r, U') → G (d + 5) sm_I270 98 [(0, .ref 280), (1, .int v1), (3, .int v3), (4, .int v4), (5, .int v5), (6, .long v6), (8, .int v8)] [] U (some (.long r)) U') : ∀ (n : Nat) (v1 : Int32) (v3 : Int32) (v4 : Int32) (v5 : Int32) (v6 : Int64) (v8 : Int32) (v10 : Int32) (v11 : Int32) (v12 : Int32) (v13 : Int32) (U : sU) (r : Int64) (U' : sU), f_270_212 k98 n v1 v3 v4 v5 v6 v8 v10 v11 v12 v13 U = some (r, U') → G (d + 5) sm_I270 212 [(0, .ref 280), (1, .int v1), (3, .int v3), (4, .int v4), (5, .int v5), (6, .long v6), (8, .int v8), (10, .int v10), (11, .int v11), (12, .int v12), (13, .int v13)] [] U (some (.long r)) U' := by
  intro n
  induction n with
  | zero => intro v1 v3 v4 v5 v6 v8 v10 v11 v12 v13 U r U' h; cases h
  | succ n ih =>
    intro v1 v3 v4 v5 v6 v8 v10 v11 v12 v13 U r U' h
    first | rw [f_270_212] at h | (rw [f_270_212.eq_def] at h; dsimp only at h)
    refine g_iload 214 rfl rfl rfl ?_
    refine g_iload 216 rfl rfl rfl ?_
    refine g_icmp_gt 246 219 rfl rfl (fun c6 => ?_) (fun c6 => ?_)
    · rw [if_pos c6] at h
      exact g_sub (Sc rfl (Sc rfl (Sc rfl (Sc rfl (Sc rfl (Sc rfl (Sc rfl (Sc rfl (Sc rfl (Sn _)))))))))) (F_270_246 d hk98 v1 v3 v4 v5 v6 v8 v10 v11 h)
    · rw [if_neg c6] at h
      refine g_iinc (v := v11 + 1) 222 [(11, .int (v11 + 1)), (0, .ref 280), (1, .int v1), (3, .int v3), (4, .int v4), (5, .int v5), (6, .long v6), (8, .int v8), (10, .int v10), (12, .int v12), (13, .int v13)] rfl rfl (Nat.le_of_ble_eq_true rfl) rfl rfl rfl ?_
      exact g_sub (Sc rfl (Sc rfl (Sc rfl (Sc rfl (Sc rfl (Sc rfl (Sc rfl (Sc rfl (Sc rfl (Sc rfl (Sc rfl (Sn _)))))))))))) (F_270_222 d (fun v1 v3 v4 v5 v6 v8 v10 v11 v12 v13 U r U' h => ih v1 v3 v4 v5 v6 v8 v10 v11 v12 v13 U r U' h) _ v1 v3 v4 v5 v6 v8 v10 (v11 + 1) v12 v13 _ _ _ h)
def f_270_115 (k98 : Int32 → Int32 → Int32 → Int32 → Int64 → Int32 → sU → Option (Int64 × sU)) : Nat → Int32 → Int32 → Int32 → Int32 → Int64 → Int32 → Int32 → Int32 → sU → Option (Int64 × sU)
  | 0, _, _, _, _, _, _, _, _, _ => none
  | n + 1, v1, v3, v4, v5, v6, v8, v9, v10, U =>
    if ib ((12 * v4) + v10) 96 then
    if v9 < (U.1 297 ((12 * v4) + v10).toNatClampNeg) then
      if ib ((12 * v1) + v10) 144 then
      if ib v1 12 then
      if (U.1 299 v1.toNatClampNeg) = 2 then
        Option.bind (f_269 100 U) fun q12 =>
        if ib v1 12 then
        if q12.1 < (q12.2.1 300 v1.toNatClampNeg) then
          f_270_246 k98 v1 v3 v4 v5 v6 v8 v10 (U.1 301 ((12 * v1) + v10).toNatClampNeg) q12.2
        else
          Option.bind (f_269 ((q12.2).1 280 44) q12.2) fun q15 =>
          f_270_212 k98 FU v1 v3 v4 v5 v6 v8 v10 ((-1)) q15.1 0 q15.2
        else none
      else
        f_270_246 k98 v1 v3 v4 v5 v6 v8 v10 (U.1 301 ((12 * v1) + v10).toNatClampNeg) U
      else none
      else none
    else
      if ib ((12 * v4) + v10) 96 then
      f_270_115 k98 n v1 v3 v4 v5 v6 v8 (v9 - (U.1 297 ((12 * v4) + v10).toNatClampNeg)) (v10 + 1) U
      else none
    else none
set_option maxRecDepth 10000 in
set_option maxHeartbeats 2000000 in
theorem F_270_115 (d : Nat) {k98 : Int32 → Int32 → Int32 → Int32 → Int64 → Int32 → sU → Option (Int64 × sU)} (hk98 : ∀ (v1 : Int32) (v3 : Int32) (v4 : Int32) (v5 : Int32) (v6 : Int64) (v8 : Int32) (U : sU) (r : Int64) (U' : sU), k98 v1 v3 v4 v5 v6 v8 U = some (r, U') → G (d + 5) sm_I270 98 [(0, .ref 280), (1, .int v1), (3, .int v3), (4, .int v4), (5, .int v5), (6, .long v6), (8, .int v8)] [] U (some (.long r)) U') : ∀ (n : Nat) (v1 : Int32) (v3 : Int32) (v4 : Int32) (v5 : Int32) (v6 : Int64) (v8 : Int32) (v9 : Int32) (v10 : Int32) (U : sU) (r : Int64) (U' : sU), f_270_115 k98 n v1 v3 v4 v5 v6 v8 v9 v10 U = some (r, U') → G (d + 5) sm_I270 115 [(0, .ref 280), (1, .int v1), (3, .int v3), (4, .int v4), (5, .int v5), (6, .long v6), (8, .int v8), (9, .int v9), (10, .int v10)] [] U (some (.long r)) U' := by
  intro n
  induction n with
  | zero => intro v1 v3 v4 v5 v6 v8 v9 v10 U r U' h; cases h
  | succ n ih =>
    intro v1 v3 v4 v5 v6 v8 v9 v10 U r U' h
    first | rw [f_270_115] at h | (rw [f_270_115.eq_def] at h; dsimp only at h)
    refine g_iload 117 rfl rfl rfl ?_
    refine g_aload_n 118 rfl rfl rfl ?_
    refine g_get 121 rfl s_280 (Nat.le_of_ble_eq_true rfl) rfl rfl ?_
    refine g_bipush (v := 12) 123 rfl (by decide) rfl ?_
    refine g_iload 125 rfl rfl rfl ?_
    refine g_imul 126 rfl rfl ?_
    refine g_iload 128 rfl rfl rfl ?_
    refine g_iadd 129 rfl rfl ?_
    by_cases i7 : ib ((12 * v4) + v10) 96
    case neg => rw [if_neg i7] at h; cases h
    rw [if_pos i7] at h
    refine g_iald 130 rfl s_297 l_297 i7 rfl ?_
    refine g_icmp_lt 157 133 rfl rfl (fun c8 => ?_) (fun c8 => ?_)
    · rw [if_pos c8] at h
      refine g_aload_n 158 rfl rfl rfl ?_
      refine g_get 161 rfl s_280 (Nat.le_of_ble_eq_true rfl) rfl rfl ?_
      refine g_bipush (v := 12) 163 rfl (by decide) rfl ?_
      refine g_iload_n 164 rfl rfl rfl ?_
      refine g_imul 165 rfl rfl ?_
      refine g_iload 167 rfl rfl rfl ?_
      refine g_iadd 168 rfl rfl ?_
      by_cases i9 : ib ((12 * v1) + v10) 144
      case neg => rw [if_neg i9] at h; cases h
      rw [if_pos i9] at h
      refine g_iald 169 rfl s_301 l_301 i9 rfl ?_
      refine g_istore 171 [(11, .int (U.1 301 ((12 * v1) + v10).toNatClampNeg)), (0, .ref 280), (1, .int v1), (3, .int v3), (4, .int v4), (5, .int v5), (6, .long v6), (8, .int v8), (9, .int v9), (10, .int v10)] rfl (Nat.le_of_ble_eq_true rfl) rfl rfl ?_
      refine g_aload_n 172 rfl rfl rfl ?_
      refine g_get 175 rfl s_280 (Nat.le_of_ble_eq_true rfl) rfl rfl ?_
      refine g_iload_n 176 rfl rfl rfl ?_
      by_cases i10 : ib v1 12
      case neg => rw [if_neg i10] at h; cases h
      rw [if_pos i10] at h
      refine g_iald 177 rfl s_299 l_299 i10 rfl ?_
      refine g_iconst (v := 2) 178 rfl rfl rfl ?_
      refine g_icmp_ne 246 181 rfl rfl (fun c11 => ?_) (fun c11 => ?_)
      · rw [if_neg c11] at h
        exact g_sub (Sc rfl (Sc rfl (Sc rfl (Sc rfl (Sc rfl (Sc rfl (Sc rfl (Sc rfl (Sc rfl (Sn _)))))))))) (F_270_246 d hk98 v1 v3 v4 v5 v6 v8 v10 (U.1 301 ((12 * v1) + v10).toNatClampNeg) h)
      · rw [if_pos c11] at h
        refine g_aload_n 182 rfl rfl rfl ?_
        refine g_bipush (v := 100) 184 rfl (by decide) rfl ?_
        obtain ⟨q12, hq12, h⟩ := Option.bind_eq_some_iff.mp h
        refine g_callV (J := sm_I269) 187 rfl (Nat.le_of_ble_eq_true rfl) rfl rfl (Nat.le_of_ble_eq_true rfl) s_280 (Nat.le_of_ble_eq_true rfl) (Nat.le_of_ble_eq_true rfl) rfl rfl (F_269 (d + 4) 100 hq12) ?_
        refine g_aload_n 188 rfl rfl rfl ?_
        refine g_get 191 rfl s_280 (Nat.le_of_ble_eq_true rfl) rfl rfl ?_
        refine g_iload_n 192 rfl rfl rfl ?_
        by_cases i13 : ib v1 12
        case neg => rw [if_neg i13] at h; cases h
        rw [if_pos i13] at h
        refine g_iald 193 rfl s_300 l_300 i13 rfl ?_
        refine g_icmp_lt 246 196 rfl rfl (fun c14 => ?_) (fun c14 => ?_)
        · rw [if_pos c14] at h
          exact g_sub (Sc rfl (Sc rfl (Sc rfl (Sc rfl (Sc rfl (Sc rfl (Sc rfl (Sc rfl (Sc rfl (Sn _)))))))))) (F_270_246 d hk98 v1 v3 v4 v5 v6 v8 v10 (U.1 301 ((12 * v1) + v10).toNatClampNeg) h)
        · rw [if_neg c14] at h
          refine g_aload_n 197 rfl rfl rfl ?_
          refine g_aload_n 198 rfl rfl rfl ?_
          refine g_get 201 rfl s_280 (Nat.le_of_ble_eq_true rfl) rfl rfl ?_
          obtain ⟨q15, hq15, h⟩ := Option.bind_eq_some_iff.mp h
          refine g_callV (J := sm_I269) 204 rfl (Nat.le_of_ble_eq_true rfl) rfl rfl (Nat.le_of_ble_eq_true rfl) s_280 (Nat.le_of_ble_eq_true rfl) (Nat.le_of_ble_eq_true rfl) rfl rfl (F_269 (d + 4) ((q12.2).1 280 44) hq15) ?_
          refine g_istore 206 [(12, .int q15.1), (11, .int (U.1 301 ((12 * v1) + v10).toNatClampNeg)), (0, .ref 280), (1, .int v1), (3, .int v3), (4, .int v4), (5, .int v5), (6, .long v6), (8, .int v8), (9, .int v9), (10, .int v10)] rfl (Nat.le_of_ble_eq_true rfl) rfl rfl ?_
          refine g_iconst (v := (-1)) 207 rfl rfl rfl ?_
          refine g_istore 209 [(11, .int ((-1))), (12, .int q15.1), (0, .ref 280), (1, .int v1), (3, .int v3), (4, .int v4), (5, .int v5), (6, .long v6), (8, .int v8), (9, .int v9), (10, .int v10)] rfl (Nat.le_of_ble_eq_true rfl) rfl rfl ?_
          refine g_iconst (v := 0) 210 rfl rfl rfl ?_
          refine g_istore 212 [(13, .int 0), (11, .int ((-1))), (12, .int q15.1), (0, .ref 280), (1, .int v1), (3, .int v3), (4, .int v4), (5, .int v5), (6, .long v6), (8, .int v8), (9, .int v9), (10, .int v10)] rfl (Nat.le_of_ble_eq_true rfl) rfl rfl ?_
          exact g_sub (Sc rfl (Sc rfl (Sc rfl (Sc rfl (Sc rfl (Sc rfl (Sc rfl (Sc rfl (Sc rfl (Sc rfl (Sc rfl (Sn _)))))))))))) (F_270_212 d hk98 _ v1 v3 v4 v5 v6 v8 v10 ((-1)) q15.1 0 _ _ _ h)
    · rw [if_neg c8] at h
      refine g_iload 135 rfl rfl rfl ?_
      refine g_aload_n 136 rfl rfl rfl ?_
      refine g_get 139 rfl s_280 (Nat.le_of_ble_eq_true rfl) rfl rfl ?_
      refine g_bipush (v := 12) 141 rfl (by decide) rfl ?_
      refine g_iload 143 rfl rfl rfl ?_
      refine g_imul 144 rfl rfl ?_
      refine g_iload 146 rfl rfl rfl ?_
      refine g_iadd 147 rfl rfl ?_
      by_cases i16 : ib ((12 * v4) + v10) 96
      case neg => rw [if_neg i16] at h; cases h
      rw [if_pos i16] at h
      refine g_iald 148 rfl s_297 l_297 i16 rfl ?_
      refine g_isub 149 rfl rfl ?_
      refine g_istore 151 [(9, .int (v9 - (U.1 297 ((12 * v4) + v10).toNatClampNeg))), (0, .ref 280), (1, .int v1), (3, .int v3), (4, .int v4), (5, .int v5), (6, .long v6), (8, .int v8), (10, .int v10)] rfl (Nat.le_of_ble_eq_true rfl) rfl rfl ?_
      refine g_iinc (v := v10 + 1) 154 [(10, .int (v10 + 1)), (9, .int (v9 - (U.1 297 ((12 * v4) + v10).toNatClampNeg))), (0, .ref 280), (1, .int v1), (3, .int v3), (4, .int v4), (5, .int v5), (6, .long v6), (8, .int v8)] rfl rfl (Nat.le_of_ble_eq_true rfl) rfl rfl rfl ?_
      refine g_goto 115 rfl ?_
      exact g_sub (Sc rfl (Sc rfl (Sc rfl (Sc rfl (Sc rfl (Sc rfl (Sc rfl (Sc rfl (Sc rfl (Sn _)))))))))) (ih v1 v3 v4 v5 v6 v8 (v9 - (U.1 297 ((12 * v4) + v10).toNatClampNeg)) (v10 + 1) _ _ _ h)
def f_270_98 : Nat → Int32 → Int32 → Int32 → Int32 → Int64 → Int32 → sU → Option (Int64 × sU)
  | 0, _, _, _, _, _, _, _ => none
  | n + 1, v1, v3, v4, v5, v6, v8, U =>
    if v3 ≤ v8 then
      some (v6, U)
    else
      Option.bind (f_269 v5 U) fun q18 =>
      f_270_115 (fun v1 v3 v4 v5 v6 v8 U => f_270_98 n v1 v3 v4 v5 v6 v8 U) FU v1 v3 v4 v5 v6 v8 q18.1 0 q18.2
set_option maxRecDepth 10000 in
set_option maxHeartbeats 2000000 in
theorem F_270_98 (d : Nat)   : ∀ (n : Nat) (v1 : Int32) (v3 : Int32) (v4 : Int32) (v5 : Int32) (v6 : Int64) (v8 : Int32) (U : sU) (r : Int64) (U' : sU), f_270_98 n v1 v3 v4 v5 v6 v8 U = some (r, U') → G (d + 5) sm_I270 98 [(0, .ref 280), (1, .int v1), (3, .int v3), (4, .int v4), (5, .int v5), (6, .long v6), (8, .int v8)] [] U (some (.long r)) U' := by
  intro n
  induction n with
  | zero => intro v1 v3 v4 v5 v6 v8 U r U' h; cases h
  | succ n ih =>
    intro v1 v3 v4 v5 v6 v8 U r U' h
    first | rw [f_270_98] at h | (rw [f_270_98.eq_def] at h; dsimp only at h)
    refine g_iload 100 rfl rfl rfl ?_
    refine g_iload_n 101 rfl rfl rfl ?_
    refine g_icmp_ge 293 104 rfl rfl (fun c17 => ?_) (fun c17 => ?_)
    · rw [if_pos c17] at h
      refine g_lload 295 rfl rfl rfl ?_
      cases h
      exact g_lret rfl rfl
    · rw [if_neg c17] at h
      refine g_aload_n 105 rfl rfl rfl ?_
      refine g_iload 107 rfl rfl rfl ?_
      obtain ⟨q18, hq18, h⟩ := Option.bind_eq_some_iff.mp h
      refine g_callV (J := sm_I269) 110 rfl (Nat.le_of_ble_eq_true rfl) rfl rfl (Nat.le_of_ble_eq_true rfl) s_280 (Nat.le_of_ble_eq_true rfl) (Nat.le_of_ble_eq_true rfl) rfl rfl (F_269 (d + 4) v5 hq18) ?_
      refine g_istore 112 [(9, .int q18.1), (0, .ref 280), (1, .int v1), (3, .int v3), (4, .int v4), (5, .int v5), (6, .long v6), (8, .int v8)] rfl (Nat.le_of_ble_eq_true rfl) rfl rfl ?_
      refine g_iconst (v := 0) 113 rfl rfl rfl ?_
      refine g_istore 115 [(10, .int 0), (9, .int q18.1), (0, .ref 280), (1, .int v1), (3, .int v3), (4, .int v4), (5, .int v5), (6, .long v6), (8, .int v8)] rfl (Nat.le_of_ble_eq_true rfl) rfl rfl ?_
      exact g_sub (Sc rfl (Sc rfl (Sc rfl (Sc rfl (Sc rfl (Sc rfl (Sc rfl (Sc rfl (Sc rfl (Sn _)))))))))) (F_270_115 d (fun v1 v3 v4 v5 v6 v8 U r U' h => ih v1 v3 v4 v5 v6 v8 U r U' h) _ v1 v3 v4 v5 v6 v8 q18.1 0 _ _ _ h)
def f_270_47 : Nat → Int32 → Int32 → Int32 → Int32 → Int32 → Int32 → sU → Option (Int64 × sU)
  | 0, _, _, _, _, _, _, _ => none
  | n + 1, v1, v2, v3, v4, v5, v6, U =>
    if ib v4 8 then
    if (U.1 288 v4.toNatClampNeg) ≤ v6 then
      f_270_98 FU v1 v3 v4 v5 0 0 (sI U 280 51 (v2 &&& 2147483647))
    else
      if ib ((12 * v4) + v6) 96 then
      f_270_47 n v1 v2 v3 v4 (v5 + (U.1 297 ((12 * v4) + v6).toNatClampNeg)) (v6 + 1) U
      else none
    else none
set_option maxRecDepth 10000 in
set_option maxHeartbeats 2000000 in
theorem F_270_47 (d : Nat)   : ∀ (n : Nat) (v1 : Int32) (v2 : Int32) (v3 : Int32) (v4 : Int32) (v5 : Int32) (v6 : Int32) (U : sU) (r : Int64) (U' : sU), f_270_47 n v1 v2 v3 v4 v5 v6 U = some (r, U') → G (d + 5) sm_I270 47 [(0, .ref 280), (1, .int v1), (2, .int v2), (3, .int v3), (4, .int v4), (5, .int v5), (6, .int v6)] [] U (some (.long r)) U' := by
  intro n
  induction n with
  | zero => intro v1 v2 v3 v4 v5 v6 U r U' h; cases h
  | succ n ih =>
    intro v1 v2 v3 v4 v5 v6 U r U' h
    first | rw [f_270_47] at h | (rw [f_270_47.eq_def] at h; dsimp only at h)
    refine g_iload 49 rfl rfl rfl ?_
    refine g_aload_n 50 rfl rfl rfl ?_
    refine g_get 53 rfl s_280 (Nat.le_of_ble_eq_true rfl) rfl rfl ?_
    refine g_iload 55 rfl rfl rfl ?_
    by_cases i19 : ib v4 8
    case neg => rw [if_neg i19] at h; cases h
    rw [if_pos i19] at h
    refine g_iald 56 rfl s_288 l_288 i19 rfl ?_
    refine g_icmp_ge 83 59 rfl rfl (fun c20 => ?_) (fun c20 => ?_)
    · rw [if_pos c20] at h
      refine g_aload_n 84 rfl rfl rfl ?_
      refine g_iload_n 85 rfl rfl rfl ?_
      refine g_ldc_w (v := 2147483647) 88 rfl (by decide) rfl ?_
      refine g_iand 89 rfl rfl ?_
      refine g_putI 92 rfl s_280 (Nat.le_of_ble_eq_true rfl) (Nat.le_of_ble_eq_true rfl) rfl fs_10_51 rfl ?_
      refine g_lconst (v := 0) 93 rfl rfl rfl ?_
      refine g_lstore 95 [(6, .long 0), (0, .ref 280), (1, .int v1), (2, .int v2), (3, .int v3), (4, .int v4), (5, .int v5)] rfl (Nat.le_of_ble_eq_true rfl) rfl rfl ?_
      refine g_iconst (v := 0) 96 rfl rfl rfl ?_
      refine g_istore 98 [(8, .int 0), (6, .long 0), (0, .ref 280), (1, .int v1), (2, .int v2), (3, .int v3), (4, .int v4), (5, .int v5)] rfl (Nat.le_of_ble_eq_true rfl) rfl rfl ?_
      exact g_sub (Sc rfl (Sc rfl (Sc rfl (Sc rfl (Sc rfl (Sc rfl (Sc rfl (Sn _)))))))) (F_270_98 d _ v1 v3 v4 v5 0 0 _ _ _ h)
    · rw [if_neg c20] at h
      refine g_iload 61 rfl rfl rfl ?_
      refine g_aload_n 62 rfl rfl rfl ?_
      refine g_get 65 rfl s_280 (Nat.le_of_ble_eq_true rfl) rfl rfl ?_
      refine g_bipush (v := 12) 67 rfl (by decide) rfl ?_
      refine g_iload 69 rfl rfl rfl ?_
      refine g_imul 70 rfl rfl ?_
      refine g_iload 72 rfl rfl rfl ?_
      refine g_iadd 73 rfl rfl ?_
      by_cases i21 : ib ((12 * v4) + v6) 96
      case neg => rw [if_neg i21] at h; cases h
      rw [if_pos i21] at h
      refine g_iald 74 rfl s_297 l_297 i21 rfl ?_
      refine g_iadd 75 rfl rfl ?_
      refine g_istore 77 [(5, .int (v5 + (U.1 297 ((12 * v4) + v6).toNatClampNeg))), (0, .ref 280), (1, .int v1), (2, .int v2), (3, .int v3), (4, .int v4), (6, .int v6)] rfl (Nat.le_of_ble_eq_true rfl) rfl rfl ?_
      refine g_iinc (v := v6 + 1) 80 [(6, .int (v6 + 1)), (5, .int (v5 + (U.1 297 ((12 * v4) + v6).toNatClampNeg))), (0, .ref 280), (1, .int v1), (2, .int v2), (3, .int v3), (4, .int v4)] rfl rfl (Nat.le_of_ble_eq_true rfl) rfl rfl rfl ?_
      refine g_goto 47 rfl ?_
      exact g_sub (Sc rfl (Sc rfl (Sc rfl (Sc rfl (Sc rfl (Sc rfl (Sc rfl (Sn _)))))))) (ih v1 v2 v3 v4 (v5 + (U.1 297 ((12 * v4) + v6).toNatClampNeg)) (v6 + 1) _ _ _ h)
def f_270 (x1 : Int32) (x2 : Int32) (x3 : Int32) (U : sU) : Option (Int64 × sU) :=
  if (f_180 x1 U) = 0 then
    Option.bind (f_175 ((-5)) U) fun q24 =>
    some (q24.1.toInt64, q24.2)
  else
    if x3 < 1 then
      Option.bind (f_175 ((-5)) U) fun q26 =>
      some (q26.1.toInt64, q26.2)
    else
      if x3 ≤ 200 then
        if ib x1 12 then
        Option.bind (f_226 x1 U) fun q29 =>
        f_270_47 FU x1 x2 x3 (U.1 298 x1.toNatClampNeg) 0 0 q29
        else none
      else
        Option.bind (f_175 ((-5)) U) fun q30 =>
        some (q30.1.toInt64, q30.2)
set_option maxRecDepth 10000 in
set_option maxHeartbeats 2000000 in
theorem F_270 (d : Nat) (x1 : Int32) (x2 : Int32) (x3 : Int32) {U : sU} {r : Int64} {U' : sU} (h : f_270 x1 x2 x3 U = some (r, U')) : Rn (d + 5) sm_I270 [.ref 280, .int x1, .int x2, .int x3] U (some (.long r)) U' := by
  refine Rn_of [(0, .ref 280), (1, .int x1), (2, .int x2), (3, .int x3)] (Nat.le_of_ble_eq_true rfl) (Sc rfl (Sc rfl (Sc rfl (Sc rfl (Sn _))))) ?_
  first | rw [f_270] at h | rw [f_270.eq_def] at h
  refine g_aload_n 1 rfl rfl rfl ?_
  refine g_iload_n 2 rfl rfl rfl ?_
  have r22 := F_180 (d + 4) x1 U
  refine g_callV (J := sm_I180) 5 rfl (Nat.le_of_ble_eq_true rfl) rfl rfl (Nat.le_of_ble_eq_true rfl) s_280 (Nat.le_of_ble_eq_true rfl) (Nat.le_of_ble_eq_true rfl) rfl rfl r22 ?_
  refine g_if_eq 20 8 rfl rfl (fun c23 => ?_) (fun c23 => ?_)
  · rw [if_pos c23] at h
    refine g_aload_n 21 rfl rfl rfl ?_
    refine g_bipush (v := (-5)) 23 rfl (by decide) rfl ?_
    obtain ⟨q24, hq24, h⟩ := Option.bind_eq_some_iff.mp h
    refine g_callV (J := sm_I175) 26 rfl (Nat.le_of_ble_eq_true rfl) rfl rfl (Nat.le_of_ble_eq_true rfl) s_280 (Nat.le_of_ble_eq_true rfl) (Nat.le_of_ble_eq_true rfl) rfl rfl (F_175 (d + 4) ((-5)) hq24) ?_
    refine g_i2l 27 rfl rfl ?_
    cases h
    exact g_lret rfl rfl
  · rw [if_neg c23] at h
    refine g_iload_n 9 rfl rfl rfl ?_
    refine g_iconst (v := 1) 10 rfl rfl rfl ?_
    refine g_icmp_lt 20 13 rfl rfl (fun c25 => ?_) (fun c25 => ?_)
    · rw [if_pos c25] at h
      refine g_aload_n 21 rfl rfl rfl ?_
      refine g_bipush (v := (-5)) 23 rfl (by decide) rfl ?_
      obtain ⟨q26, hq26, h⟩ := Option.bind_eq_some_iff.mp h
      refine g_callV (J := sm_I175) 26 rfl (Nat.le_of_ble_eq_true rfl) rfl rfl (Nat.le_of_ble_eq_true rfl) s_280 (Nat.le_of_ble_eq_true rfl) (Nat.le_of_ble_eq_true rfl) rfl rfl (F_175 (d + 4) ((-5)) hq26) ?_
      refine g_i2l 27 rfl rfl ?_
      cases h
      exact g_lret rfl rfl
    · rw [if_neg c25] at h
      refine g_iload_n 14 rfl rfl rfl ?_
      refine g_sipush (v := 200) 17 rfl (by decide) rfl ?_
      refine g_icmp_le 28 20 rfl rfl (fun c27 => ?_) (fun c27 => ?_)
      · rw [if_pos c27] at h
        refine g_aload_n 29 rfl rfl rfl ?_
        refine g_get 32 rfl s_280 (Nat.le_of_ble_eq_true rfl) rfl rfl ?_
        refine g_iload_n 33 rfl rfl rfl ?_
        by_cases i28 : ib x1 12
        case neg => rw [if_neg i28] at h; cases h
        rw [if_pos i28] at h
        refine g_iald 34 rfl s_298 l_298 i28 rfl ?_
        refine g_istore 36 [(4, .int (U.1 298 x1.toNatClampNeg)), (0, .ref 280), (1, .int x1), (2, .int x2), (3, .int x3)] rfl (Nat.le_of_ble_eq_true rfl) rfl rfl ?_
        refine g_iconst (v := 0) 37 rfl rfl rfl ?_
        refine g_istore 39 [(5, .int 0), (4, .int (U.1 298 x1.toNatClampNeg)), (0, .ref 280), (1, .int x1), (2, .int x2), (3, .int x3)] rfl (Nat.le_of_ble_eq_true rfl) rfl rfl ?_
        refine g_aload_n 40 rfl rfl rfl ?_
        refine g_iload_n 41 rfl rfl rfl ?_
        obtain ⟨q29, hq29, h⟩ := Option.bind_eq_some_iff.mp h
        refine g_callV (J := sm_I226) 44 rfl (Nat.le_of_ble_eq_true rfl) rfl rfl (Nat.le_of_ble_eq_true rfl) s_280 (Nat.le_of_ble_eq_true rfl) (Nat.le_of_ble_eq_true rfl) rfl rfl (F_226 d x1 hq29) ?_
        refine g_iconst (v := 0) 45 rfl rfl rfl ?_
        refine g_istore 47 [(6, .int 0), (5, .int 0), (4, .int (U.1 298 x1.toNatClampNeg)), (0, .ref 280), (1, .int x1), (2, .int x2), (3, .int x3)] rfl (Nat.le_of_ble_eq_true rfl) rfl rfl ?_
        exact g_sub (Sc rfl (Sc rfl (Sc rfl (Sc rfl (Sc rfl (Sc rfl (Sc rfl (Sn _)))))))) (F_270_47 d _ x1 x2 x3 (U.1 298 x1.toNatClampNeg) 0 0 _ _ _ h)
      · rw [if_neg c27] at h
        refine g_aload_n 21 rfl rfl rfl ?_
        refine g_bipush (v := (-5)) 23 rfl (by decide) rfl ?_
        obtain ⟨q30, hq30, h⟩ := Option.bind_eq_some_iff.mp h
        refine g_callV (J := sm_I175) 26 rfl (Nat.le_of_ble_eq_true rfl) rfl rfl (Nat.le_of_ble_eq_true rfl) s_280 (Nat.le_of_ble_eq_true rfl) (Nat.le_of_ble_eq_true rfl) rfl rfl (F_175 (d + 4) ((-5)) hq30) ?_
        refine g_i2l 27 rfl rfl ?_
        cases h
        exact g_lret rfl rfl

def f_271 (x1 : Int32) (U : sU) : Option sU :=
  if 20 ≤ (U.1 280 53) then
    some (sI U 280 53 ((U.1 280 53) + 1))
  else
    if ib (U.1 280 53) 20 then
    some (sI (sI U 312 (U.1 280 53).toNatClampNeg x1) 280 53 (((sI U 312 (U.1 280 53).toNatClampNeg x1).1 280 53) + 1))
    else none
set_option maxRecDepth 10000 in
set_option maxHeartbeats 2000000 in
theorem F_271 (d : Nat) (x1 : Int32) {U : sU} {U' : sU} (h : f_271 x1 U = some U') : Rn (d + 0) sm_I271 [.ref 280, .int x1] U none U' := by
  refine Rn_of [(0, .ref 280), (1, .int x1)] (Nat.le_of_ble_eq_true rfl) (Sc rfl (Sc rfl (Sn _))) ?_
  first | rw [f_271] at h | rw [f_271.eq_def] at h
  refine g_aload_n 1 rfl rfl rfl ?_
  refine g_get 4 rfl s_280 (Nat.le_of_ble_eq_true rfl) rfl rfl ?_
  refine g_bipush (v := 20) 6 rfl (by decide) rfl ?_
  refine g_icmp_ge 19 9 rfl rfl (fun c1 => ?_) (fun c1 => ?_)
  · rw [if_pos c1] at h
    refine g_aload_n 20 rfl rfl rfl ?_
    refine g_dup 21 rfl rfl rfl ?_
    refine g_get 24 rfl s_280 (Nat.le_of_ble_eq_true rfl) rfl rfl ?_
    refine g_iconst (v := 1) 25 rfl rfl rfl ?_
    refine g_iadd 26 rfl rfl ?_
    refine g_putI 29 rfl s_280 (Nat.le_of_ble_eq_true rfl) (Nat.le_of_ble_eq_true rfl) rfl fs_10_53 rfl ?_
    cases h
    exact g_vret rfl rfl
  · rw [if_neg c1] at h
    refine g_aload_n 10 rfl rfl rfl ?_
    refine g_get 13 rfl s_280 (Nat.le_of_ble_eq_true rfl) rfl rfl ?_
    refine g_aload_n 14 rfl rfl rfl ?_
    refine g_get 17 rfl s_280 (Nat.le_of_ble_eq_true rfl) rfl rfl ?_
    refine g_iload_n 18 rfl rfl rfl ?_
    by_cases i2 : ib (U.1 280 53) 20
    case neg => rw [if_neg i2] at h; cases h
    rw [if_pos i2] at h
    refine g_iast 19 rfl s_312 l_312 i2 rfl ?_
    refine g_aload_n 20 rfl rfl rfl ?_
    refine g_dup 21 rfl rfl rfl ?_
    refine g_get 24 rfl s_280 (Nat.le_of_ble_eq_true rfl) rfl rfl ?_
    refine g_iconst (v := 1) 25 rfl rfl rfl ?_
    refine g_iadd 26 rfl rfl ?_
    refine g_putI 29 rfl s_280 (Nat.le_of_ble_eq_true rfl) (Nat.le_of_ble_eq_true rfl) rfl fs_10_53 rfl ?_
    cases h
    exact g_vret rfl rfl

def f_272_39 (v1 : Int32) (v2 : Int32) (v3 : Int32) (U : sU) : Option (Int32 × sU) :=
  Option.bind (f_271 10 U) fun q1 =>
  if v3 = 5 then
    some ((v2 + v1) ^^^ 5, q1)
  else
    if v3 = 0 then
      some (v2 + v1, q1)
    else
      if v3 = 2 then
        some (v2 + v1, q1)
      else
        some ((v2 + v1) * 3, q1)
set_option maxRecDepth 10000 in
set_option maxHeartbeats 2000000 in
theorem F_272_39 (d : Nat)   (v1 : Int32) (v2 : Int32) (v3 : Int32) {U : sU} {r : Int32} {U' : sU} (h : f_272_39 v1 v2 v3 U = some (r, U')) : G (d + 1) sm_I272 39 [(0, .ref 280), (1, .int v1), (2, .int v2), (3, .int v3)] [] U (some (.int r)) U' := by
  first | rw [f_272_39] at h | rw [f_272_39.eq_def] at h
  refine g_aload_n 40 rfl rfl rfl ?_
  refine g_bipush (v := 10) 42 rfl (by decide) rfl ?_
  obtain ⟨q1, hq1, h⟩ := Option.bind_eq_some_iff.mp h
  refine g_callV (J := sm_I271) 45 rfl (Nat.le_of_ble_eq_true rfl) rfl rfl (Nat.le_of_ble_eq_true rfl) s_280 (Nat.le_of_ble_eq_true rfl) (Nat.le_of_ble_eq_true rfl) rfl rfl (F_271 d 10 hq1) ?_
  refine g_iload_n 46 rfl rfl rfl ?_
  refine g_iload_n 47 rfl rfl rfl ?_
  refine g_iadd 48 rfl rfl ?_
  refine g_istore 50 [(4, .int (v2 + v1)), (0, .ref 280), (1, .int v1), (2, .int v2), (3, .int v3)] rfl (Nat.le_of_ble_eq_true rfl) rfl rfl ?_
  refine g_iload_n 51 rfl rfl rfl ?_
  refine g_iconst (v := 5) 52 rfl rfl rfl ?_
  refine g_icmp_ne 62 55 rfl rfl (fun c2 => ?_) (fun c2 => ?_)
  · rw [if_neg c2] at h
    refine g_iload_n 63 rfl rfl rfl ?_
    refine g_if_eq 71 66 rfl rfl (fun c3 => ?_) (fun c3 => ?_)
    · rw [if_pos c3] at h
      refine g_iload 73 rfl rfl rfl ?_
      refine g_goto 80 rfl ?_
      cases h
      exact g_iret rfl rfl
    · rw [if_neg c3] at h
      refine g_iload_n 67 rfl rfl rfl ?_
      refine g_iconst (v := 2) 68 rfl rfl rfl ?_
      refine g_icmp_ne 76 71 rfl rfl (fun c4 => ?_) (fun c4 => ?_)
      · rw [if_neg c4] at h
        refine g_iload 78 rfl rfl rfl ?_
        refine g_iconst (v := 3) 79 rfl rfl rfl ?_
        refine g_imul 80 rfl rfl ?_
        cases h
        exact g_iret rfl rfl
      · rw [if_pos c4] at h
        refine g_iload 73 rfl rfl rfl ?_
        refine g_goto 80 rfl ?_
        cases h
        exact g_iret rfl rfl
  · rw [if_pos c2] at h
    refine g_iload 57 rfl rfl rfl ?_
    refine g_iconst (v := 5) 58 rfl rfl rfl ?_
    refine g_ixor 59 rfl rfl ?_
    refine g_goto 80 rfl ?_
    cases h
    exact g_iret rfl rfl
def f_272_28 (v1 : Int32) (v2 : Int32) (v3 : Int32) (U : sU) : Option (Int32 × sU) :=
  if v3 = 5 then
    Option.bind (f_271 60 U) fun q6 =>
    f_272_39 v1 v2 v3 q6
  else
    f_272_39 v1 v2 v3 U
set_option maxRecDepth 10000 in
set_option maxHeartbeats 2000000 in
theorem F_272_28 (d : Nat)   (v1 : Int32) (v2 : Int32) (v3 : Int32) {U : sU} {r : Int32} {U' : sU} (h : f_272_28 v1 v2 v3 U = some (r, U')) : G (d + 1) sm_I272 28 [(0, .ref 280), (1, .int v1), (2, .int v2), (3, .int v3)] [] U (some (.int r)) U' := by
  first | rw [f_272_28] at h | rw [f_272_28.eq_def] at h
  refine g_iload_n 29 rfl rfl rfl ?_
  refine g_iconst (v := 5) 30 rfl rfl rfl ?_
  refine g_icmp_ne 39 33 rfl rfl (fun c5 => ?_) (fun c5 => ?_)
  · rw [if_neg c5] at h
    exact g_sub (Sc rfl (Sc rfl (Sc rfl (Sc rfl (Sn _))))) (F_272_39 d v1 v2 v3 h)
  · rw [if_pos c5] at h
    refine g_aload_n 34 rfl rfl rfl ?_
    refine g_bipush (v := 60) 36 rfl (by decide) rfl ?_
    obtain ⟨q6, hq6, h⟩ := Option.bind_eq_some_iff.mp h
    refine g_callV (J := sm_I271) 39 rfl (Nat.le_of_ble_eq_true rfl) rfl rfl (Nat.le_of_ble_eq_true rfl) s_280 (Nat.le_of_ble_eq_true rfl) (Nat.le_of_ble_eq_true rfl) rfl rfl (F_271 d 60 hq6) ?_
    exact g_sub (Sc rfl (Sc rfl (Sc rfl (Sc rfl (Sn _))))) (F_272_39 d v1 v2 v3 h)
def f_272_22 (v1 : Int32) (v2 : Int32) (v3 : Int32) (U : sU) : Option (Int32 × sU) :=
  Option.bind (f_271 20 U) fun q7 =>
  f_272_28 v1 v2 v3 q7
set_option maxRecDepth 10000 in
set_option maxHeartbeats 2000000 in
theorem F_272_22 (d : Nat)   (v1 : Int32) (v2 : Int32) (v3 : Int32) {U : sU} {r : Int32} {U' : sU} (h : f_272_22 v1 v2 v3 U = some (r, U')) : G (d + 1) sm_I272 22 [(0, .ref 280), (1, .int v1), (2, .int v2), (3, .int v3)] [] U (some (.int r)) U' := by
  first | rw [f_272_22] at h | rw [f_272_22.eq_def] at h
  refine g_aload_n 23 rfl rfl rfl ?_
  refine g_bipush (v := 20) 25 rfl (by decide) rfl ?_
  obtain ⟨q7, hq7, h⟩ := Option.bind_eq_some_iff.mp h
  refine g_callV (J := sm_I271) 28 rfl (Nat.le_of_ble_eq_true rfl) rfl rfl (Nat.le_of_ble_eq_true rfl) s_280 (Nat.le_of_ble_eq_true rfl) (Nat.le_of_ble_eq_true rfl) rfl rfl (F_271 d 20 hq7) ?_
  exact g_sub (Sc rfl (Sc rfl (Sc rfl (Sc rfl (Sn _))))) (F_272_28 d v1 v2 v3 h)
def f_272 (x1 : Int32) (x2 : Int32) (U : sU) : Option (Int32 × sU) :=
  if ib x1 12 then
  if (U.1 299 x1.toNatClampNeg) = 1 then
    f_272_22 x1 x2 (U.1 299 x1.toNatClampNeg) U
  else
    if (U.1 299 x1.toNatClampNeg) = 3 then
      f_272_22 x1 x2 (U.1 299 x1.toNatClampNeg) U
    else
      if (U.1 299 x1.toNatClampNeg) = 4 then
        f_272_22 x1 x2 (U.1 299 x1.toNatClampNeg) U
      else
        f_272_28 x1 x2 (U.1 299 x1.toNatClampNeg) U
  else none
set_option maxRecDepth 10000 in
set_option maxHeartbeats 2000000 in
theorem F_272 (d : Nat) (x1 : Int32) (x2 : Int32) {U : sU} {r : Int32} {U' : sU} (h : f_272 x1 x2 U = some (r, U')) : Rn (d + 1) sm_I272 [.ref 280, .int x1, .int x2] U (some (.int r)) U' := by
  refine Rn_of [(0, .ref 280), (1, .int x1), (2, .int x2)] (Nat.le_of_ble_eq_true rfl) (Sc rfl (Sc rfl (Sc rfl (Sn _)))) ?_
  first | rw [f_272] at h | rw [f_272.eq_def] at h
  refine g_aload_n 1 rfl rfl rfl ?_
  refine g_get 4 rfl s_280 (Nat.le_of_ble_eq_true rfl) rfl rfl ?_
  refine g_iload_n 5 rfl rfl rfl ?_
  by_cases i8 : ib x1 12
  case neg => rw [if_neg i8] at h; cases h
  rw [if_pos i8] at h
  refine g_iald 6 rfl s_299 l_299 i8 rfl ?_
  refine g_istore_n 7 [(3, .int (U.1 299 x1.toNatClampNeg)), (0, .ref 280), (1, .int x1), (2, .int x2)] rfl (Nat.le_of_ble_eq_true rfl) rfl rfl ?_
  refine g_iload_n 8 rfl rfl rfl ?_
  refine g_iconst (v := 1) 9 rfl rfl rfl ?_
  refine g_icmp_eq 22 12 rfl rfl (fun c9 => ?_) (fun c9 => ?_)
  · rw [if_pos c9] at h
    exact g_sub (Sc rfl (Sc rfl (Sc rfl (Sc rfl (Sn _))))) (F_272_22 d x1 x2 (U.1 299 x1.toNatClampNeg) h)
  · rw [if_neg c9] at h
    refine g_iload_n 13 rfl rfl rfl ?_
    refine g_iconst (v := 3) 14 rfl rfl rfl ?_
    refine g_icmp_eq 22 17 rfl rfl (fun c10 => ?_) (fun c10 => ?_)
    · rw [if_pos c10] at h
      exact g_sub (Sc rfl (Sc rfl (Sc rfl (Sc rfl (Sn _))))) (F_272_22 d x1 x2 (U.1 299 x1.toNatClampNeg) h)
    · rw [if_neg c10] at h
      refine g_iload_n 18 rfl rfl rfl ?_
      refine g_iconst (v := 4) 19 rfl rfl rfl ?_
      refine g_icmp_ne 28 22 rfl rfl (fun c11 => ?_) (fun c11 => ?_)
      · rw [if_neg c11] at h
        exact g_sub (Sc rfl (Sc rfl (Sc rfl (Sc rfl (Sn _))))) (F_272_28 d x1 x2 (U.1 299 x1.toNatClampNeg) h)
      · rw [if_pos c11] at h
        exact g_sub (Sc rfl (Sc rfl (Sc rfl (Sc rfl (Sn _))))) (F_272_22 d x1 x2 (U.1 299 x1.toNatClampNeg) h)

def f_273_29 (v1 : Int32) (v2 : Int32) (v3 : Int32) (U : sU) : Option (Int32 × sU) :=
  Option.bind (f_271 11 U) fun q1 =>
  Option.bind (f_272 v1 v2 q1) fun q2 =>
  if v3 = 3 then
    some ((q2.1 * 2) - v1, q2.2)
  else
    if v3 = 4 then
      some (-(q2.1 * 2), q2.2)
    else
      some (q2.1 * 2, q2.2)
set_option maxRecDepth 10000 in
set_option maxHeartbeats 2000000 in
theorem F_273_29 (d : Nat)   (v1 : Int32) (v2 : Int32) (v3 : Int32) {U : sU} {r : Int32} {U' : sU} (h : f_273_29 v1 v2 v3 U = some (r, U')) : G (d + 2) sm_I273 29 [(0, .ref 280), (1, .int v1), (2, .int v2), (3, .int v3)] [] U (some (.int r)) U' := by
  first | rw [f_273_29] at h | rw [f_273_29.eq_def] at h
  refine g_aload_n 30 rfl rfl rfl ?_
  refine g_bipush (v := 11) 32 rfl (by decide) rfl ?_
  obtain ⟨q1, hq1, h⟩ := Option.bind_eq_some_iff.mp h
  refine g_callV (J := sm_I271) 35 rfl (Nat.le_of_ble_eq_true rfl) rfl rfl (Nat.le_of_ble_eq_true rfl) s_280 (Nat.le_of_ble_eq_true rfl) (Nat.le_of_ble_eq_true rfl) rfl rfl (F_271 (d + 1) 11 hq1) ?_
  refine g_aload_n 36 rfl rfl rfl ?_
  refine g_iload_n 37 rfl rfl rfl ?_
  refine g_iload_n 38 rfl rfl rfl ?_
  obtain ⟨q2, hq2, h⟩ := Option.bind_eq_some_iff.mp h
  refine g_callV (J := sm_I272) 41 rfl (Nat.le_of_ble_eq_true rfl) rfl rfl (Nat.le_of_ble_eq_true rfl) s_280 (Nat.le_of_ble_eq_true rfl) (Nat.le_of_ble_eq_true rfl) rfl rfl (F_272 d v1 v2 hq2) ?_
  refine g_iconst (v := 2) 42 rfl rfl rfl ?_
  refine g_imul 43 rfl rfl ?_
  refine g_istore 45 [(4, .int (q2.1 * 2)), (0, .ref 280), (1, .int v1), (2, .int v2), (3, .int v3)] rfl (Nat.le_of_ble_eq_true rfl) rfl rfl ?_
  refine g_iload_n 46 rfl rfl rfl ?_
  refine g_iconst (v := 3) 47 rfl rfl rfl ?_
  refine g_icmp_ne 57 50 rfl rfl (fun c3 => ?_) (fun c3 => ?_)
  · rw [if_neg c3] at h
    refine g_iload_n 58 rfl rfl rfl ?_
    refine g_iconst (v := 4) 59 rfl rfl rfl ?_
    refine g_icmp_ne 68 62 rfl rfl (fun c4 => ?_) (fun c4 => ?_)
    · rw [if_neg c4] at h
      refine g_iload 70 rfl rfl rfl ?_
      cases h
      exact g_iret rfl rfl
    · rw [if_pos c4] at h
      refine g_iload 64 rfl rfl rfl ?_
      refine g_ineg 65 rfl rfl ?_
      refine g_goto 70 rfl ?_
      cases h
      exact g_iret rfl rfl
  · rw [if_pos c3] at h
    refine g_iload 52 rfl rfl rfl ?_
    refine g_iload_n 53 rfl rfl rfl ?_
    refine g_isub 54 rfl rfl ?_
    refine g_goto 70 rfl ?_
    cases h
    exact g_iret rfl rfl
def f_273_18 (v1 : Int32) (v2 : Int32) (v3 : Int32) (U : sU) : Option (Int32 × sU) :=
  if v3 = 4 then
    Option.bind (f_271 41 U) fun q6 =>
    f_273_29 v1 v2 v3 q6
  else
    f_273_29 v1 v2 v3 U
set_option maxRecDepth 10000 in
set_option maxHeartbeats 2000000 in
theorem F_273_18 (d : Nat)   (v1 : Int32) (v2 : Int32) (v3 : Int32) {U : sU} {r : Int32} {U' : sU} (h : f_273_18 v1 v2 v3 U = some (r, U')) : G (d + 2) sm_I273 18 [(0, .ref 280), (1, .int v1), (2, .int v2), (3, .int v3)] [] U (some (.int r)) U' := by
  first | rw [f_273_18] at h | rw [f_273_18.eq_def] at h
  refine g_iload_n 19 rfl rfl rfl ?_
  refine g_iconst (v := 4) 20 rfl rfl rfl ?_
  refine g_icmp_ne 29 23 rfl rfl (fun c5 => ?_) (fun c5 => ?_)
  · rw [if_neg c5] at h
    exact g_sub (Sc rfl (Sc rfl (Sc rfl (Sc rfl (Sn _))))) (F_273_29 d v1 v2 v3 h)
  · rw [if_pos c5] at h
    refine g_aload_n 24 rfl rfl rfl ?_
    refine g_bipush (v := 41) 26 rfl (by decide) rfl ?_
    obtain ⟨q6, hq6, h⟩ := Option.bind_eq_some_iff.mp h
    refine g_callV (J := sm_I271) 29 rfl (Nat.le_of_ble_eq_true rfl) rfl rfl (Nat.le_of_ble_eq_true rfl) s_280 (Nat.le_of_ble_eq_true rfl) (Nat.le_of_ble_eq_true rfl) rfl rfl (F_271 (d + 1) 41 hq6) ?_
    exact g_sub (Sc rfl (Sc rfl (Sc rfl (Sc rfl (Sn _))))) (F_273_29 d v1 v2 v3 h)
def f_273 (x1 : Int32) (x2 : Int32) (U : sU) : Option (Int32 × sU) :=
  if ib x1 12 then
  if (U.1 299 x1.toNatClampNeg) = 3 then
    Option.bind (f_271 30 U) fun q9 =>
    f_273_18 x1 x2 (U.1 299 x1.toNatClampNeg) q9
  else
    f_273_18 x1 x2 (U.1 299 x1.toNatClampNeg) U
  else none
set_option maxRecDepth 10000 in
set_option maxHeartbeats 2000000 in
theorem F_273 (d : Nat) (x1 : Int32) (x2 : Int32) {U : sU} {r : Int32} {U' : sU} (h : f_273 x1 x2 U = some (r, U')) : Rn (d + 2) sm_I273 [.ref 280, .int x1, .int x2] U (some (.int r)) U' := by
  refine Rn_of [(0, .ref 280), (1, .int x1), (2, .int x2)] (Nat.le_of_ble_eq_true rfl) (Sc rfl (Sc rfl (Sc rfl (Sn _)))) ?_
  first | rw [f_273] at h | rw [f_273.eq_def] at h
  refine g_aload_n 1 rfl rfl rfl ?_
  refine g_get 4 rfl s_280 (Nat.le_of_ble_eq_true rfl) rfl rfl ?_
  refine g_iload_n 5 rfl rfl rfl ?_
  by_cases i7 : ib x1 12
  case neg => rw [if_neg i7] at h; cases h
  rw [if_pos i7] at h
  refine g_iald 6 rfl s_299 l_299 i7 rfl ?_
  refine g_istore_n 7 [(3, .int (U.1 299 x1.toNatClampNeg)), (0, .ref 280), (1, .int x1), (2, .int x2)] rfl (Nat.le_of_ble_eq_true rfl) rfl rfl ?_
  refine g_iload_n 8 rfl rfl rfl ?_
  refine g_iconst (v := 3) 9 rfl rfl rfl ?_
  refine g_icmp_ne 18 12 rfl rfl (fun c8 => ?_) (fun c8 => ?_)
  · rw [if_neg c8] at h
    exact g_sub (Sc rfl (Sc rfl (Sc rfl (Sc rfl (Sn _))))) (F_273_18 d x1 x2 (U.1 299 x1.toNatClampNeg) h)
  · rw [if_pos c8] at h
    refine g_aload_n 13 rfl rfl rfl ?_
    refine g_bipush (v := 30) 15 rfl (by decide) rfl ?_
    obtain ⟨q9, hq9, h⟩ := Option.bind_eq_some_iff.mp h
    refine g_callV (J := sm_I271) 18 rfl (Nat.le_of_ble_eq_true rfl) rfl rfl (Nat.le_of_ble_eq_true rfl) s_280 (Nat.le_of_ble_eq_true rfl) (Nat.le_of_ble_eq_true rfl) rfl rfl (F_271 (d + 1) 30 hq9) ?_
    exact g_sub (Sc rfl (Sc rfl (Sc rfl (Sc rfl (Sn _))))) (F_273_18 d x1 x2 (U.1 299 x1.toNatClampNeg) h)

def f_274_62 (v1 : Int32) (v3 : Int32) (v4 : Int32) (v5 : Int32) (U : sU) : Option (Int32 × sU) :=
  Option.bind (f_271 12 U) fun q1 =>
  Option.bind (f_273 v1 v5 q1) fun q2 =>
  Option.bind (f_272 v1 (v5 - v4) q2.2) fun q3 =>
  if v3 = 2 then
    some ((q2.1 ^^^ q3.1) + v4, q3.2)
  else
    if v3 = 5 then
      some ((q2.1 ^^^ q3.1) * 2, q3.2)
    else
      some (q2.1 ^^^ q3.1, q3.2)
set_option maxRecDepth 10000 in
set_option maxHeartbeats 2000000 in
theorem F_274_62 (d : Nat)   (v1 : Int32) (v3 : Int32) (v4 : Int32) (v5 : Int32) {U : sU} {r : Int32} {U' : sU} (h : f_274_62 v1 v3 v4 v5 U = some (r, U')) : G (d + 3) sm_I274 62 [(0, .ref 280), (1, .int v1), (3, .int v3), (4, .int v4), (5, .int v5)] [] U (some (.int r)) U' := by
  first | rw [f_274_62] at h | rw [f_274_62.eq_def] at h
  refine g_aload_n 63 rfl rfl rfl ?_
  refine g_bipush (v := 12) 65 rfl (by decide) rfl ?_
  obtain ⟨q1, hq1, h⟩ := Option.bind_eq_some_iff.mp h
  refine g_callV (J := sm_I271) 68 rfl (Nat.le_of_ble_eq_true rfl) rfl rfl (Nat.le_of_ble_eq_true rfl) s_280 (Nat.le_of_ble_eq_true rfl) (Nat.le_of_ble_eq_true rfl) rfl rfl (F_271 (d + 2) 12 hq1) ?_
  refine g_aload_n 69 rfl rfl rfl ?_
  refine g_iload_n 70 rfl rfl rfl ?_
  refine g_iload 72 rfl rfl rfl ?_
  obtain ⟨q2, hq2, h⟩ := Option.bind_eq_some_iff.mp h
  refine g_callV (J := sm_I273) 75 rfl (Nat.le_of_ble_eq_true rfl) rfl rfl (Nat.le_of_ble_eq_true rfl) s_280 (Nat.le_of_ble_eq_true rfl) (Nat.le_of_ble_eq_true rfl) rfl rfl (F_273 d v1 v5 hq2) ?_
  refine g_istore 77 [(6, .int q2.1), (0, .ref 280), (1, .int v1), (3, .int v3), (4, .int v4), (5, .int v5)] rfl (Nat.le_of_ble_eq_true rfl) rfl rfl ?_
  refine g_iload 79 rfl rfl rfl ?_
  refine g_aload_n 80 rfl rfl rfl ?_
  refine g_iload_n 81 rfl rfl rfl ?_
  refine g_iload 83 rfl rfl rfl ?_
  refine g_iload 85 rfl rfl rfl ?_
  refine g_isub 86 rfl rfl ?_
  obtain ⟨q3, hq3, h⟩ := Option.bind_eq_some_iff.mp h
  refine g_callV (J := sm_I272) 89 rfl (Nat.le_of_ble_eq_true rfl) rfl rfl (Nat.le_of_ble_eq_true rfl) s_280 (Nat.le_of_ble_eq_true rfl) (Nat.le_of_ble_eq_true rfl) rfl rfl (F_272 (d + 1) v1 (v5 - v4) hq3) ?_
  refine g_ixor 90 rfl rfl ?_
  refine g_istore 92 [(7, .int (q2.1 ^^^ q3.1)), (6, .int q2.1), (0, .ref 280), (1, .int v1), (3, .int v3), (4, .int v4), (5, .int v5)] rfl (Nat.le_of_ble_eq_true rfl) rfl rfl ?_
  refine g_iload_n 93 rfl rfl rfl ?_
  refine g_iconst (v := 2) 94 rfl rfl rfl ?_
  refine g_icmp_ne 105 97 rfl rfl (fun c4 => ?_) (fun c4 => ?_)
  · rw [if_neg c4] at h
    refine g_iload_n 106 rfl rfl rfl ?_
    refine g_iconst (v := 5) 107 rfl rfl rfl ?_
    refine g_icmp_ne 117 110 rfl rfl (fun c5 => ?_) (fun c5 => ?_)
    · rw [if_neg c5] at h
      refine g_iload 119 rfl rfl rfl ?_
      cases h
      exact g_iret rfl rfl
    · rw [if_pos c5] at h
      refine g_iload 112 rfl rfl rfl ?_
      refine g_iconst (v := 2) 113 rfl rfl rfl ?_
      refine g_imul 114 rfl rfl ?_
      refine g_goto 119 rfl ?_
      cases h
      exact g_iret rfl rfl
  · rw [if_pos c4] at h
    refine g_iload 99 rfl rfl rfl ?_
    refine g_iload 101 rfl rfl rfl ?_
    refine g_iadd 102 rfl rfl ?_
    refine g_goto 119 rfl ?_
    cases h
    exact g_iret rfl rfl
def f_274_51 (v1 : Int32) (v3 : Int32) (v4 : Int32) (v5 : Int32) (U : sU) : Option (Int32 × sU) :=
  if v3 = 5 then
    Option.bind (f_271 61 U) fun q7 =>
    f_274_62 v1 v3 v4 v5 q7
  else
    f_274_62 v1 v3 v4 v5 U
set_option maxRecDepth 10000 in
set_option maxHeartbeats 2000000 in
theorem F_274_51 (d : Nat)   (v1 : Int32) (v3 : Int32) (v4 : Int32) (v5 : Int32) {U : sU} {r : Int32} {U' : sU} (h : f_274_51 v1 v3 v4 v5 U = some (r, U')) : G (d + 3) sm_I274 51 [(0, .ref 280), (1, .int v1), (3, .int v3), (4, .int v4), (5, .int v5)] [] U (some (.int r)) U' := by
  first | rw [f_274_51] at h | rw [f_274_51.eq_def] at h
  refine g_iload_n 52 rfl rfl rfl ?_
  refine g_iconst (v := 5) 53 rfl rfl rfl ?_
  refine g_icmp_ne 62 56 rfl rfl (fun c6 => ?_) (fun c6 => ?_)
  · rw [if_neg c6] at h
    exact g_sub (Sc rfl (Sc rfl (Sc rfl (Sc rfl (Sc rfl (Sn _)))))) (F_274_62 d v1 v3 v4 v5 h)
  · rw [if_pos c6] at h
    refine g_aload_n 57 rfl rfl rfl ?_
    refine g_bipush (v := 61) 59 rfl (by decide) rfl ?_
    obtain ⟨q7, hq7, h⟩ := Option.bind_eq_some_iff.mp h
    refine g_callV (J := sm_I271) 62 rfl (Nat.le_of_ble_eq_true rfl) rfl rfl (Nat.le_of_ble_eq_true rfl) s_280 (Nat.le_of_ble_eq_true rfl) (Nat.le_of_ble_eq_true rfl) rfl rfl (F_271 (d + 2) 61 hq7) ?_
    exact g_sub (Sc rfl (Sc rfl (Sc rfl (Sc rfl (Sc rfl (Sn _)))))) (F_274_62 d v1 v3 v4 v5 h)
def f_274_40 (v1 : Int32) (v3 : Int32) (v4 : Int32) (v5 : Int32) (U : sU) : Option (Int32 × sU) :=
  if v3 = 2 then
    Option.bind (f_271 50 U) fun q9 =>
    f_274_51 v1 v3 v4 v5 q9
  else
    f_274_51 v1 v3 v4 v5 U
set_option maxRecDepth 10000 in
set_option maxHeartbeats 2000000 in
theorem F_274_40 (d : Nat)   (v1 : Int32) (v3 : Int32) (v4 : Int32) (v5 : Int32) {U : sU} {r : Int32} {U' : sU} (h : f_274_40 v1 v3 v4 v5 U = some (r, U')) : G (d + 3) sm_I274 40 [(0, .ref 280), (1, .int v1), (3, .int v3), (4, .int v4), (5, .int v5)] [] U (some (.int r)) U' := by
  first | rw [f_274_40] at h | rw [f_274_40.eq_def] at h
  refine g_iload_n 41 rfl rfl rfl ?_
  refine g_iconst (v := 2) 42 rfl rfl rfl ?_
  refine g_icmp_ne 51 45 rfl rfl (fun c8 => ?_) (fun c8 => ?_)
  · rw [if_neg c8] at h
    exact g_sub (Sc rfl (Sc rfl (Sc rfl (Sc rfl (Sc rfl (Sn _)))))) (F_274_51 d v1 v3 v4 v5 h)
  · rw [if_pos c8] at h
    refine g_aload_n 46 rfl rfl rfl ?_
    refine g_bipush (v := 50) 48 rfl (by decide) rfl ?_
    obtain ⟨q9, hq9, h⟩ := Option.bind_eq_some_iff.mp h
    refine g_callV (J := sm_I271) 51 rfl (Nat.le_of_ble_eq_true rfl) rfl rfl (Nat.le_of_ble_eq_true rfl) s_280 (Nat.le_of_ble_eq_true rfl) (Nat.le_of_ble_eq_true rfl) rfl rfl (F_271 (d + 2) 50 hq9) ?_
    exact g_sub (Sc rfl (Sc rfl (Sc rfl (Sc rfl (Sc rfl (Sn _)))))) (F_274_51 d v1 v3 v4 v5 h)
def f_274_27 (v1 : Int32) (v3 : Int32) (v4 : Int32) (z0 : Int32) (U : sU) : Option (Int32 × sU) :=
  if v3 = 4 then
    Option.bind (f_271 40 U) fun q11 =>
    f_274_40 v1 v3 v4 z0 q11
  else
    f_274_40 v1 v3 v4 z0 U
set_option maxRecDepth 10000 in
set_option maxHeartbeats 2000000 in
theorem F_274_27 (d : Nat)   (v1 : Int32) (v3 : Int32) (v4 : Int32) (z0 : Int32) {U : sU} {r : Int32} {U' : sU} (h : f_274_27 v1 v3 v4 z0 U = some (r, U')) : G (d + 3) sm_I274 27 [(0, .ref 280), (1, .int v1), (3, .int v3), (4, .int v4)] [.int z0] U (some (.int r)) U' := by
  first | rw [f_274_27] at h | rw [f_274_27.eq_def] at h
  refine g_istore 29 [(5, .int z0), (0, .ref 280), (1, .int v1), (3, .int v3), (4, .int v4)] rfl (Nat.le_of_ble_eq_true rfl) rfl rfl ?_
  refine g_iload_n 30 rfl rfl rfl ?_
  refine g_iconst (v := 4) 31 rfl rfl rfl ?_
  refine g_icmp_ne 40 34 rfl rfl (fun c10 => ?_) (fun c10 => ?_)
  · rw [if_neg c10] at h
    exact g_sub (Sc rfl (Sc rfl (Sc rfl (Sc rfl (Sc rfl (Sn _)))))) (F_274_40 d v1 v3 v4 z0 h)
  · rw [if_pos c10] at h
    refine g_aload_n 35 rfl rfl rfl ?_
    refine g_bipush (v := 40) 37 rfl (by decide) rfl ?_
    obtain ⟨q11, hq11, h⟩ := Option.bind_eq_some_iff.mp h
    refine g_callV (J := sm_I271) 40 rfl (Nat.le_of_ble_eq_true rfl) rfl rfl (Nat.le_of_ble_eq_true rfl) s_280 (Nat.le_of_ble_eq_true rfl) (Nat.le_of_ble_eq_true rfl) rfl rfl (F_271 (d + 2) 40 hq11) ?_
    exact g_sub (Sc rfl (Sc rfl (Sc rfl (Sc rfl (Sc rfl (Sn _)))))) (F_274_40 d v1 v3 v4 z0 h)
def f_274 (x1 : Int32) (x2 : Int32) (U : sU) : Option (Int32 × sU) :=
  if ib x1 12 then
  if ib x1 12 then
  if (U.1 299 x1.toNatClampNeg) = 4 then
    f_274_27 x1 (U.1 299 x1.toNatClampNeg) (U.1 298 x1.toNatClampNeg) (x2 + 1) U
  else
    f_274_27 x1 (U.1 299 x1.toNatClampNeg) (U.1 298 x1.toNatClampNeg) x2 U
  else none
  else none
set_option maxRecDepth 10000 in
set_option maxHeartbeats 2000000 in
theorem F_274 (d : Nat) (x1 : Int32) (x2 : Int32) {U : sU} {r : Int32} {U' : sU} (h : f_274 x1 x2 U = some (r, U')) : Rn (d + 3) sm_I274 [.ref 280, .int x1, .int x2] U (some (.int r)) U' := by
  refine Rn_of [(0, .ref 280), (1, .int x1), (2, .int x2)] (Nat.le_of_ble_eq_true rfl) (Sc rfl (Sc rfl (Sc rfl (Sn _)))) ?_
  first | rw [f_274] at h | rw [f_274.eq_def] at h
  refine g_aload_n 1 rfl rfl rfl ?_
  refine g_get 4 rfl s_280 (Nat.le_of_ble_eq_true rfl) rfl rfl ?_
  refine g_iload_n 5 rfl rfl rfl ?_
  by_cases i12 : ib x1 12
  case neg => rw [if_neg i12] at h; cases h
  rw [if_pos i12] at h
  refine g_iald 6 rfl s_299 l_299 i12 rfl ?_
  refine g_istore_n 7 [(3, .int (U.1 299 x1.toNatClampNeg)), (0, .ref 280), (1, .int x1), (2, .int x2)] rfl (Nat.le_of_ble_eq_true rfl) rfl rfl ?_
  refine g_aload_n 8 rfl rfl rfl ?_
  refine g_get 11 rfl s_280 (Nat.le_of_ble_eq_true rfl) rfl rfl ?_
  refine g_iload_n 12 rfl rfl rfl ?_
  by_cases i13 : ib x1 12
  case neg => rw [if_neg i13] at h; cases h
  rw [if_pos i13] at h
  refine g_iald 13 rfl s_298 l_298 i13 rfl ?_
  refine g_istore 15 [(4, .int (U.1 298 x1.toNatClampNeg)), (3, .int (U.1 299 x1.toNatClampNeg)), (0, .ref 280), (1, .int x1), (2, .int x2)] rfl (Nat.le_of_ble_eq_true rfl) rfl rfl ?_
  refine g_iload_n 16 rfl rfl rfl ?_
  refine g_iconst (v := 4) 17 rfl rfl rfl ?_
  refine g_icmp_ne 26 20 rfl rfl (fun c14 => ?_) (fun c14 => ?_)
  · rw [if_neg c14] at h
    refine g_iload_n 27 rfl rfl rfl ?_
    exact g_sub (Sc rfl (Sc rfl (Sc rfl (Sc rfl (Sn _))))) (F_274_27 d x1 (U.1 299 x1.toNatClampNeg) (U.1 298 x1.toNatClampNeg) x2 h)
  · rw [if_pos c14] at h
    refine g_iload_n 21 rfl rfl rfl ?_
    refine g_iconst (v := 1) 22 rfl rfl rfl ?_
    refine g_iadd 23 rfl rfl ?_
    refine g_goto 27 rfl ?_
    exact g_sub (Sc rfl (Sc rfl (Sc rfl (Sc rfl (Sn _))))) (F_274_27 d x1 (U.1 299 x1.toNatClampNeg) (U.1 298 x1.toNatClampNeg) (x2 + 1) h)

def f_275 (x1 : Int32) (x2 : Int32) (x3 : Int32) (U : sU) : Option (Int32 × sU) :=
  if (f_180 x1 (sI U 280 53 0)) = 0 then
    some (0, sI U 280 53 0)
  else
    if x2 < 0 then
      some (0, sI U 280 53 0)
    else
      if x2 ≤ 2 then
        if x2 = 0 then
          Option.bind (f_272 x1 x3 (sI U 280 53 0)) fun q9 =>
          some (q9.1, q9.2)
        else
          if x2 = 1 then
            Option.bind (f_273 x1 x3 (sI U 280 53 0)) fun q8 =>
            some (q8.1, q8.2)
          else
            Option.bind (f_274 x1 x3 (sI U 280 53 0)) fun q7 =>
            some (q7.1, q7.2)
      else
        some (0, sI U 280 53 0)
set_option maxRecDepth 10000 in
set_option maxHeartbeats 2000000 in
theorem F_275 (d : Nat) (x1 : Int32) (x2 : Int32) (x3 : Int32) {U : sU} {r : Int32} {U' : sU} (h : f_275 x1 x2 x3 U = some (r, U')) : Rn (d + 4) sm_I275 [.ref 280, .int x1, .int x2, .int x3] U (some (.int r)) U' := by
  refine Rn_of [(0, .ref 280), (1, .int x1), (2, .int x2), (3, .int x3)] (Nat.le_of_ble_eq_true rfl) (Sc rfl (Sc rfl (Sc rfl (Sc rfl (Sn _))))) ?_
  first | rw [f_275] at h | rw [f_275.eq_def] at h
  refine g_aload_n 1 rfl rfl rfl ?_
  refine g_iconst (v := 0) 2 rfl rfl rfl ?_
  refine g_putI 5 rfl s_280 (Nat.le_of_ble_eq_true rfl) (Nat.le_of_ble_eq_true rfl) rfl fs_10_53 rfl ?_
  refine g_aload_n 6 rfl rfl rfl ?_
  refine g_iload_n 7 rfl rfl rfl ?_
  have r1 := F_180 (d + 3) x1 (sI U 280 53 0)
  refine g_callV (J := sm_I180) 10 rfl (Nat.le_of_ble_eq_true rfl) rfl rfl (Nat.le_of_ble_eq_true rfl) s_280 (Nat.le_of_ble_eq_true rfl) (Nat.le_of_ble_eq_true rfl) rfl rfl r1 ?_
  refine g_if_eq 22 13 rfl rfl (fun c2 => ?_) (fun c2 => ?_)
  · rw [if_pos c2] at h
    refine g_iconst (v := 0) 23 rfl rfl rfl ?_
    cases h
    exact g_iret rfl rfl
  · rw [if_neg c2] at h
    refine g_iload_n 14 rfl rfl rfl ?_
    refine g_if_lt 22 17 rfl rfl (fun c3 => ?_) (fun c3 => ?_)
    · rw [if_pos c3] at h
      refine g_iconst (v := 0) 23 rfl rfl rfl ?_
      cases h
      exact g_iret rfl rfl
    · rw [if_neg c3] at h
      refine g_iload_n 18 rfl rfl rfl ?_
      refine g_iconst (v := 2) 19 rfl rfl rfl ?_
      refine g_icmp_le 24 22 rfl rfl (fun c4 => ?_) (fun c4 => ?_)
      · rw [if_pos c4] at h
        refine g_iload_n 25 rfl rfl rfl ?_
        refine g_if_ne 37 28 rfl rfl (fun c5 => ?_) (fun c5 => ?_)
        · rw [if_neg c5] at h
          refine g_iload_n 38 rfl rfl rfl ?_
          refine g_iconst (v := 1) 39 rfl rfl rfl ?_
          refine g_icmp_ne 51 42 rfl rfl (fun c6 => ?_) (fun c6 => ?_)
          · rw [if_neg c6] at h
            refine g_aload_n 52 rfl rfl rfl ?_
            refine g_iload_n 53 rfl rfl rfl ?_
            refine g_iload_n 54 rfl rfl rfl ?_
            obtain ⟨q7, hq7, h⟩ := Option.bind_eq_some_iff.mp h
            refine g_callV (J := sm_I274) 57 rfl (Nat.le_of_ble_eq_true rfl) rfl rfl (Nat.le_of_ble_eq_true rfl) s_280 (Nat.le_of_ble_eq_true rfl) (Nat.le_of_ble_eq_true rfl) rfl rfl (F_274 d x1 x3 hq7) ?_
            cases h
            exact g_iret rfl rfl
          · rw [if_pos c6] at h
            refine g_aload_n 43 rfl rfl rfl ?_
            refine g_iload_n 44 rfl rfl rfl ?_
            refine g_iload_n 45 rfl rfl rfl ?_
            obtain ⟨q8, hq8, h⟩ := Option.bind_eq_some_iff.mp h
            refine g_callV (J := sm_I273) 48 rfl (Nat.le_of_ble_eq_true rfl) rfl rfl (Nat.le_of_ble_eq_true rfl) s_280 (Nat.le_of_ble_eq_true rfl) (Nat.le_of_ble_eq_true rfl) rfl rfl (F_273 (d + 1) x1 x3 hq8) ?_
            refine g_goto 57 rfl ?_
            cases h
            exact g_iret rfl rfl
        · rw [if_pos c5] at h
          refine g_aload_n 29 rfl rfl rfl ?_
          refine g_iload_n 30 rfl rfl rfl ?_
          refine g_iload_n 31 rfl rfl rfl ?_
          obtain ⟨q9, hq9, h⟩ := Option.bind_eq_some_iff.mp h
          refine g_callV (J := sm_I272) 34 rfl (Nat.le_of_ble_eq_true rfl) rfl rfl (Nat.le_of_ble_eq_true rfl) s_280 (Nat.le_of_ble_eq_true rfl) (Nat.le_of_ble_eq_true rfl) rfl rfl (F_272 (d + 2) x1 x3 hq9) ?_
          refine g_goto 57 rfl ?_
          cases h
          exact g_iret rfl rfl
      · rw [if_neg c4] at h
        refine g_iconst (v := 0) 23 rfl rfl rfl ?_
        cases h
        exact g_iret rfl rfl

def f_276 (x1 : Int32) (U : sU) : Option Int32 :=
  if x1 < 0 then
    some ((-1))
  else
    if 20 ≤ x1 then
      some ((-1))
    else
      if (U.1 280 53) ≤ x1 then
        some ((-1))
      else
        if ib x1 20 then
        some (U.1 312 x1.toNatClampNeg)
        else none
set_option maxRecDepth 10000 in
set_option maxHeartbeats 2000000 in
theorem F_276 (d : Nat) (x1 : Int32) {U : sU} {r : Int32} (h : f_276 x1 U = some r) : Rn (d + 0) sm_I276 [.ref 280, .int x1] U (some (.int r)) U := by
  refine Rn_of [(0, .ref 280), (1, .int x1)] (Nat.le_of_ble_eq_true rfl) (Sc rfl (Sc rfl (Sn _))) ?_
  first | rw [f_276] at h | rw [f_276.eq_def] at h
  refine g_iload_n 1 rfl rfl rfl ?_
  refine g_if_lt 27 4 rfl rfl (fun c1 => ?_) (fun c1 => ?_)
  · rw [if_pos c1] at h
    refine g_iconst (v := (-1)) 28 rfl rfl rfl ?_
    cases h
    exact g_iret rfl rfl
  · rw [if_neg c1] at h
    refine g_iload_n 5 rfl rfl rfl ?_
    refine g_bipush (v := 20) 7 rfl (by decide) rfl ?_
    refine g_icmp_ge 27 10 rfl rfl (fun c2 => ?_) (fun c2 => ?_)
    · rw [if_pos c2] at h
      refine g_iconst (v := (-1)) 28 rfl rfl rfl ?_
      cases h
      exact g_iret rfl rfl
    · rw [if_neg c2] at h
      refine g_iload_n 11 rfl rfl rfl ?_
      refine g_aload_n 12 rfl rfl rfl ?_
      refine g_get 15 rfl s_280 (Nat.le_of_ble_eq_true rfl) rfl rfl ?_
      refine g_icmp_ge 27 18 rfl rfl (fun c3 => ?_) (fun c3 => ?_)
      · rw [if_pos c3] at h
        refine g_iconst (v := (-1)) 28 rfl rfl rfl ?_
        cases h
        exact g_iret rfl rfl
      · rw [if_neg c3] at h
        refine g_aload_n 19 rfl rfl rfl ?_
        refine g_get 22 rfl s_280 (Nat.le_of_ble_eq_true rfl) rfl rfl ?_
        refine g_iload_n 23 rfl rfl rfl ?_
        by_cases i4 : ib x1 20
        case neg => rw [if_neg i4] at h; cases h
        rw [if_pos i4] at h
        refine g_iald 24 rfl s_312 l_312 i4 rfl ?_
        refine g_goto 28 rfl ?_
        cases h
        exact g_iret rfl rfl

def f_277_3 : Nat → Nat → Int32 → Int32 → Int32 → Int32 → sU → Option (Int32 × sU)
  | 0, _, _, _, _, _, _ => none
  | n + 1, v1, v2, v3, v4, v5, U =>
    if v2 ≤ v5 then
      some (v3 + v2, U)
    else
      if v4 = 0 then
        if ib v5 (ln v1) then
        if ib (v3 + v5) 724 then
        f_277_3 n v1 v2 v3 v4 (v5 + 1) (sI U 313 (v3 + v5).toNatClampNeg (U.1 v1 v5.toNatClampNeg))
        else none
        else none
      else
        if ib (v3 + v5) 724 then
        if ib v5 (ln v1) then
        f_277_3 n v1 v2 v3 v4 (v5 + 1) (sI U v1 v5.toNatClampNeg (U.1 313 (v3 + v5).toNatClampNeg))
        else none
        else none
set_option maxRecDepth 10000 in
set_option maxHeartbeats 2000000 in
theorem F_277_3 (d : Nat)   : ∀ (n : Nat) (v1 : Nat) (hv1 : sh v1 = 11) (v2 : Int32) (v3 : Int32) (v4 : Int32) (v5 : Int32) (U : sU) (r : Int32) (U' : sU), f_277_3 n v1 v2 v3 v4 v5 U = some (r, U') → G (d + 0) sm_I277 3 [(0, .ref 280), (1, .ref v1), (2, .int v2), (3, .int v3), (4, .int v4), (5, .int v5)] [] U (some (.int r)) U' := by
  intro n
  induction n with
  | zero => intro v1 hv1 v2 v3 v4 v5 U r U' h; cases h
  | succ n ih =>
    intro v1 hv1 v2 v3 v4 v5 U r U' h
    first | rw [f_277_3] at h | (rw [f_277_3.eq_def] at h; dsimp only at h)
    refine g_iload 5 rfl rfl rfl ?_
    refine g_iload_n 6 rfl rfl rfl ?_
    refine g_icmp_ge 49 9 rfl rfl (fun c1 => ?_) (fun c1 => ?_)
    · rw [if_pos c1] at h
      refine g_iload_n 50 rfl rfl rfl ?_
      refine g_iload_n 51 rfl rfl rfl ?_
      refine g_iadd 52 rfl rfl ?_
      cases h
      exact g_iret rfl rfl
    · rw [if_neg c1] at h
      refine g_iload 11 rfl rfl rfl ?_
      refine g_if_eq 30 14 rfl rfl (fun c2 => ?_) (fun c2 => ?_)
      · rw [if_pos c2] at h
        refine g_aload_n 31 rfl rfl rfl ?_
        refine g_get 34 rfl s_280 (Nat.le_of_ble_eq_true rfl) rfl rfl ?_
        refine g_iload_n 35 rfl rfl rfl ?_
        refine g_iload 37 rfl rfl rfl ?_
        refine g_iadd 38 rfl rfl ?_
        refine g_aload_n 39 rfl rfl rfl ?_
        refine g_iload 41 rfl rfl rfl ?_
        by_cases i3 : ib v5 (ln v1)
        case neg => rw [if_neg i3] at h; cases h
        rw [if_pos i3] at h
        refine g_iald 42 rfl hv1 rfl i3 rfl ?_
        by_cases i4 : ib (v3 + v5) 724
        case neg => rw [if_neg i4] at h; cases h
        rw [if_pos i4] at h
        refine g_iast 43 rfl s_313 l_313 i4 rfl ?_
        refine g_iinc (v := v5 + 1) 46 [(5, .int (v5 + 1)), (0, .ref 280), (1, .ref v1), (2, .int v2), (3, .int v3), (4, .int v4)] rfl rfl (Nat.le_of_ble_eq_true rfl) rfl rfl rfl ?_
        refine g_goto 3 rfl ?_
        exact g_sub (Sc rfl (Sc rfl (Sc rfl (Sc rfl (Sc rfl (Sc rfl (Sn _))))))) (ih v1 hv1 v2 v3 v4 (v5 + 1) _ _ _ h)
      · rw [if_neg c2] at h
        refine g_aload_n 15 rfl rfl rfl ?_
        refine g_iload 17 rfl rfl rfl ?_
        refine g_aload_n 18 rfl rfl rfl ?_
        refine g_get 21 rfl s_280 (Nat.le_of_ble_eq_true rfl) rfl rfl ?_
        refine g_iload_n 22 rfl rfl rfl ?_
        refine g_iload 24 rfl rfl rfl ?_
        refine g_iadd 25 rfl rfl ?_
        by_cases i5 : ib (v3 + v5) 724
        case neg => rw [if_neg i5] at h; cases h
        rw [if_pos i5] at h
        refine g_iald 26 rfl s_313 l_313 i5 rfl ?_
        by_cases i6 : ib v5 (ln v1)
        case neg => rw [if_neg i6] at h; cases h
        rw [if_pos i6] at h
        refine g_iast 27 rfl hv1 rfl i6 rfl ?_
        refine g_goto 43 rfl ?_
        refine g_iinc (v := v5 + 1) 46 [(5, .int (v5 + 1)), (0, .ref 280), (1, .ref v1), (2, .int v2), (3, .int v3), (4, .int v4)] rfl rfl (Nat.le_of_ble_eq_true rfl) rfl rfl rfl ?_
        refine g_goto 3 rfl ?_
        exact g_sub (Sc rfl (Sc rfl (Sc rfl (Sc rfl (Sc rfl (Sc rfl (Sn _))))))) (ih v1 hv1 v2 v3 v4 (v5 + 1) _ _ _ h)
def f_277 (x1 : Nat) (x2 : Int32) (x3 : Int32) (x4 : Int32) (U : sU) : Option (Int32 × sU) :=
  f_277_3 FU x1 x2 x3 x4 0 U
set_option maxRecDepth 10000 in
set_option maxHeartbeats 2000000 in
theorem F_277 (d : Nat) (x1 : Nat) (hx1 : sh x1 = 11) (x2 : Int32) (x3 : Int32) (x4 : Int32) {U : sU} {r : Int32} {U' : sU} (h : f_277 x1 x2 x3 x4 U = some (r, U')) : Rn (d + 0) sm_I277 [.ref 280, .ref x1, .int x2, .int x3, .int x4] U (some (.int r)) U' := by
  refine Rn_of [(0, .ref 280), (1, .ref x1), (2, .int x2), (3, .int x3), (4, .int x4)] (Nat.le_of_ble_eq_true rfl) (Sc rfl (Sc rfl (Sc rfl (Sc rfl (Sc rfl (Sn _)))))) ?_
  first | rw [f_277] at h | rw [f_277.eq_def] at h
  refine g_iconst (v := 0) 1 rfl rfl rfl ?_
  refine g_istore 3 [(5, .int 0), (0, .ref 280), (1, .ref x1), (2, .int x2), (3, .int x3), (4, .int x4)] rfl (Nat.le_of_ble_eq_true rfl) rfl rfl ?_
  exact g_sub (Sc rfl (Sc rfl (Sc rfl (Sc rfl (Sc rfl (Sc rfl (Sn _))))))) (F_277_3 d _ x1 hx1 x2 x3 x4 0 _ _ _ h)

def f_278 (x1 : Int32) (U : sU) : Option sU :=
  Option.bind (f_277 288 8 0 x1 U) fun q1 =>
  Option.bind (f_277 289 8 q1.1 x1 q1.2) fun q2 =>
  Option.bind (f_277 290 8 q2.1 x1 q2.2) fun q3 =>
  Option.bind (f_277 291 8 q3.1 x1 q3.2) fun q4 =>
  Option.bind (f_277 292 8 q4.1 x1 q4.2) fun q5 =>
  Option.bind (f_277 293 8 q5.1 x1 q5.2) fun q6 =>
  Option.bind (f_277 294 8 q6.1 x1 q6.2) fun q7 =>
  Option.bind (f_277 295 8 q7.1 x1 q7.2) fun q8 =>
  Option.bind (f_277 296 96 q8.1 x1 q8.2) fun q9 =>
  Option.bind (f_277 297 96 q9.1 x1 q9.2) fun q10 =>
  Option.bind (f_277 298 12 q10.1 x1 q10.2) fun q11 =>
  Option.bind (f_277 299 12 q11.1 x1 q11.2) fun q12 =>
  Option.bind (f_277 300 12 q12.1 x1 q12.2) fun q13 =>
  Option.bind (f_277 301 144 q13.1 x1 q13.2) fun q14 =>
  Option.bind (f_277 302 144 q14.1 x1 q14.2) fun q15 =>
  some q15.2
set_option maxRecDepth 10000 in
set_option maxHeartbeats 2000000 in
theorem F_278 (d : Nat) (x1 : Int32) {U : sU} {U' : sU} (h : f_278 x1 U = some U') : Rn (d + 1) sm_I278 [.ref 280, .int x1] U none U' := by
  refine Rn_of [(0, .ref 280), (1, .int x1)] (Nat.le_of_ble_eq_true rfl) (Sc rfl (Sc rfl (Sn _))) ?_
  first | rw [f_278] at h | rw [f_278.eq_def] at h
  refine g_aload_n 1 rfl rfl rfl ?_
  refine g_aload_n 2 rfl rfl rfl ?_
  refine g_get 5 rfl s_280 (Nat.le_of_ble_eq_true rfl) rfl rfl ?_
  refine g_bipush (v := 8) 7 rfl (by decide) rfl ?_
  refine g_iconst (v := 0) 8 rfl rfl rfl ?_
  refine g_iload_n 9 rfl rfl rfl ?_
  obtain ⟨q1, hq1, h⟩ := Option.bind_eq_some_iff.mp h
  refine g_callV (J := sm_I277) 12 rfl (Nat.le_of_ble_eq_true rfl) rfl rfl (Nat.le_of_ble_eq_true rfl) s_280 (Nat.le_of_ble_eq_true rfl) (Nat.le_of_ble_eq_true rfl) rfl rfl (F_277 d 288 s_288 8 0 x1 hq1) ?_
  refine g_istore_n 13 [(2, .int q1.1), (0, .ref 280), (1, .int x1)] rfl (Nat.le_of_ble_eq_true rfl) rfl rfl ?_
  refine g_aload_n 14 rfl rfl rfl ?_
  refine g_aload_n 15 rfl rfl rfl ?_
  refine g_get 18 rfl s_280 (Nat.le_of_ble_eq_true rfl) rfl rfl ?_
  refine g_bipush (v := 8) 20 rfl (by decide) rfl ?_
  refine g_iload_n 21 rfl rfl rfl ?_
  refine g_iload_n 22 rfl rfl rfl ?_
  obtain ⟨q2, hq2, h⟩ := Option.bind_eq_some_iff.mp h
  refine g_callV (J := sm_I277) 25 rfl (Nat.le_of_ble_eq_true rfl) rfl rfl (Nat.le_of_ble_eq_true rfl) s_280 (Nat.le_of_ble_eq_true rfl) (Nat.le_of_ble_eq_true rfl) rfl rfl (F_277 d 289 s_289 8 q1.1 x1 hq2) ?_
  refine g_istore_n 26 [(2, .int q2.1), (0, .ref 280), (1, .int x1)] rfl (Nat.le_of_ble_eq_true rfl) rfl rfl ?_
  refine g_aload_n 27 rfl rfl rfl ?_
  refine g_aload_n 28 rfl rfl rfl ?_
  refine g_get 31 rfl s_280 (Nat.le_of_ble_eq_true rfl) rfl rfl ?_
  refine g_bipush (v := 8) 33 rfl (by decide) rfl ?_
  refine g_iload_n 34 rfl rfl rfl ?_
  refine g_iload_n 35 rfl rfl rfl ?_
  obtain ⟨q3, hq3, h⟩ := Option.bind_eq_some_iff.mp h
  refine g_callV (J := sm_I277) 38 rfl (Nat.le_of_ble_eq_true rfl) rfl rfl (Nat.le_of_ble_eq_true rfl) s_280 (Nat.le_of_ble_eq_true rfl) (Nat.le_of_ble_eq_true rfl) rfl rfl (F_277 d 290 s_290 8 q2.1 x1 hq3) ?_
  refine g_istore_n 39 [(2, .int q3.1), (0, .ref 280), (1, .int x1)] rfl (Nat.le_of_ble_eq_true rfl) rfl rfl ?_
  refine g_aload_n 40 rfl rfl rfl ?_
  refine g_aload_n 41 rfl rfl rfl ?_
  refine g_get 44 rfl s_280 (Nat.le_of_ble_eq_true rfl) rfl rfl ?_
  refine g_bipush (v := 8) 46 rfl (by decide) rfl ?_
  refine g_iload_n 47 rfl rfl rfl ?_
  refine g_iload_n 48 rfl rfl rfl ?_
  obtain ⟨q4, hq4, h⟩ := Option.bind_eq_some_iff.mp h
  refine g_callV (J := sm_I277) 51 rfl (Nat.le_of_ble_eq_true rfl) rfl rfl (Nat.le_of_ble_eq_true rfl) s_280 (Nat.le_of_ble_eq_true rfl) (Nat.le_of_ble_eq_true rfl) rfl rfl (F_277 d 291 s_291 8 q3.1 x1 hq4) ?_
  refine g_istore_n 52 [(2, .int q4.1), (0, .ref 280), (1, .int x1)] rfl (Nat.le_of_ble_eq_true rfl) rfl rfl ?_
  refine g_aload_n 53 rfl rfl rfl ?_
  refine g_aload_n 54 rfl rfl rfl ?_
  refine g_get 57 rfl s_280 (Nat.le_of_ble_eq_true rfl) rfl rfl ?_
  refine g_bipush (v := 8) 59 rfl (by decide) rfl ?_
  refine g_iload_n 60 rfl rfl rfl ?_
  refine g_iload_n 61 rfl rfl rfl ?_
  obtain ⟨q5, hq5, h⟩ := Option.bind_eq_some_iff.mp h
  refine g_callV (J := sm_I277) 64 rfl (Nat.le_of_ble_eq_true rfl) rfl rfl (Nat.le_of_ble_eq_true rfl) s_280 (Nat.le_of_ble_eq_true rfl) (Nat.le_of_ble_eq_true rfl) rfl rfl (F_277 d 292 s_292 8 q4.1 x1 hq5) ?_
  refine g_istore_n 65 [(2, .int q5.1), (0, .ref 280), (1, .int x1)] rfl (Nat.le_of_ble_eq_true rfl) rfl rfl ?_
  refine g_aload_n 66 rfl rfl rfl ?_
  refine g_aload_n 67 rfl rfl rfl ?_
  refine g_get 70 rfl s_280 (Nat.le_of_ble_eq_true rfl) rfl rfl ?_
  refine g_bipush (v := 8) 72 rfl (by decide) rfl ?_
  refine g_iload_n 73 rfl rfl rfl ?_
  refine g_iload_n 74 rfl rfl rfl ?_
  obtain ⟨q6, hq6, h⟩ := Option.bind_eq_some_iff.mp h
  refine g_callV (J := sm_I277) 77 rfl (Nat.le_of_ble_eq_true rfl) rfl rfl (Nat.le_of_ble_eq_true rfl) s_280 (Nat.le_of_ble_eq_true rfl) (Nat.le_of_ble_eq_true rfl) rfl rfl (F_277 d 293 s_293 8 q5.1 x1 hq6) ?_
  refine g_istore_n 78 [(2, .int q6.1), (0, .ref 280), (1, .int x1)] rfl (Nat.le_of_ble_eq_true rfl) rfl rfl ?_
  refine g_aload_n 79 rfl rfl rfl ?_
  refine g_aload_n 80 rfl rfl rfl ?_
  refine g_get 83 rfl s_280 (Nat.le_of_ble_eq_true rfl) rfl rfl ?_
  refine g_bipush (v := 8) 85 rfl (by decide) rfl ?_
  refine g_iload_n 86 rfl rfl rfl ?_
  refine g_iload_n 87 rfl rfl rfl ?_
  obtain ⟨q7, hq7, h⟩ := Option.bind_eq_some_iff.mp h
  refine g_callV (J := sm_I277) 90 rfl (Nat.le_of_ble_eq_true rfl) rfl rfl (Nat.le_of_ble_eq_true rfl) s_280 (Nat.le_of_ble_eq_true rfl) (Nat.le_of_ble_eq_true rfl) rfl rfl (F_277 d 294 s_294 8 q6.1 x1 hq7) ?_
  refine g_istore_n 91 [(2, .int q7.1), (0, .ref 280), (1, .int x1)] rfl (Nat.le_of_ble_eq_true rfl) rfl rfl ?_
  refine g_aload_n 92 rfl rfl rfl ?_
  refine g_aload_n 93 rfl rfl rfl ?_
  refine g_get 96 rfl s_280 (Nat.le_of_ble_eq_true rfl) rfl rfl ?_
  refine g_bipush (v := 8) 98 rfl (by decide) rfl ?_
  refine g_iload_n 99 rfl rfl rfl ?_
  refine g_iload_n 100 rfl rfl rfl ?_
  obtain ⟨q8, hq8, h⟩ := Option.bind_eq_some_iff.mp h
  refine g_callV (J := sm_I277) 103 rfl (Nat.le_of_ble_eq_true rfl) rfl rfl (Nat.le_of_ble_eq_true rfl) s_280 (Nat.le_of_ble_eq_true rfl) (Nat.le_of_ble_eq_true rfl) rfl rfl (F_277 d 295 s_295 8 q7.1 x1 hq8) ?_
  refine g_istore_n 104 [(2, .int q8.1), (0, .ref 280), (1, .int x1)] rfl (Nat.le_of_ble_eq_true rfl) rfl rfl ?_
  refine g_aload_n 105 rfl rfl rfl ?_
  refine g_aload_n 106 rfl rfl rfl ?_
  refine g_get 109 rfl s_280 (Nat.le_of_ble_eq_true rfl) rfl rfl ?_
  refine g_bipush (v := 96) 111 rfl (by decide) rfl ?_
  refine g_iload_n 112 rfl rfl rfl ?_
  refine g_iload_n 113 rfl rfl rfl ?_
  obtain ⟨q9, hq9, h⟩ := Option.bind_eq_some_iff.mp h
  refine g_callV (J := sm_I277) 116 rfl (Nat.le_of_ble_eq_true rfl) rfl rfl (Nat.le_of_ble_eq_true rfl) s_280 (Nat.le_of_ble_eq_true rfl) (Nat.le_of_ble_eq_true rfl) rfl rfl (F_277 d 296 s_296 96 q8.1 x1 hq9) ?_
  refine g_istore_n 117 [(2, .int q9.1), (0, .ref 280), (1, .int x1)] rfl (Nat.le_of_ble_eq_true rfl) rfl rfl ?_
  refine g_aload_n 118 rfl rfl rfl ?_
  refine g_aload_n 119 rfl rfl rfl ?_
  refine g_get 122 rfl s_280 (Nat.le_of_ble_eq_true rfl) rfl rfl ?_
  refine g_bipush (v := 96) 124 rfl (by decide) rfl ?_
  refine g_iload_n 125 rfl rfl rfl ?_
  refine g_iload_n 126 rfl rfl rfl ?_
  obtain ⟨q10, hq10, h⟩ := Option.bind_eq_some_iff.mp h
  refine g_callV (J := sm_I277) 129 rfl (Nat.le_of_ble_eq_true rfl) rfl rfl (Nat.le_of_ble_eq_true rfl) s_280 (Nat.le_of_ble_eq_true rfl) (Nat.le_of_ble_eq_true rfl) rfl rfl (F_277 d 297 s_297 96 q9.1 x1 hq10) ?_
  refine g_istore_n 130 [(2, .int q10.1), (0, .ref 280), (1, .int x1)] rfl (Nat.le_of_ble_eq_true rfl) rfl rfl ?_
  refine g_aload_n 131 rfl rfl rfl ?_
  refine g_aload_n 132 rfl rfl rfl ?_
  refine g_get 135 rfl s_280 (Nat.le_of_ble_eq_true rfl) rfl rfl ?_
  refine g_bipush (v := 12) 137 rfl (by decide) rfl ?_
  refine g_iload_n 138 rfl rfl rfl ?_
  refine g_iload_n 139 rfl rfl rfl ?_
  obtain ⟨q11, hq11, h⟩ := Option.bind_eq_some_iff.mp h
  refine g_callV (J := sm_I277) 142 rfl (Nat.le_of_ble_eq_true rfl) rfl rfl (Nat.le_of_ble_eq_true rfl) s_280 (Nat.le_of_ble_eq_true rfl) (Nat.le_of_ble_eq_true rfl) rfl rfl (F_277 d 298 s_298 12 q10.1 x1 hq11) ?_
  refine g_istore_n 143 [(2, .int q11.1), (0, .ref 280), (1, .int x1)] rfl (Nat.le_of_ble_eq_true rfl) rfl rfl ?_
  refine g_aload_n 144 rfl rfl rfl ?_
  refine g_aload_n 145 rfl rfl rfl ?_
  refine g_get 148 rfl s_280 (Nat.le_of_ble_eq_true rfl) rfl rfl ?_
  refine g_bipush (v := 12) 150 rfl (by decide) rfl ?_
  refine g_iload_n 151 rfl rfl rfl ?_
  refine g_iload_n 152 rfl rfl rfl ?_
  obtain ⟨q12, hq12, h⟩ := Option.bind_eq_some_iff.mp h
  refine g_callV (J := sm_I277) 155 rfl (Nat.le_of_ble_eq_true rfl) rfl rfl (Nat.le_of_ble_eq_true rfl) s_280 (Nat.le_of_ble_eq_true rfl) (Nat.le_of_ble_eq_true rfl) rfl rfl (F_277 d 299 s_299 12 q11.1 x1 hq12) ?_
  refine g_istore_n 156 [(2, .int q12.1), (0, .ref 280), (1, .int x1)] rfl (Nat.le_of_ble_eq_true rfl) rfl rfl ?_
  refine g_aload_n 157 rfl rfl rfl ?_
  refine g_aload_n 158 rfl rfl rfl ?_
  refine g_get 161 rfl s_280 (Nat.le_of_ble_eq_true rfl) rfl rfl ?_
  refine g_bipush (v := 12) 163 rfl (by decide) rfl ?_
  refine g_iload_n 164 rfl rfl rfl ?_
  refine g_iload_n 165 rfl rfl rfl ?_
  obtain ⟨q13, hq13, h⟩ := Option.bind_eq_some_iff.mp h
  refine g_callV (J := sm_I277) 168 rfl (Nat.le_of_ble_eq_true rfl) rfl rfl (Nat.le_of_ble_eq_true rfl) s_280 (Nat.le_of_ble_eq_true rfl) (Nat.le_of_ble_eq_true rfl) rfl rfl (F_277 d 300 s_300 12 q12.1 x1 hq13) ?_
  refine g_istore_n 169 [(2, .int q13.1), (0, .ref 280), (1, .int x1)] rfl (Nat.le_of_ble_eq_true rfl) rfl rfl ?_
  refine g_aload_n 170 rfl rfl rfl ?_
  refine g_aload_n 171 rfl rfl rfl ?_
  refine g_get 174 rfl s_280 (Nat.le_of_ble_eq_true rfl) rfl rfl ?_
  refine g_sipush (v := 144) 177 rfl (by decide) rfl ?_
  refine g_iload_n 178 rfl rfl rfl ?_
  refine g_iload_n 179 rfl rfl rfl ?_
  obtain ⟨q14, hq14, h⟩ := Option.bind_eq_some_iff.mp h
  refine g_callV (J := sm_I277) 182 rfl (Nat.le_of_ble_eq_true rfl) rfl rfl (Nat.le_of_ble_eq_true rfl) s_280 (Nat.le_of_ble_eq_true rfl) (Nat.le_of_ble_eq_true rfl) rfl rfl (F_277 d 301 s_301 144 q13.1 x1 hq14) ?_
  refine g_istore_n 183 [(2, .int q14.1), (0, .ref 280), (1, .int x1)] rfl (Nat.le_of_ble_eq_true rfl) rfl rfl ?_
  refine g_aload_n 184 rfl rfl rfl ?_
  refine g_aload_n 185 rfl rfl rfl ?_
  refine g_get 188 rfl s_280 (Nat.le_of_ble_eq_true rfl) rfl rfl ?_
  refine g_sipush (v := 144) 191 rfl (by decide) rfl ?_
  refine g_iload_n 192 rfl rfl rfl ?_
  refine g_iload_n 193 rfl rfl rfl ?_
  obtain ⟨q15, hq15, h⟩ := Option.bind_eq_some_iff.mp h
  refine g_callV (J := sm_I277) 196 rfl (Nat.le_of_ble_eq_true rfl) rfl rfl (Nat.le_of_ble_eq_true rfl) s_280 (Nat.le_of_ble_eq_true rfl) (Nat.le_of_ble_eq_true rfl) rfl rfl (F_277 d 302 s_302 144 q14.1 x1 hq15) ?_
  refine g_pop 197 rfl rfl rfl ?_
  cases h
  exact g_vret rfl rfl

def f_279  (U : sU) : Option (Int32 × sU) :=
  Option.bind (f_278 0 (sI (sI U 280 54 (U.1 280 0)) 280 55 ((sI U 280 54 (U.1 280 0)).1 280 1))) fun q1 =>
  some (q1.1 280 1, q1)
set_option maxRecDepth 10000 in
set_option maxHeartbeats 2000000 in
theorem F_279 (d : Nat)  {U : sU} {r : Int32} {U' : sU} (h : f_279  U = some (r, U')) : Rn (d + 2) sm_I279 [.ref 280] U (some (.int r)) U' := by
  refine Rn_of [(0, .ref 280)] (Nat.le_of_ble_eq_true rfl) (Sc rfl (Sn _)) ?_
  first | rw [f_279] at h | rw [f_279.eq_def] at h
  refine g_aload_n 1 rfl rfl rfl ?_
  refine g_aload_n 2 rfl rfl rfl ?_
  refine g_get 5 rfl s_280 (Nat.le_of_ble_eq_true rfl) rfl rfl ?_
  refine g_putI 8 rfl s_280 (Nat.le_of_ble_eq_true rfl) (Nat.le_of_ble_eq_true rfl) rfl fs_10_54 rfl ?_
  refine g_aload_n 9 rfl rfl rfl ?_
  refine g_aload_n 10 rfl rfl rfl ?_
  refine g_get 13 rfl s_280 (Nat.le_of_ble_eq_true rfl) rfl rfl ?_
  refine g_putI 16 rfl s_280 (Nat.le_of_ble_eq_true rfl) (Nat.le_of_ble_eq_true rfl) rfl fs_10_55 rfl ?_
  refine g_aload_n 17 rfl rfl rfl ?_
  refine g_iconst (v := 0) 18 rfl rfl rfl ?_
  obtain ⟨q1, hq1, h⟩ := Option.bind_eq_some_iff.mp h
  refine g_callV (J := sm_I278) 21 rfl (Nat.le_of_ble_eq_true rfl) rfl rfl (Nat.le_of_ble_eq_true rfl) s_280 (Nat.le_of_ble_eq_true rfl) (Nat.le_of_ble_eq_true rfl) rfl rfl (F_278 d 0 hq1) ?_
  refine g_aload_n 22 rfl rfl rfl ?_
  refine g_get 25 rfl s_280 (Nat.le_of_ble_eq_true rfl) rfl rfl ?_
  cases h
  exact g_iret rfl rfl

def f_280_38 : Nat → Int32 → sU → Option (Int32 × sU)
  | 0, _, _ => none
  | n + 1, v1, U =>
    if 8 ≤ v1 then
      some (U.1 280 1, U)
    else
      if ib v1 8 then
      if (U.1 282 v1.toNatClampNeg) = 2 then
        if ib v1 8 then
        if (U.1 285 v1.toNatClampNeg) < (U.1 280 1) then
          f_280_38 n (v1 + 1) U
        else
          if ib v1 8 then
          f_280_38 n (v1 + 1) (sI U 282 v1.toNatClampNeg 0)
          else none
        else none
      else
        f_280_38 n (v1 + 1) U
      else none
set_option maxRecDepth 10000 in
set_option maxHeartbeats 2000000 in
theorem F_280_38 (d : Nat)   : ∀ (n : Nat) (v1 : Int32) (U : sU) (r : Int32) (U' : sU), f_280_38 n v1 U = some (r, U') → G (d + 2) sm_I280 38 [(0, .ref 280), (1, .int v1)] [] U (some (.int r)) U' := by
  intro n
  induction n with
  | zero => intro v1 U r U' h; cases h
  | succ n ih =>
    intro v1 U r U' h
    first | rw [f_280_38] at h | (rw [f_280_38.eq_def] at h; dsimp only at h)
    refine g_iload_n 39 rfl rfl rfl ?_
    refine g_bipush (v := 8) 41 rfl (by decide) rfl ?_
    refine g_icmp_ge 80 44 rfl rfl (fun c1 => ?_) (fun c1 => ?_)
    · rw [if_pos c1] at h
      refine g_aload_n 81 rfl rfl rfl ?_
      refine g_get 84 rfl s_280 (Nat.le_of_ble_eq_true rfl) rfl rfl ?_
      cases h
      exact g_iret rfl rfl
    · rw [if_neg c1] at h
      refine g_aload_n 45 rfl rfl rfl ?_
      refine g_get 48 rfl s_280 (Nat.le_of_ble_eq_true rfl) rfl rfl ?_
      refine g_iload_n 49 rfl rfl rfl ?_
      by_cases i2 : ib v1 8
      case neg => rw [if_neg i2] at h; cases h
      rw [if_pos i2] at h
      refine g_iald 50 rfl s_282 l_282 i2 rfl ?_
      refine g_iconst (v := 2) 51 rfl rfl rfl ?_
      refine g_icmp_ne 74 54 rfl rfl (fun c3 => ?_) (fun c3 => ?_)
      · rw [if_neg c3] at h
        refine g_iinc (v := v1 + 1) 77 [(1, .int (v1 + 1)), (0, .ref 280)] rfl rfl (Nat.le_of_ble_eq_true rfl) rfl rfl rfl ?_
        refine g_goto 38 rfl ?_
        exact g_sub (Sc rfl (Sc rfl (Sn _))) (ih (v1 + 1) _ _ _ h)
      · rw [if_pos c3] at h
        refine g_aload_n 55 rfl rfl rfl ?_
        refine g_get 58 rfl s_280 (Nat.le_of_ble_eq_true rfl) rfl rfl ?_
        refine g_iload_n 59 rfl rfl rfl ?_
        by_cases i4 : ib v1 8
        case neg => rw [if_neg i4] at h; cases h
        rw [if_pos i4] at h
        refine g_iald 60 rfl s_285 l_285 i4 rfl ?_
        refine g_aload_n 61 rfl rfl rfl ?_
        refine g_get 64 rfl s_280 (Nat.le_of_ble_eq_true rfl) rfl rfl ?_
        refine g_icmp_lt 74 67 rfl rfl (fun c5 => ?_) (fun c5 => ?_)
        · rw [if_pos c5] at h
          refine g_iinc (v := v1 + 1) 77 [(1, .int (v1 + 1)), (0, .ref 280)] rfl rfl (Nat.le_of_ble_eq_true rfl) rfl rfl rfl ?_
          refine g_goto 38 rfl ?_
          exact g_sub (Sc rfl (Sc rfl (Sn _))) (ih (v1 + 1) _ _ _ h)
        · rw [if_neg c5] at h
          refine g_aload_n 68 rfl rfl rfl ?_
          refine g_get 71 rfl s_280 (Nat.le_of_ble_eq_true rfl) rfl rfl ?_
          refine g_iload_n 72 rfl rfl rfl ?_
          refine g_iconst (v := 0) 73 rfl rfl rfl ?_
          by_cases i6 : ib v1 8
          case neg => rw [if_neg i6] at h; cases h
          rw [if_pos i6] at h
          refine g_iast 74 rfl s_282 l_282 i6 rfl ?_
          refine g_iinc (v := v1 + 1) 77 [(1, .int (v1 + 1)), (0, .ref 280)] rfl rfl (Nat.le_of_ble_eq_true rfl) rfl rfl rfl ?_
          refine g_goto 38 rfl ?_
          exact g_sub (Sc rfl (Sc rfl (Sn _))) (ih (v1 + 1) _ _ _ h)
def f_280  (U : sU) : Option (Int32 × sU) :=
  if (U.1 280 54) = ((-1)) then
    Option.bind (f_174 ((-6)) U) fun q9 =>
    some (q9.1, q9.2)
  else
    Option.bind (f_278 1 (sI (sI U 280 0 (U.1 280 54)) 280 1 ((sI U 280 0 (U.1 280 54)).1 280 55))) fun q8 =>
    f_280_38 FU 0 q8
set_option maxRecDepth 10000 in
set_option maxHeartbeats 2000000 in
theorem F_280 (d : Nat)  {U : sU} {r : Int32} {U' : sU} (h : f_280  U = some (r, U')) : Rn (d + 2) sm_I280 [.ref 280] U (some (.int r)) U' := by
  refine Rn_of [(0, .ref 280)] (Nat.le_of_ble_eq_true rfl) (Sc rfl (Sn _)) ?_
  first | rw [f_280] at h | rw [f_280.eq_def] at h
  refine g_aload_n 1 rfl rfl rfl ?_
  refine g_get 4 rfl s_280 (Nat.le_of_ble_eq_true rfl) rfl rfl ?_
  refine g_iconst (v := (-1)) 5 rfl rfl rfl ?_
  refine g_icmp_ne 15 8 rfl rfl (fun c7 => ?_) (fun c7 => ?_)
  · rw [if_neg c7] at h
    refine g_aload_n 16 rfl rfl rfl ?_
    refine g_aload_n 17 rfl rfl rfl ?_
    refine g_get 20 rfl s_280 (Nat.le_of_ble_eq_true rfl) rfl rfl ?_
    refine g_putI 23 rfl s_280 (Nat.le_of_ble_eq_true rfl) (Nat.le_of_ble_eq_true rfl) rfl fs_10_0 rfl ?_
    refine g_aload_n 24 rfl rfl rfl ?_
    refine g_aload_n 25 rfl rfl rfl ?_
    refine g_get 28 rfl s_280 (Nat.le_of_ble_eq_true rfl) rfl rfl ?_
    refine g_putI 31 rfl s_280 (Nat.le_of_ble_eq_true rfl) (Nat.le_of_ble_eq_true rfl) rfl fs_10_1 rfl ?_
    refine g_aload_n 32 rfl rfl rfl ?_
    refine g_iconst (v := 1) 33 rfl rfl rfl ?_
    obtain ⟨q8, hq8, h⟩ := Option.bind_eq_some_iff.mp h
    refine g_callV (J := sm_I278) 36 rfl (Nat.le_of_ble_eq_true rfl) rfl rfl (Nat.le_of_ble_eq_true rfl) s_280 (Nat.le_of_ble_eq_true rfl) (Nat.le_of_ble_eq_true rfl) rfl rfl (F_278 d 1 hq8) ?_
    refine g_iconst (v := 0) 37 rfl rfl rfl ?_
    refine g_istore_n 38 [(1, .int 0), (0, .ref 280)] rfl (Nat.le_of_ble_eq_true rfl) rfl rfl ?_
    exact g_sub (Sc rfl (Sc rfl (Sn _))) (F_280_38 d _ 0 _ _ _ h)
  · rw [if_pos c7] at h
    refine g_aload_n 9 rfl rfl rfl ?_
    refine g_bipush (v := (-6)) 11 rfl (by decide) rfl ?_
    obtain ⟨q9, hq9, h⟩ := Option.bind_eq_some_iff.mp h
    refine g_callV (J := sm_I174) 14 rfl (Nat.le_of_ble_eq_true rfl) rfl rfl (Nat.le_of_ble_eq_true rfl) s_280 (Nat.le_of_ble_eq_true rfl) (Nat.le_of_ble_eq_true rfl) rfl rfl (F_174 (d + 1) ((-6)) hq9) ?_
    cases h
    exact g_iret rfl rfl

def f_281_22 (v1 : Int32) (U : sU) : Option (Int32 × sU) :=
  if v1 = 0 then
    some (U.1 280 0, U)
  else
    if v1 = 1 then
      some (U.1 280 1, U)
    else
      if v1 = 2 then
        Option.bind (f_268 U) fun q5 =>
        Option.bind (f_214 q5.1 q5.2) fun q6 =>
        some (q6, q5.2)
      else
        if v1 = 3 then
          some (U.1 280 53, U)
        else
          some ((-1), U)
set_option maxRecDepth 10000 in
set_option maxHeartbeats 2000000 in
theorem F_281_22 (d : Nat)   (v1 : Int32) {U : sU} {r : Int32} {U' : sU} (h : f_281_22 v1 U = some (r, U')) : G (d + 7) sm_I281 22 [(0, .ref 280), (1, .int v1)] [] U (some (.int r)) U' := by
  first | rw [f_281_22] at h | rw [f_281_22.eq_def] at h
  refine g_iload_n 23 rfl rfl rfl ?_
  refine g_if_ne 31 26 rfl rfl (fun c1 => ?_) (fun c1 => ?_)
  · rw [if_neg c1] at h
    refine g_iload_n 32 rfl rfl rfl ?_
    refine g_iconst (v := 1) 33 rfl rfl rfl ?_
    refine g_icmp_ne 41 36 rfl rfl (fun c2 => ?_) (fun c2 => ?_)
    · rw [if_neg c2] at h
      refine g_iload_n 42 rfl rfl rfl ?_
      refine g_iconst (v := 2) 43 rfl rfl rfl ?_
      refine g_icmp_ne 55 46 rfl rfl (fun c3 => ?_) (fun c3 => ?_)
      · rw [if_neg c3] at h
        refine g_iload_n 56 rfl rfl rfl ?_
        refine g_iconst (v := 3) 57 rfl rfl rfl ?_
        refine g_icmp_ne 67 60 rfl rfl (fun c4 => ?_) (fun c4 => ?_)
        · rw [if_neg c4] at h
          refine g_iconst (v := (-1)) 68 rfl rfl rfl ?_
          cases h
          exact g_iret rfl rfl
        · rw [if_pos c4] at h
          refine g_aload_n 61 rfl rfl rfl ?_
          refine g_get 64 rfl s_280 (Nat.le_of_ble_eq_true rfl) rfl rfl ?_
          refine g_goto 68 rfl ?_
          cases h
          exact g_iret rfl rfl
      · rw [if_pos c3] at h
        refine g_aload_n 47 rfl rfl rfl ?_
        refine g_aload_n 48 rfl rfl rfl ?_
        obtain ⟨q5, hq5, h⟩ := Option.bind_eq_some_iff.mp h
        refine g_callV (J := sm_I268) 51 rfl (Nat.le_of_ble_eq_true rfl) rfl rfl (Nat.le_of_ble_eq_true rfl) s_280 (Nat.le_of_ble_eq_true rfl) (Nat.le_of_ble_eq_true rfl) rfl rfl (F_268 d  hq5) ?_
        obtain ⟨q6, hq6, h⟩ := Option.bind_eq_some_iff.mp h
        refine g_callV (J := sm_I214) 54 rfl (Nat.le_of_ble_eq_true rfl) rfl rfl (Nat.le_of_ble_eq_true rfl) s_280 (Nat.le_of_ble_eq_true rfl) (Nat.le_of_ble_eq_true rfl) rfl rfl (F_214 (d + 6) q5.1 hq6) ?_
        cases h
        exact g_iret rfl rfl
    · rw [if_pos c2] at h
      refine g_aload_n 37 rfl rfl rfl ?_
      refine g_get 40 rfl s_280 (Nat.le_of_ble_eq_true rfl) rfl rfl ?_
      cases h
      exact g_iret rfl rfl
  · rw [if_pos c1] at h
    refine g_aload_n 27 rfl rfl rfl ?_
    refine g_get 30 rfl s_280 (Nat.le_of_ble_eq_true rfl) rfl rfl ?_
    cases h
    exact g_iret rfl rfl
def f_281 (x1 : Int32) (U : sU) : Option (Int32 × sU) :=
  if x1 < 11 then
    f_281_22 x1 U
  else
    if 17 < x1 then
      f_281_22 x1 U
    else
      if ib (x1 - 10) 8 then
      some (U.1 281 (x1 - 10).toNatClampNeg, U)
      else none
set_option maxRecDepth 10000 in
set_option maxHeartbeats 2000000 in
theorem F_281 (d : Nat) (x1 : Int32) {U : sU} {r : Int32} {U' : sU} (h : f_281 x1 U = some (r, U')) : Rn (d + 7) sm_I281 [.ref 280, .int x1] U (some (.int r)) U' := by
  refine Rn_of [(0, .ref 280), (1, .int x1)] (Nat.le_of_ble_eq_true rfl) (Sc rfl (Sc rfl (Sn _))) ?_
  first | rw [f_281] at h | rw [f_281.eq_def] at h
  refine g_iload_n 1 rfl rfl rfl ?_
  refine g_bipush (v := 11) 3 rfl (by decide) rfl ?_
  refine g_icmp_lt 22 6 rfl rfl (fun c7 => ?_) (fun c7 => ?_)
  · rw [if_pos c7] at h
    exact g_sub (Sc rfl (Sc rfl (Sn _))) (F_281_22 d x1 h)
  · rw [if_neg c7] at h
    refine g_iload_n 7 rfl rfl rfl ?_
    refine g_bipush (v := 17) 9 rfl (by decide) rfl ?_
    refine g_icmp_gt 22 12 rfl rfl (fun c8 => ?_) (fun c8 => ?_)
    · rw [if_pos c8] at h
      exact g_sub (Sc rfl (Sc rfl (Sn _))) (F_281_22 d x1 h)
    · rw [if_neg c8] at h
      refine g_aload_n 13 rfl rfl rfl ?_
      refine g_get 16 rfl s_280 (Nat.le_of_ble_eq_true rfl) rfl rfl ?_
      refine g_iload_n 17 rfl rfl rfl ?_
      refine g_bipush (v := 10) 19 rfl (by decide) rfl ?_
      refine g_isub 20 rfl rfl ?_
      by_cases i9 : ib (x1 - 10) 8
      case neg => rw [if_neg i9] at h; cases h
      rw [if_pos i9] at h
      refine g_iald 21 rfl s_281 l_281 i9 rfl ?_
      cases h
      exact g_iret rfl rfl
