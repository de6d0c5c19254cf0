/-! methods turned -/
def f_128 (x1 : Int32) (x2 : Int32) (x3 : Int32) (U : sU) : Int32 × sU :=
  match mat 2 x1 U with
  | none =>
    match f_157 1 U with
    | (q2, W3) =>
    (q2, W3)
  | some o1 =>
    if (U.1 o1 2) = 5 then
      if x2 < 0 then
        match f_157 6 U with
        | (q6, W7) =>
        (q6, W7)
      else
        if 12 ≤ x2 then
          match f_157 6 U with
          | (q9, W10) =>
          (q9, W10)
        else
          if (f_170 x3 U) = 0 then
            match f_157 6 U with
            | (q13, W14) =>
            (q13, W14)
          else
            (iget (o1 + 3) x2 U, iput (o1 + 3) x2 x3 U)
    else
      match f_157 2 U with
      | (q15, W16) =>
      (q15, W16)
set_option maxRecDepth 10000 in
set_option maxHeartbeats 2000000 in
theorem F_128 (d : Nat) (x1 : Int32) (x2 : Int32) (x3 : Int32) (U : sU) : Rn (d + 2) sm_I128 [.ref 0, .int x1, .int x2, .int x3] U (some (.int (f_128 x1 x2 x3 U).1)) (f_128 x1 x2 x3 U).2 := by
  refine Rn_of [(0, .ref 0), (1, .int x1), (2, .int x2), (3, .int x3)] (Nat.le_of_ble_eq_true rfl) (Sc rfl (Sc rfl (Sc rfl (Sc rfl (Sn _))))) ?_
  rcases h : f_128 x1 x2 x3 U with ⟨r, U'⟩
  dsimp only
  first | rw [f_128] at h | rw [f_128.eq_def] at h
  refine g_aload_n 1 rfl rfl rfl ?_
  refine g_get 4 rfl s_0 (Nat.le_of_ble_eq_true rfl) rfl rfl ?_
  refine g_iload_n 5 rfl rfl rfl ?_
  refine g_callV (J := sm_I94) 8 rfl (Nat.le_of_ble_eq_true rfl) rfl rfl (Nat.le_of_ble_eq_true rfl) s_2 (Nat.le_of_ble_eq_true rfl) (Nat.le_of_ble_eq_true rfl) rfl rfl (U_94 (d + 1) 2 s_2 x1 U) ?_
  refine g_astoreq (x := mat 2 x1 U) 10 [(4, va_rf (mat 2 x1 U)), (0, .ref 0), (1, .int x1), (2, .int x2), (3, .int x3)] rfl (Nat.le_of_ble_eq_true rfl) rfl rfl ?_
  refine g_aloadq (x := mat 2 x1 U) 12 rfl rfl rfl ?_
  rcases ho1 : mat 2 x1 U with _ | o1
  · rw [ho1] at h
    dsimp only at h
    refine g_ifnonnullN 15 rfl rfl ?_
    refine g_aload_n 16 rfl rfl rfl ?_
    refine g_iconst (v := 1) 17 rfl rfl rfl ?_
    have tq2 := F_157 d 1 U
    rcases hq2 : f_157 1 U with ⟨q2, W3⟩
    rw [hq2] at h tq2
    dsimp only at h tq2
    refine g_callV (J := sm_I157) 20 rfl (Nat.le_of_ble_eq_true rfl) rfl rfl (Nat.le_of_ble_eq_true rfl) s_0 (Nat.le_of_ble_eq_true rfl) (Nat.le_of_ble_eq_true rfl) rfl rfl tq2 ?_
    cases h
    exact g_iret rfl rfl
  · rw [ho1] at h
    dsimp only at h
    refine g_ifnonnull 21 rfl rfl ?_
    refine g_aload 23 rfl rfl rfl ?_
    refine g_get 26 rfl ((fun z hz => tagU_94 2 s_2 x1 U z hz) o1 ho1) (Nat.le_of_ble_eq_true rfl) rfl rfl ?_
    refine g_iconst (v := 5) 27 rfl rfl rfl ?_
    refine g_icmp_eq 36 30 rfl rfl (fun c4 => ?_) (fun c4 => ?_)
    · rw [if_pos c4] at h
      refine g_iload_n 37 rfl rfl rfl ?_
      refine g_if_lt 53 40 rfl rfl (fun c5 => ?_) (fun c5 => ?_)
      · rw [if_pos c5] at h
        refine g_aload_n 54 rfl rfl rfl ?_
        refine g_bipush (v := 6) 56 rfl (by decide) rfl ?_
        have tq6 := F_157 d 6 U
        rcases hq6 : f_157 6 U with ⟨q6, W7⟩
        rw [hq6] at h tq6
        dsimp only at h tq6
        refine g_callV (J := sm_I157) 59 rfl (Nat.le_of_ble_eq_true rfl) rfl rfl (Nat.le_of_ble_eq_true rfl) s_0 (Nat.le_of_ble_eq_true rfl) (Nat.le_of_ble_eq_true rfl) rfl rfl tq6 ?_
        cases h
        exact g_iret rfl rfl
      · rw [if_neg c5] at h
        refine g_iload_n 41 rfl rfl rfl ?_
        refine g_bipush (v := 12) 43 rfl (by decide) rfl ?_
        refine g_icmp_ge 53 46 rfl rfl (fun c8 => ?_) (fun c8 => ?_)
        · rw [if_pos c8] at h
          refine g_aload_n 54 rfl rfl rfl ?_
          refine g_bipush (v := 6) 56 rfl (by decide) rfl ?_
          have tq9 := F_157 d 6 U
          rcases hq9 : f_157 6 U with ⟨q9, W10⟩
          rw [hq9] at h tq9
          dsimp only at h tq9
          refine g_callV (J := sm_I157) 59 rfl (Nat.le_of_ble_eq_true rfl) rfl rfl (Nat.le_of_ble_eq_true rfl) s_0 (Nat.le_of_ble_eq_true rfl) (Nat.le_of_ble_eq_true rfl) rfl rfl tq9 ?_
          cases h
          exact g_iret rfl rfl
        · rw [if_neg c8] at h
          refine g_iload_n 47 rfl rfl rfl ?_
          have r11 := F_170 (d + 1) x3 U
          refine g_callS (J := sm_I170) 50 rfl (by decide) rfl rfl (Nat.le_of_ble_eq_true rfl) (Nat.le_of_ble_eq_true rfl) rfl rfl r11 ?_
          refine g_if_ne 60 53 rfl rfl (fun c12 => ?_) (fun c12 => ?_)
          · rw [if_neg c12] at h
            refine g_aload 62 rfl rfl rfl ?_
            refine g_get 65 rfl ((fun z hz => tagU_94 2 s_2 x1 U z hz) o1 ho1) (Nat.le_of_ble_eq_true rfl) rfl rfl ?_
            refine g_iload_n 66 rfl rfl rfl ?_
            refine g_callV (J := sm_I9) 69 rfl (Nat.le_of_ble_eq_true rfl) rfl rfl (Nat.le_of_ble_eq_true rfl) (sh_3_3 ((fun z hz => tagU_94 2 s_2 x1 U z hz) o1 ho1)) (Nat.le_of_ble_eq_true rfl) (Nat.le_of_ble_eq_true rfl) rfl rfl (U_9 (d + 1) (o1 + 3) (sh_3_3 ((fun z hz => tagU_94 2 s_2 x1 U z hz) o1 ho1)) x2 U) ?_
            refine g_istore 71 [(5, .int (iget (o1 + 3) x2 U)), (4, .ref o1), (0, .ref 0), (1, .int x1), (2, .int x2), (3, .int x3)] rfl (Nat.le_of_ble_eq_true rfl) rfl rfl ?_
            refine g_aload 73 rfl rfl rfl ?_
            refine g_get 76 rfl ((fun z hz => tagU_94 2 s_2 x1 U z hz) o1 ho1) (Nat.le_of_ble_eq_true rfl) rfl rfl ?_
            refine g_iload_n 77 rfl rfl rfl ?_
            refine g_iload_n 78 rfl rfl rfl ?_
            refine g_callV (J := sm_I10) 81 rfl (Nat.le_of_ble_eq_true rfl) rfl rfl (Nat.le_of_ble_eq_true rfl) (sh_3_3 ((fun z hz => tagU_94 2 s_2 x1 U z hz) o1 ho1)) (Nat.le_of_ble_eq_true rfl) (Nat.le_of_ble_eq_true rfl) rfl rfl (U_10 (d + 1) (o1 + 3) (sh_3_3 ((fun z hz => tagU_94 2 s_2 x1 U z hz) o1 ho1)) x2 x3 U) ?_
            refine g_iload 83 rfl rfl rfl ?_
            cases h
            exact g_iret rfl rfl
          · rw [if_pos c12] at h
            refine g_aload_n 54 rfl rfl rfl ?_
            refine g_bipush (v := 6) 56 rfl (by decide) rfl ?_
            have tq13 := F_157 d 6 U
            rcases hq13 : f_157 6 U with ⟨q13, W14⟩
            rw [hq13] at h tq13
            dsimp only at h tq13
            refine g_callV (J := sm_I157) 59 rfl (Nat.le_of_ble_eq_true rfl) rfl rfl (Nat.le_of_ble_eq_true rfl) s_0 (Nat.le_of_ble_eq_true rfl) (Nat.le_of_ble_eq_true rfl) rfl rfl tq13 ?_
            cases h
            exact g_iret rfl rfl
    · rw [if_neg c4] at h
      refine g_aload_n 31 rfl rfl rfl ?_
      refine g_iconst (v := 2) 32 rfl rfl rfl ?_
      have tq15 := F_157 d 2 U
      rcases hq15 : f_157 2 U with ⟨q15, W16⟩
      rw [hq15] at h tq15
      dsimp only at h tq15
      refine g_callV (J := sm_I157) 35 rfl (Nat.le_of_ble_eq_true rfl) rfl rfl (Nat.le_of_ble_eq_true rfl) s_0 (Nat.le_of_ble_eq_true rfl) (Nat.le_of_ble_eq_true rfl) rfl rfl tq15 ?_
      cases h
      exact g_iret rfl rfl

def f_129 (x1 : Int32) (x2 : Int32) (U : sU) : Option (Int32 × sU) :=
  match mat 2 x1 U with
  | none =>
    match f_157 5 U with
    | (q2, W3) =>
    some (q2, W3)
  | some o1 =>
    if x2 < 0 then
      match f_157 5 U with
      | (q5, W6) =>
      some (q5, W6)
    else
      if x2 ≤ 3 then
        if x2 = 0 then
          some (U.1 o1 2, U)
        else
        if x2 = 1 then
          some (U.1 o1 3, U)
        else
        if x2 = 2 then
          Option.bind (f_164 o1 U) fun q11 =>
          some (f_282 q11 U, U)
        else
        Option.bind (f_164 o1 U) fun q12 =>
        some (q12, U)
      else
        match f_157 5 U with
        | (q13, W14) =>
        some (q13, W14)
set_option maxRecDepth 10000 in
set_option maxHeartbeats 2000000 in
theorem F_129 (d : Nat) (x1 : Int32) (x2 : Int32) {U : sU} {r : Int32} {U' : sU} (h : f_129 x1 x2 U = some (r, U')) : Rn (d + 2) sm_I129 [.ref 0, .int x1, .int x2] U (some (.int r)) U' := by
  refine Rn_of [(0, .ref 0), (1, .int x1), (2, .int x2)] (Nat.le_of_ble_eq_true rfl) (Sc rfl (Sc rfl (Sc rfl (Sn _)))) ?_
  first | rw [f_129] at h | rw [f_129.eq_def] at h
  refine g_aload_n 1 rfl rfl rfl ?_
  refine g_get 4 rfl s_0 (Nat.le_of_ble_eq_true rfl) rfl rfl ?_
  refine g_iload_n 5 rfl rfl rfl ?_
  refine g_callV (J := sm_I94) 8 rfl (Nat.le_of_ble_eq_true rfl) rfl rfl (Nat.le_of_ble_eq_true rfl) s_2 (Nat.le_of_ble_eq_true rfl) (Nat.le_of_ble_eq_true rfl) rfl rfl (U_94 (d + 1) 2 s_2 x1 U) ?_
  refine g_astore_nq (x := mat 2 x1 U) 9 [(3, va_rf (mat 2 x1 U)), (0, .ref 0), (1, .int x1), (2, .int x2)] rfl (Nat.le_of_ble_eq_true rfl) rfl rfl ?_
  refine g_aload_nq (x := mat 2 x1 U) 10 rfl rfl rfl ?_
  rcases ho1 : mat 2 x1 U with _ | o1
  · rw [ho1] at h
    dsimp only at h
    refine g_ifnullN 22 rfl rfl ?_
    refine g_aload_n 23 rfl rfl rfl ?_
    refine g_iconst (v := 5) 24 rfl rfl rfl ?_
    have tq2 := F_157 d 5 U
    rcases hq2 : f_157 5 U with ⟨q2, W3⟩
    rw [hq2] at h tq2
    dsimp only at h tq2
    refine g_callV (J := sm_I157) 27 rfl (Nat.le_of_ble_eq_true rfl) rfl rfl (Nat.le_of_ble_eq_true rfl) s_0 (Nat.le_of_ble_eq_true rfl) (Nat.le_of_ble_eq_true rfl) rfl rfl tq2 ?_
    cases h
    exact g_iret rfl rfl
  · rw [ho1] at h
    dsimp only at h
    refine g_ifnull 13 rfl rfl ?_
    refine g_iload_n 14 rfl rfl rfl ?_
    refine g_if_lt 22 17 rfl rfl (fun c4 => ?_) (fun c4 => ?_)
    · rw [if_pos c4] at h
      refine g_aload_n 23 rfl rfl rfl ?_
      refine g_iconst (v := 5) 24 rfl rfl rfl ?_
      have tq5 := F_157 d 5 U
      rcases hq5 : f_157 5 U with ⟨q5, W6⟩
      rw [hq5] at h tq5
      dsimp only at h tq5
      refine g_callV (J := sm_I157) 27 rfl (Nat.le_of_ble_eq_true rfl) rfl rfl (Nat.le_of_ble_eq_true rfl) s_0 (Nat.le_of_ble_eq_true rfl) (Nat.le_of_ble_eq_true rfl) rfl rfl tq5 ?_
      cases h
      exact g_iret rfl rfl
    · rw [if_neg c4] at h
      refine g_iload_n 18 rfl rfl rfl ?_
      refine g_iconst (v := 3) 19 rfl rfl rfl ?_
      refine g_icmp_le 28 22 rfl rfl (fun c7 => ?_) (fun c7 => ?_)
      · rw [if_pos c7] at h
        refine g_iload_n 29 rfl rfl rfl ?_
        by_cases w8 : x2 = 0
        case pos =>
          rw [if_pos w8] at h
          refine g_tsw 56 rfl (by rw [w8]; rfl) ?_
          refine g_aload_n 57 rfl rfl rfl ?_
          refine g_get 60 rfl ((fun z hz => tagU_94 2 s_2 x1 U z hz) o1 ho1) (Nat.le_of_ble_eq_true rfl) rfl rfl ?_
          cases h
          exact g_iret rfl rfl
        rw [if_neg w8] at h
        by_cases w9 : x2 = 1
        case pos =>
          rw [if_pos w9] at h
          refine g_tsw 61 rfl (by rw [w9]; rfl) ?_
          refine g_aload_n 62 rfl rfl rfl ?_
          refine g_get 65 rfl ((fun z hz => tagU_94 2 s_2 x1 U z hz) o1 ho1) (Nat.le_of_ble_eq_true rfl) rfl rfl ?_
          cases h
          exact g_iret rfl rfl
        rw [if_neg w9] at h
        by_cases w10 : x2 = 2
        case pos =>
          rw [if_pos w10] at h
          refine g_tsw 66 rfl (by rw [w10]; rfl) ?_
          refine g_aload_n 67 rfl rfl rfl ?_
          refine g_aload_n 68 rfl rfl rfl ?_
          obtain ⟨q11, hq11, h⟩ := Option.bind_eq_some_iff.mp h
          refine g_callV (J := sm_I164) 71 rfl (Nat.le_of_ble_eq_true rfl) rfl rfl (Nat.le_of_ble_eq_true rfl) s_0 (Nat.le_of_ble_eq_true rfl) (Nat.le_of_ble_eq_true rfl) rfl rfl (F_164 d o1 ((fun z hz => tagU_94 2 s_2 x1 U z hz) o1 ho1) hq11) ?_
          refine g_callS (J := sm_I282) 74 rfl (by decide) rfl rfl (Nat.le_of_ble_eq_true rfl) (Nat.le_of_ble_eq_true rfl) rfl rfl (F_282 (d + 1) q11 U) ?_
          cases h
          exact g_iret rfl rfl
        rw [if_neg w10] at h
        refine g_tsw 75 rfl (by
          have hX : x2.toInt < 0 ∨ 2 < x2.toInt := by
            have e := fun (k : Int32) (hk : ¬ x2 = k) => (fun (z : x2.toInt = k.toInt) => hk (Int32.toInt_inj.mp z))
            have gw8 : ¬ x2.toInt = 0 := e 0 w8
            have gw9 : ¬ x2.toInt = 1 := e 1 w9
            have gw10 : ¬ x2.toInt = 2 := e 2 w10
            omega
          rw [if_pos hX]; rfl) ?_
        refine g_aload_n 76 rfl rfl rfl ?_
        refine g_aload_n 77 rfl rfl rfl ?_
        obtain ⟨q12, hq12, h⟩ := Option.bind_eq_some_iff.mp h
        refine g_callV (J := sm_I164) 80 rfl (Nat.le_of_ble_eq_true rfl) rfl rfl (Nat.le_of_ble_eq_true rfl) s_0 (Nat.le_of_ble_eq_true rfl) (Nat.le_of_ble_eq_true rfl) rfl rfl (F_164 d o1 ((fun z hz => tagU_94 2 s_2 x1 U z hz) o1 ho1) hq12) ?_
        cases h
        exact g_iret rfl rfl
      · rw [if_neg c7] at h
        refine g_aload_n 23 rfl rfl rfl ?_
        refine g_iconst (v := 5) 24 rfl rfl rfl ?_
        have tq13 := F_157 d 5 U
        rcases hq13 : f_157 5 U with ⟨q13, W14⟩
        rw [hq13] at h tq13
        dsimp only at h tq13
        refine g_callV (J := sm_I157) 27 rfl (Nat.le_of_ble_eq_true rfl) rfl rfl (Nat.le_of_ble_eq_true rfl) s_0 (Nat.le_of_ble_eq_true rfl) (Nat.le_of_ble_eq_true rfl) rfl rfl tq13 ?_
        cases h
        exact g_iret rfl rfl

def f_130 (x1 : Int32) (x2 : Int32) (U : sU) : Option (Int32 × sU) :=
  Option.bind (f_40 218 2 x1 U) fun q1 =>
  if q1.1 = 0 then
    match f_157 5 q1.2 with
    | (q4, W5) =>
    some (q4, W5)
  else
    if (f_44 218 x2 q1.2) = 0 then
      match f_157 5 q1.2 with
      | (q8, W9) =>
      some (q8, W9)
    else
      some (f_45 218 x2 q1.2, q1.2)
set_option maxRecDepth 10000 in
set_option maxHeartbeats 2000000 in
theorem F_130 (d : Nat) (x1 : Int32) (x2 : Int32) {U : sU} {r : Int32} {U' : sU} (h : f_130 x1 x2 U = some (r, U')) : Rn (d + 5) sm_I130 [.ref 0, .int x1, .int x2] U (some (.int r)) U' := by
  refine Rn_of [(0, .ref 0), (1, .int x1), (2, .int x2)] (Nat.le_of_ble_eq_true rfl) (Sc rfl (Sc rfl (Sc rfl (Sn _)))) ?_
  first | rw [f_130] at h | rw [f_130.eq_def] at h
  refine g_aload_n 1 rfl rfl rfl ?_
  refine g_get 4 rfl s_0 (Nat.le_of_ble_eq_true rfl) rfl rfl ?_
  refine g_aload_n 5 rfl rfl rfl ?_
  refine g_get 8 rfl s_0 (Nat.le_of_ble_eq_true rfl) rfl rfl ?_
  refine g_iload_n 9 rfl rfl rfl ?_
  obtain ⟨q1, hq1, h⟩ := Option.bind_eq_some_iff.mp h
  have r2 := (F_40 d 218 s_218 2 s_2 x1 hq1)
  refine g_callV (J := sm_I40) 12 rfl (Nat.le_of_ble_eq_true rfl) rfl rfl (Nat.le_of_ble_eq_true rfl) s_218 (Nat.le_of_ble_eq_true rfl) (Nat.le_of_ble_eq_true rfl) rfl rfl r2 ?_
  refine g_if_eq 26 15 rfl rfl (fun c3 => ?_) (fun c3 => ?_)
  · rw [if_pos c3] at h
    refine g_aload_n 27 rfl rfl rfl ?_
    refine g_iconst (v := 5) 28 rfl rfl rfl ?_
    have tq4 := F_157 (d + 3) 5 q1.2
    rcases hq4 : f_157 5 q1.2 with ⟨q4, W5⟩
    rw [hq4] at h tq4
    dsimp only at h tq4
    refine g_callV (J := sm_I157) 31 rfl (Nat.le_of_ble_eq_true rfl) rfl rfl (Nat.le_of_ble_eq_true rfl) s_0 (Nat.le_of_ble_eq_true rfl) (Nat.le_of_ble_eq_true rfl) rfl rfl tq4 ?_
    cases h
    exact g_iret rfl rfl
  · rw [if_neg c3] at h
    refine g_aload_n 16 rfl rfl rfl ?_
    refine g_get 19 rfl s_0 (Nat.le_of_ble_eq_true rfl) rfl rfl ?_
    refine g_iload_n 20 rfl rfl rfl ?_
    have r6 := F_44 (d + 3) 218 s_218 x2 q1.2
    refine g_callV (J := sm_I44) 23 rfl (Nat.le_of_ble_eq_true rfl) rfl rfl (Nat.le_of_ble_eq_true rfl) s_218 (Nat.le_of_ble_eq_true rfl) (Nat.le_of_ble_eq_true rfl) rfl rfl r6 ?_
    refine g_if_ne 32 26 rfl rfl (fun c7 => ?_) (fun c7 => ?_)
    · rw [if_neg c7] at h
      refine g_aload_n 33 rfl rfl rfl ?_
      refine g_get 36 rfl s_0 (Nat.le_of_ble_eq_true rfl) rfl rfl ?_
      refine g_iload_n 37 rfl rfl rfl ?_
      refine g_callV (J := sm_I45) 40 rfl (Nat.le_of_ble_eq_true rfl) rfl rfl (Nat.le_of_ble_eq_true rfl) s_218 (Nat.le_of_ble_eq_true rfl) (Nat.le_of_ble_eq_true rfl) rfl rfl (F_45 (d + 3) 218 s_218 x2 q1.2) ?_
      cases h
      exact g_iret rfl rfl
    · rw [if_pos c7] at h
      refine g_aload_n 27 rfl rfl rfl ?_
      refine g_iconst (v := 5) 28 rfl rfl rfl ?_
      have tq8 := F_157 (d + 3) 5 q1.2
      rcases hq8 : f_157 5 q1.2 with ⟨q8, W9⟩
      rw [hq8] at h tq8
      dsimp only at h tq8
      refine g_callV (J := sm_I157) 31 rfl (Nat.le_of_ble_eq_true rfl) rfl rfl (Nat.le_of_ble_eq_true rfl) s_0 (Nat.le_of_ble_eq_true rfl) (Nat.le_of_ble_eq_true rfl) rfl rfl tq8 ?_
      cases h
      exact g_iret rfl rfl

def f_131 (x1 : Int32) (x2 : Int32) (U : sU) : Option (Int32 × sU) :=
  Option.bind (f_40 218 2 x1 U) fun q1 =>
  if q1.1 = 0 then
    match f_157 5 q1.2 with
    | (q4, W5) =>
    some (q4, W5)
  else
    if (f_43 218 x2 q1.2) = 0 then
      match f_157 5 q1.2 with
      | (q9, W10) =>
      some (q9, W10)
    else
      Option.bind (f_47 218 x2 q1.2) fun q8 =>
      some (q8, q1.2)
set_option maxRecDepth 10000 in
set_option maxHeartbeats 2000000 in
theorem F_131 (d : Nat) (x1 : Int32) (x2 : Int32) {U : sU} {r : Int32} {U' : sU} (h : f_131 x1 x2 U = some (r, U')) : Rn (d + 5) sm_I131 [.ref 0, .int x1, .int x2] U (some (.int r)) U' := by
  refine Rn_of [(0, .ref 0), (1, .int x1), (2, .int x2)] (Nat.le_of_ble_eq_true rfl) (Sc rfl (Sc rfl (Sc rfl (Sn _)))) ?_
  first | rw [f_131] at h | rw [f_131.eq_def] at h
  refine g_aload_n 1 rfl rfl rfl ?_
  refine g_get 4 rfl s_0 (Nat.le_of_ble_eq_true rfl) rfl rfl ?_
  refine g_aload_n 5 rfl rfl rfl ?_
  refine g_get 8 rfl s_0 (Nat.le_of_ble_eq_true rfl) rfl rfl ?_
  refine g_iload_n 9 rfl rfl rfl ?_
  obtain ⟨q1, hq1, h⟩ := Option.bind_eq_some_iff.mp h
  have r2 := (F_40 d 218 s_218 2 s_2 x1 hq1)
  refine g_callV (J := sm_I40) 12 rfl (Nat.le_of_ble_eq_true rfl) rfl rfl (Nat.le_of_ble_eq_true rfl) s_218 (Nat.le_of_ble_eq_true rfl) (Nat.le_of_ble_eq_true rfl) rfl rfl r2 ?_
  refine g_if_eq 26 15 rfl rfl (fun c3 => ?_) (fun c3 => ?_)
  · rw [if_pos c3] at h
    refine g_aload_n 27 rfl rfl rfl ?_
    refine g_iconst (v := 5) 28 rfl rfl rfl ?_
    have tq4 := F_157 (d + 3) 5 q1.2
    rcases hq4 : f_157 5 q1.2 with ⟨q4, W5⟩
    rw [hq4] at h tq4
    dsimp only at h tq4
    refine g_callV (J := sm_I157) 31 rfl (Nat.le_of_ble_eq_true rfl) rfl rfl (Nat.le_of_ble_eq_true rfl) s_0 (Nat.le_of_ble_eq_true rfl) (Nat.le_of_ble_eq_true rfl) rfl rfl tq4 ?_
    cases h
    exact g_iret rfl rfl
  · rw [if_neg c3] at h
    refine g_aload_n 16 rfl rfl rfl ?_
    refine g_get 19 rfl s_0 (Nat.le_of_ble_eq_true rfl) rfl rfl ?_
    refine g_iload_n 20 rfl rfl rfl ?_
    have r6 := F_43 (d + 4) 218 s_218 x2 q1.2
    refine g_callV (J := sm_I43) 23 rfl (Nat.le_of_ble_eq_true rfl) rfl rfl (Nat.le_of_ble_eq_true rfl) s_218 (Nat.le_of_ble_eq_true rfl) (Nat.le_of_ble_eq_true rfl) rfl rfl r6 ?_
    refine g_if_ne 32 26 rfl rfl (fun c7 => ?_) (fun c7 => ?_)
    · rw [if_neg c7] at h
      refine g_aload_n 33 rfl rfl rfl ?_
      refine g_get 36 rfl s_0 (Nat.le_of_ble_eq_true rfl) rfl rfl ?_
      refine g_iload_n 37 rfl rfl rfl ?_
      obtain ⟨q8, hq8, h⟩ := Option.bind_eq_some_iff.mp h
      refine g_callV (J := sm_I47) 40 rfl (Nat.le_of_ble_eq_true rfl) rfl rfl (Nat.le_of_ble_eq_true rfl) s_218 (Nat.le_of_ble_eq_true rfl) (Nat.le_of_ble_eq_true rfl) rfl rfl (F_47 (d + 3) 218 s_218 x2 hq8) ?_
      cases h
      exact g_iret rfl rfl
    · rw [if_pos c7] at h
      refine g_aload_n 27 rfl rfl rfl ?_
      refine g_iconst (v := 5) 28 rfl rfl rfl ?_
      have tq9 := F_157 (d + 3) 5 q1.2
      rcases hq9 : f_157 5 q1.2 with ⟨q9, W10⟩
      rw [hq9] at h tq9
      dsimp only at h tq9
      refine g_callV (J := sm_I157) 31 rfl (Nat.le_of_ble_eq_true rfl) rfl rfl (Nat.le_of_ble_eq_true rfl) s_0 (Nat.le_of_ble_eq_true rfl) (Nat.le_of_ble_eq_true rfl) rfl rfl tq9 ?_
      cases h
      exact g_iret rfl rfl

def f_132 (x1 : Int32) (x2 : Int32) (U : sU) : Option (Int32 × sU) :=
  Option.bind (f_40 218 2 x1 U) fun q1 =>
  if q1.1 = 0 then
    match f_157 5 q1.2 with
    | (q4, W5) =>
    some (q4, W5)
  else
    if (f_43 218 x2 q1.2) = 0 then
      match f_157 5 q1.2 with
      | (q8, W9) =>
      some (q8, W9)
    else
      some (f_46 218 x2 q1.2, q1.2)
set_option maxRecDepth 10000 in
set_option maxHeartbeats 2000000 in
theorem F_132 (d : Nat) (x1 : Int32) (x2 : Int32) {U : sU} {r : Int32} {U' : sU} (h : f_132 x1 x2 U = some (r, U')) : Rn (d + 5) sm_I132 [.ref 0, .int x1, .int x2] U (some (.int r)) U' := by
  refine Rn_of [(0, .ref 0), (1, .int x1), (2, .int x2)] (Nat.le_of_ble_eq_true rfl) (Sc rfl (Sc rfl (Sc rfl (Sn _)))) ?_
  first | rw [f_132] at h | rw [f_132.eq_def] at h
  refine g_aload_n 1 rfl rfl rfl ?_
  refine g_get 4 rfl s_0 (Nat.le_of_ble_eq_true rfl) rfl rfl ?_
  refine g_aload_n 5 rfl rfl rfl ?_
  refine g_get 8 rfl s_0 (Nat.le_of_ble_eq_true rfl) rfl rfl ?_
  refine g_iload_n 9 rfl rfl rfl ?_
  obtain ⟨q1, hq1, h⟩ := Option.bind_eq_some_iff.mp h
  have r2 := (F_40 d 218 s_218 2 s_2 x1 hq1)
  refine g_callV (J := sm_I40) 12 rfl (Nat.le_of_ble_eq_true rfl) rfl rfl (Nat.le_of_ble_eq_true rfl) s_218 (Nat.le_of_ble_eq_true rfl) (Nat.le_of_ble_eq_true rfl) rfl rfl r2 ?_
  refine g_if_eq 26 15 rfl rfl (fun c3 => ?_) (fun c3 => ?_)
  · rw [if_pos c3] at h
    refine g_aload_n 27 rfl rfl rfl ?_
    refine g_iconst (v := 5) 28 rfl rfl rfl ?_
    have tq4 := F_157 (d + 3) 5 q1.2
    rcases hq4 : f_157 5 q1.2 with ⟨q4, W5⟩
    rw [hq4] at h tq4
    dsimp only at h tq4
    refine g_callV (J := sm_I157) 31 rfl (Nat.le_of_ble_eq_true rfl) rfl rfl (Nat.le_of_ble_eq_true rfl) s_0 (Nat.le_of_ble_eq_true rfl) (Nat.le_of_ble_eq_true rfl) rfl rfl tq4 ?_
    cases h
    exact g_iret rfl rfl
  · rw [if_neg c3] at h
    refine g_aload_n 16 rfl rfl rfl ?_
    refine g_get 19 rfl s_0 (Nat.le_of_ble_eq_true rfl) rfl rfl ?_
    refine g_iload_n 20 rfl rfl rfl ?_
    have r6 := F_43 (d + 4) 218 s_218 x2 q1.2
    refine g_callV (J := sm_I43) 23 rfl (Nat.le_of_ble_eq_true rfl) rfl rfl (Nat.le_of_ble_eq_true rfl) s_218 (Nat.le_of_ble_eq_true rfl) (Nat.le_of_ble_eq_true rfl) rfl rfl r6 ?_
    refine g_if_ne 32 26 rfl rfl (fun c7 => ?_) (fun c7 => ?_)
    · rw [if_neg c7] at h
      refine g_aload_n 33 rfl rfl rfl ?_
      refine g_get 36 rfl s_0 (Nat.le_of_ble_eq_true rfl) rfl rfl ?_
      refine g_iload_n 37 rfl rfl rfl ?_
      refine g_callV (J := sm_I46) 40 rfl (Nat.le_of_ble_eq_true rfl) rfl rfl (Nat.le_of_ble_eq_true rfl) s_218 (Nat.le_of_ble_eq_true rfl) (Nat.le_of_ble_eq_true rfl) rfl rfl (F_46 (d + 3) 218 s_218 x2 q1.2) ?_
      cases h
      exact g_iret rfl rfl
    · rw [if_pos c7] at h
      refine g_aload_n 27 rfl rfl rfl ?_
      refine g_iconst (v := 5) 28 rfl rfl rfl ?_
      have tq8 := F_157 (d + 3) 5 q1.2
      rcases hq8 : f_157 5 q1.2 with ⟨q8, W9⟩
      rw [hq8] at h tq8
      dsimp only at h tq8
      refine g_callV (J := sm_I157) 31 rfl (Nat.le_of_ble_eq_true rfl) rfl rfl (Nat.le_of_ble_eq_true rfl) s_0 (Nat.le_of_ble_eq_true rfl) (Nat.le_of_ble_eq_true rfl) rfl rfl tq8 ?_
      cases h
      exact g_iret rfl rfl

def f_133 (x1 : Int32) (U : sU) : Option (Int32 × sU) :=
  Option.bind (f_40 218 2 x1 U) fun q1 =>
  if q1.1 = 0 then
    match f_157 5 q1.2 with
    | (q5, W6) =>
    some (q5, W6)
  else
    Option.bind (f_58 218 q1.2) fun q4 =>
    some (q4, q1.2)
set_option maxRecDepth 10000 in
set_option maxHeartbeats 2000000 in
theorem F_133 (d : Nat) (x1 : Int32) {U : sU} {r : Int32} {U' : sU} (h : f_133 x1 U = some (r, U')) : Rn (d + 5) sm_I133 [.ref 0, .int x1] U (some (.int r)) U' := by
  refine Rn_of [(0, .ref 0), (1, .int x1)] (Nat.le_of_ble_eq_true rfl) (Sc rfl (Sc rfl (Sn _))) ?_
  first | rw [f_133] at h | rw [f_133.eq_def] at h
  refine g_aload_n 1 rfl rfl rfl ?_
  refine g_get 4 rfl s_0 (Nat.le_of_ble_eq_true rfl) rfl rfl ?_
  refine g_aload_n 5 rfl rfl rfl ?_
  refine g_get 8 rfl s_0 (Nat.le_of_ble_eq_true rfl) rfl rfl ?_
  refine g_iload_n 9 rfl rfl rfl ?_
  obtain ⟨q1, hq1, h⟩ := Option.bind_eq_some_iff.mp h
  have r2 := (F_40 d 218 s_218 2 s_2 x1 hq1)
  refine g_callV (J := sm_I40) 12 rfl (Nat.le_of_ble_eq_true rfl) rfl rfl (Nat.le_of_ble_eq_true rfl) s_218 (Nat.le_of_ble_eq_true rfl) (Nat.le_of_ble_eq_true rfl) rfl rfl r2 ?_
  refine g_if_ne 21 15 rfl rfl (fun c3 => ?_) (fun c3 => ?_)
  · rw [if_neg c3] at h
    refine g_aload_n 22 rfl rfl rfl ?_
    refine g_get 25 rfl s_0 (Nat.le_of_ble_eq_true rfl) rfl rfl ?_
    obtain ⟨q4, hq4, h⟩ := Option.bind_eq_some_iff.mp h
    refine g_callV (J := sm_I58) 28 rfl (Nat.le_of_ble_eq_true rfl) rfl rfl (Nat.le_of_ble_eq_true rfl) s_218 (Nat.le_of_ble_eq_true rfl) (Nat.le_of_ble_eq_true rfl) rfl rfl (F_58 d 218 s_218 hq4) ?_
    cases h
    exact g_iret rfl rfl
  · rw [if_pos c3] at h
    refine g_aload_n 16 rfl rfl rfl ?_
    refine g_iconst (v := 5) 17 rfl rfl rfl ?_
    have tq5 := F_157 (d + 3) 5 q1.2
    rcases hq5 : f_157 5 q1.2 with ⟨q5, W6⟩
    rw [hq5] at h tq5
    dsimp only at h tq5
    refine g_callV (J := sm_I157) 20 rfl (Nat.le_of_ble_eq_true rfl) rfl rfl (Nat.le_of_ble_eq_true rfl) s_0 (Nat.le_of_ble_eq_true rfl) (Nat.le_of_ble_eq_true rfl) rfl rfl tq5 ?_
    cases h
    exact g_iret rfl rfl

def f_134 (x1 : Int32) (x2 : Int32) (x3 : Int32) (U : sU) : Option (Int64 × sU) :=
  Option.bind (f_40 218 2 x1 U) fun q1 =>
  if q1.1 = 0 then
    match f_158 5 q1.2 with
    | (q4, W5) =>
    some (q4.toInt64, W5)
  else
    if (f_44 218 x2 q1.2) = 0 then
      match f_158 5 q1.2 with
      | (q8, W9) =>
      some (q8.toInt64, W9)
    else
      if (f_43 218 x3 q1.2) = 0 then
        match f_158 5 q1.2 with
        | (q13, W14) =>
        some (q13.toInt64, W14)
      else
        Option.bind (f_54 218 x2 x3 q1.2) fun q12 =>
        some (q12, q1.2)
set_option maxRecDepth 10000 in
set_option maxHeartbeats 2000000 in
theorem F_134 (d : Nat) (x1 : Int32) (x2 : Int32) (x3 : Int32) {U : sU} {r : Int64} {U' : sU} (h : f_134 x1 x2 x3 U = some (r, U')) : Rn (d + 5) sm_I134 [.ref 0, .int x1, .int x2, .int x3] U (some (.long r)) U' := by
  refine Rn_of [(0, .ref 0), (1, .int x1), (2, .int x2), (3, .int x3)] (Nat.le_of_ble_eq_true rfl) (Sc rfl (Sc rfl (Sc rfl (Sc rfl (Sn _))))) ?_
  first | rw [f_134] at h | rw [f_134.eq_def] at h
  refine g_aload_n 1 rfl rfl rfl ?_
  refine g_get 4 rfl s_0 (Nat.le_of_ble_eq_true rfl) rfl rfl ?_
  refine g_aload_n 5 rfl rfl rfl ?_
  refine g_get 8 rfl s_0 (Nat.le_of_ble_eq_true rfl) rfl rfl ?_
  refine g_iload_n 9 rfl rfl rfl ?_
  obtain ⟨q1, hq1, h⟩ := Option.bind_eq_some_iff.mp h
  have r2 := (F_40 d 218 s_218 2 s_2 x1 hq1)
  refine g_callV (J := sm_I40) 12 rfl (Nat.le_of_ble_eq_true rfl) rfl rfl (Nat.le_of_ble_eq_true rfl) s_218 (Nat.le_of_ble_eq_true rfl) (Nat.le_of_ble_eq_true rfl) rfl rfl r2 ?_
  refine g_if_eq 37 15 rfl rfl (fun c3 => ?_) (fun c3 => ?_)
  · rw [if_pos c3] at h
    refine g_aload_n 38 rfl rfl rfl ?_
    refine g_iconst (v := 5) 39 rfl rfl rfl ?_
    have tq4 := F_158 (d + 2) 5 q1.2
    rcases hq4 : f_158 5 q1.2 with ⟨q4, W5⟩
    rw [hq4] at h tq4
    dsimp only at h tq4
    refine g_callV (J := sm_I158) 42 rfl (Nat.le_of_ble_eq_true rfl) rfl rfl (Nat.le_of_ble_eq_true rfl) s_0 (Nat.le_of_ble_eq_true rfl) (Nat.le_of_ble_eq_true rfl) rfl rfl tq4 ?_
    refine g_i2l 43 rfl rfl ?_
    cases h
    exact g_lret rfl rfl
  · rw [if_neg c3] at h
    refine g_aload_n 16 rfl rfl rfl ?_
    refine g_get 19 rfl s_0 (Nat.le_of_ble_eq_true rfl) rfl rfl ?_
    refine g_iload_n 20 rfl rfl rfl ?_
    have r6 := F_44 (d + 3) 218 s_218 x2 q1.2
    refine g_callV (J := sm_I44) 23 rfl (Nat.le_of_ble_eq_true rfl) rfl rfl (Nat.le_of_ble_eq_true rfl) s_218 (Nat.le_of_ble_eq_true rfl) (Nat.le_of_ble_eq_true rfl) rfl rfl r6 ?_
    refine g_if_eq 37 26 rfl rfl (fun c7 => ?_) (fun c7 => ?_)
    · rw [if_pos c7] at h
      refine g_aload_n 38 rfl rfl rfl ?_
      refine g_iconst (v := 5) 39 rfl rfl rfl ?_
      have tq8 := F_158 (d + 2) 5 q1.2
      rcases hq8 : f_158 5 q1.2 with ⟨q8, W9⟩
      rw [hq8] at h tq8
      dsimp only at h tq8
      refine g_callV (J := sm_I158) 42 rfl (Nat.le_of_ble_eq_true rfl) rfl rfl (Nat.le_of_ble_eq_true rfl) s_0 (Nat.le_of_ble_eq_true rfl) (Nat.le_of_ble_eq_true rfl) rfl rfl tq8 ?_
      refine g_i2l 43 rfl rfl ?_
      cases h
      exact g_lret rfl rfl
    · rw [if_neg c7] at h
      refine g_aload_n 27 rfl rfl rfl ?_
      refine g_get 30 rfl s_0 (Nat.le_of_ble_eq_true rfl) rfl rfl ?_
      refine g_iload_n 31 rfl rfl rfl ?_
      have r10 := F_43 (d + 4) 218 s_218 x3 q1.2
      refine g_callV (J := sm_I43) 34 rfl (Nat.le_of_ble_eq_true rfl) rfl rfl (Nat.le_of_ble_eq_true rfl) s_218 (Nat.le_of_ble_eq_true rfl) (Nat.le_of_ble_eq_true rfl) rfl rfl r10 ?_
      refine g_if_ne 44 37 rfl rfl (fun c11 => ?_) (fun c11 => ?_)
      · rw [if_neg c11] at h
        refine g_aload_n 45 rfl rfl rfl ?_
        refine g_get 48 rfl s_0 (Nat.le_of_ble_eq_true rfl) rfl rfl ?_
        refine g_iload_n 49 rfl rfl rfl ?_
        refine g_iload_n 50 rfl rfl rfl ?_
        obtain ⟨q12, hq12, h⟩ := Option.bind_eq_some_iff.mp h
        refine g_callV (J := sm_I54) 53 rfl (Nat.le_of_ble_eq_true rfl) rfl rfl (Nat.le_of_ble_eq_true rfl) s_218 (Nat.le_of_ble_eq_true rfl) (Nat.le_of_ble_eq_true rfl) rfl rfl (F_54 (d + 1) 218 s_218 x2 x3 hq12) ?_
        cases h
        exact g_lret rfl rfl
      · rw [if_pos c11] at h
        refine g_aload_n 38 rfl rfl rfl ?_
        refine g_iconst (v := 5) 39 rfl rfl rfl ?_
        have tq13 := F_158 (d + 2) 5 q1.2
        rcases hq13 : f_158 5 q1.2 with ⟨q13, W14⟩
        rw [hq13] at h tq13
        dsimp only at h tq13
        refine g_callV (J := sm_I158) 42 rfl (Nat.le_of_ble_eq_true rfl) rfl rfl (Nat.le_of_ble_eq_true rfl) s_0 (Nat.le_of_ble_eq_true rfl) (Nat.le_of_ble_eq_true rfl) rfl rfl tq13 ?_
        refine g_i2l 43 rfl rfl ?_
        cases h
        exact g_lret rfl rfl

def f_168 (x0 : Int32) (U : sU) : Int32 :=
  if x0 = 0 then
    1
  else
    if x0 = 1 then
      1
    else
      0
set_option maxRecDepth 10000 in
set_option maxHeartbeats 2000000 in
theorem F_168 (d : Nat) (x0 : Int32) (U : sU) : Rn (d + 0) sm_I168 [.int x0] U (some (.int (f_168 x0 U))) U := by
  refine Rn_of [(0, .int x0)] (Nat.le_of_ble_eq_true rfl) (Sc rfl (Sn _)) ?_
  generalize h : f_168 x0 U = r
  first | rw [f_168] at h | rw [f_168.eq_def] at h
  refine g_iload_n 1 rfl rfl rfl ?_
  refine g_if_eq 9 4 rfl rfl (fun c1 => ?_) (fun c1 => ?_)
  · rw [if_pos c1] at h
    refine g_iconst (v := 1) 10 rfl rfl rfl ?_
    refine g_goto 14 rfl ?_
    subst h
    exact g_zret rfl rfl (Or.inr rfl)
  · rw [if_neg c1] at h
    refine g_iload_n 5 rfl rfl rfl ?_
    refine g_iconst (v := 1) 6 rfl rfl rfl ?_
    refine g_icmp_ne 13 9 rfl rfl (fun c2 => ?_) (fun c2 => ?_)
    · rw [if_neg c2] at h
      refine g_iconst (v := 0) 14 rfl rfl rfl ?_
      subst h
      exact g_zret rfl rfl (Or.inl rfl)
    · rw [if_pos c2] at h
      refine g_iconst (v := 1) 10 rfl rfl rfl ?_
      refine g_goto 14 rfl ?_
      subst h
      exact g_zret rfl rfl (Or.inr rfl)

def f_135 (x1 : Int32) (x2 : Int32) (U : sU) : Option (Int64 × sU) :=
  if (f_168 x2 U) = 0 then
    match f_158 5 U with
    | (q3, W4) =>
    some (q3.toInt64, W4)
  else
    Option.bind (f_40 218 2 x1 U) fun q5 =>
    if q5.1 = 0 then
      match f_158 5 q5.2 with
      | (q9, W10) =>
      some (q9.toInt64, W10)
    else
      Option.bind (f_56 218 x2 q5.2) fun q8 =>
      some (q8, q5.2)
set_option maxRecDepth 10000 in
set_option maxHeartbeats 2000000 in
theorem F_135 (d : Nat) (x1 : Int32) (x2 : Int32) {U : sU} {r : Int64} {U' : sU} (h : f_135 x1 x2 U = some (r, U')) : Rn (d + 5) sm_I135 [.ref 0, .int x1, .int x2] U (some (.long r)) U' := by
  refine Rn_of [(0, .ref 0), (1, .int x1), (2, .int x2)] (Nat.le_of_ble_eq_true rfl) (Sc rfl (Sc rfl (Sc rfl (Sn _)))) ?_
  first | rw [f_135] at h | rw [f_135.eq_def] at h
  refine g_iload_n 1 rfl rfl rfl ?_
  have r1 := F_168 (d + 4) x2 U
  refine g_callS (J := sm_I168) 4 rfl (by decide) rfl rfl (Nat.le_of_ble_eq_true rfl) (Nat.le_of_ble_eq_true rfl) rfl rfl r1 ?_
  refine g_if_eq 22 7 rfl rfl (fun c2 => ?_) (fun c2 => ?_)
  · rw [if_pos c2] at h
    refine g_aload_n 23 rfl rfl rfl ?_
    refine g_iconst (v := 5) 24 rfl rfl rfl ?_
    have tq3 := F_158 (d + 2) 5 U
    rcases hq3 : f_158 5 U with ⟨q3, W4⟩
    rw [hq3] at h tq3
    dsimp only at h tq3
    refine g_callV (J := sm_I158) 27 rfl (Nat.le_of_ble_eq_true rfl) rfl rfl (Nat.le_of_ble_eq_true rfl) s_0 (Nat.le_of_ble_eq_true rfl) (Nat.le_of_ble_eq_true rfl) rfl rfl tq3 ?_
    refine g_i2l 28 rfl rfl ?_
    cases h
    exact g_lret rfl rfl
  · rw [if_neg c2] at h
    refine g_aload_n 8 rfl rfl rfl ?_
    refine g_get 11 rfl s_0 (Nat.le_of_ble_eq_true rfl) rfl rfl ?_
    refine g_aload_n 12 rfl rfl rfl ?_
    refine g_get 15 rfl s_0 (Nat.le_of_ble_eq_true rfl) rfl rfl ?_
    refine g_iload_n 16 rfl rfl rfl ?_
    obtain ⟨q5, hq5, h⟩ := Option.bind_eq_some_iff.mp h
    have r6 := (F_40 d 218 s_218 2 s_2 x1 hq5)
    refine g_callV (J := sm_I40) 19 rfl (Nat.le_of_ble_eq_true rfl) rfl rfl (Nat.le_of_ble_eq_true rfl) s_218 (Nat.le_of_ble_eq_true rfl) (Nat.le_of_ble_eq_true rfl) rfl rfl r6 ?_
    refine g_if_ne 29 22 rfl rfl (fun c7 => ?_) (fun c7 => ?_)
    · rw [if_neg c7] at h
      refine g_aload_n 30 rfl rfl rfl ?_
      refine g_get 33 rfl s_0 (Nat.le_of_ble_eq_true rfl) rfl rfl ?_
      refine g_iload_n 34 rfl rfl rfl ?_
      obtain ⟨q8, hq8, h⟩ := Option.bind_eq_some_iff.mp h
      refine g_callV (J := sm_I56) 37 rfl (Nat.le_of_ble_eq_true rfl) rfl rfl (Nat.le_of_ble_eq_true rfl) s_218 (Nat.le_of_ble_eq_true rfl) (Nat.le_of_ble_eq_true rfl) rfl rfl (F_56 (d + 1) 218 s_218 x2 hq8) ?_
      cases h
      exact g_lret rfl rfl
    · rw [if_pos c7] at h
      refine g_aload_n 23 rfl rfl rfl ?_
      refine g_iconst (v := 5) 24 rfl rfl rfl ?_
      have tq9 := F_158 (d + 2) 5 q5.2
      rcases hq9 : f_158 5 q5.2 with ⟨q9, W10⟩
      rw [hq9] at h tq9
      dsimp only at h tq9
      refine g_callV (J := sm_I158) 27 rfl (Nat.le_of_ble_eq_true rfl) rfl rfl (Nat.le_of_ble_eq_true rfl) s_0 (Nat.le_of_ble_eq_true rfl) (Nat.le_of_ble_eq_true rfl) rfl rfl tq9 ?_
      refine g_i2l 28 rfl rfl ?_
      cases h
      exact g_lret rfl rfl

def f_136 (x1 : Int32) (x2 : Int32) (U : sU) : Option (Int64 × sU) :=
  match tat 2 x1 U with
  | none =>
    match f_158 5 U with
    | (q2, W3) =>
    some (q2.toInt64, W3)
  | some o1 =>
    if (f_168 x2 U) = 0 then
      match f_158 5 U with
      | (q12, W13) =>
      some (q12.toInt64, W13)
    else
      Option.bind (f_39 218 0 (f_35 218 o1 (U.1 o1 4) (U.1 o1 3) U)) fun q6 =>
      Option.bind (f_41 218 q6) fun q7 =>
      Option.bind (f_56 218 x2 q7) fun q8 =>
      Option.bind (f_39 218 ((f_103 o1 q7) - 1) q7) fun q9 =>
      Option.bind (f_41 218 q9) fun q10 =>
      Option.bind (f_56 218 x2 q10) fun q11 =>
      some (q8 - q11, q10)
set_option maxRecDepth 10000 in
set_option maxHeartbeats 2000000 in
theorem F_136 (d : Nat) (x1 : Int32) (x2 : Int32) {U : sU} {r : Int64} {U' : sU} (h : f_136 x1 x2 U = some (r, U')) : Rn (d + 4) sm_I136 [.ref 0, .int x1, .int x2] U (some (.long r)) U' := by
  refine Rn_of [(0, .ref 0), (1, .int x1), (2, .int x2)] (Nat.le_of_ble_eq_true rfl) (Sc rfl (Sc rfl (Sc rfl (Sn _)))) ?_
  first | rw [f_136] at h | rw [f_136.eq_def] at h
  refine g_aload_n 1 rfl rfl rfl ?_
  refine g_get 4 rfl s_0 (Nat.le_of_ble_eq_true rfl) rfl rfl ?_
  refine g_iload_n 5 rfl rfl rfl ?_
  refine g_callV (J := sm_I93) 8 rfl (Nat.le_of_ble_eq_true rfl) rfl rfl (Nat.le_of_ble_eq_true rfl) s_2 (Nat.le_of_ble_eq_true rfl) (Nat.le_of_ble_eq_true rfl) rfl rfl (U_93 (d + 3) 2 s_2 x1 U) ?_
  refine g_astore_nq (x := tat 2 x1 U) 9 [(3, va_rf (tat 2 x1 U)), (0, .ref 0), (1, .int x1), (2, .int x2)] rfl (Nat.le_of_ble_eq_true rfl) rfl rfl ?_
  refine g_aload_nq (x := tat 2 x1 U) 10 rfl rfl rfl ?_
  rcases ho1 : tat 2 x1 U with _ | o1
  · rw [ho1] at h
    dsimp only at h
    refine g_ifnullN 20 rfl rfl ?_
    refine g_aload_n 21 rfl rfl rfl ?_
    refine g_iconst (v := 5) 22 rfl rfl rfl ?_
    have tq2 := F_158 (d + 1) 5 U
    rcases hq2 : f_158 5 U with ⟨q2, W3⟩
    rw [hq2] at h tq2
    dsimp only at h tq2
    refine g_callV (J := sm_I158) 25 rfl (Nat.le_of_ble_eq_true rfl) rfl rfl (Nat.le_of_ble_eq_true rfl) s_0 (Nat.le_of_ble_eq_true rfl) (Nat.le_of_ble_eq_true rfl) rfl rfl tq2 ?_
    refine g_i2l 26 rfl rfl ?_
    cases h
    exact g_lret rfl rfl
  · rw [ho1] at h
    dsimp only at h
    refine g_ifnull 13 rfl rfl ?_
    refine g_iload_n 14 rfl rfl rfl ?_
    have r4 := F_168 (d + 3) x2 U
    refine g_callS (J := sm_I168) 17 rfl (by decide) rfl rfl (Nat.le_of_ble_eq_true rfl) (Nat.le_of_ble_eq_true rfl) rfl rfl r4 ?_
    refine g_if_ne 27 20 rfl rfl (fun c5 => ?_) (fun c5 => ?_)
    · rw [if_neg c5] at h
      refine g_aload_n 28 rfl rfl rfl ?_
      refine g_get 31 rfl s_0 (Nat.le_of_ble_eq_true rfl) rfl rfl ?_
      refine g_aload_n 32 rfl rfl rfl ?_
      refine g_aload_n 33 rfl rfl rfl ?_
      refine g_get 36 rfl ((fun z hz => tagU_93 2 s_2 x1 U z hz) o1 ho1) (Nat.le_of_ble_eq_true rfl) rfl rfl ?_
      refine g_aload_n 37 rfl rfl rfl ?_
      refine g_get 40 rfl ((fun z hz => tagU_93 2 s_2 x1 U z hz) o1 ho1) (Nat.le_of_ble_eq_true rfl) rfl rfl ?_
      refine g_callV (J := sm_I35) 43 rfl (Nat.le_of_ble_eq_true rfl) rfl rfl (Nat.le_of_ble_eq_true rfl) s_218 (Nat.le_of_ble_eq_true rfl) (Nat.le_of_ble_eq_true rfl) rfl rfl (F_35 (d + 2) 218 s_218 o1 ((fun z hz => tagU_93 2 s_2 x1 U z hz) o1 ho1) (U.1 o1 4) (U.1 o1 3) U) ?_
      refine g_aload_n 44 rfl rfl rfl ?_
      refine g_get 47 rfl s_0 (Nat.le_of_ble_eq_true rfl) rfl rfl ?_
      refine g_iconst (v := 0) 48 rfl rfl rfl ?_
      obtain ⟨q6, hq6, h⟩ := Option.bind_eq_some_iff.mp h
      refine g_callV (J := sm_I39) 51 rfl (Nat.le_of_ble_eq_true rfl) rfl rfl (Nat.le_of_ble_eq_true rfl) s_218 (Nat.le_of_ble_eq_true rfl) (Nat.le_of_ble_eq_true rfl) rfl rfl (F_39 (d + 1) 218 s_218 0 hq6) ?_
      refine g_aload_n 52 rfl rfl rfl ?_
      refine g_get 55 rfl s_0 (Nat.le_of_ble_eq_true rfl) rfl rfl ?_
      obtain ⟨q7, hq7, h⟩ := Option.bind_eq_some_iff.mp h
      refine g_callV (J := sm_I41) 58 rfl (Nat.le_of_ble_eq_true rfl) rfl rfl (Nat.le_of_ble_eq_true rfl) s_218 (Nat.le_of_ble_eq_true rfl) (Nat.le_of_ble_eq_true rfl) rfl rfl (F_41 d 218 s_218 hq7) ?_
      refine g_aload_n 59 rfl rfl rfl ?_
      refine g_get 62 rfl s_0 (Nat.le_of_ble_eq_true rfl) rfl rfl ?_
      refine g_iload_n 63 rfl rfl rfl ?_
      obtain ⟨q8, hq8, h⟩ := Option.bind_eq_some_iff.mp h
      refine g_callV (J := sm_I56) 66 rfl (Nat.le_of_ble_eq_true rfl) rfl rfl (Nat.le_of_ble_eq_true rfl) s_218 (Nat.le_of_ble_eq_true rfl) (Nat.le_of_ble_eq_true rfl) rfl rfl (F_56 d 218 s_218 x2 hq8) ?_
      refine g_lstore 68 [(4, .long q8), (3, .ref o1), (0, .ref 0), (1, .int x1), (2, .int x2)] rfl (Nat.le_of_ble_eq_true rfl) rfl rfl ?_
      refine g_aload_n 69 rfl rfl rfl ?_
      refine g_get 72 rfl s_0 (Nat.le_of_ble_eq_true rfl) rfl rfl ?_
      refine g_aload_n 73 rfl rfl rfl ?_
      refine g_callV (J := sm_I103) 76 rfl (Nat.le_of_ble_eq_true rfl) rfl rfl (Nat.le_of_ble_eq_true rfl) ((fun z hz => tagU_93 2 s_2 x1 U z hz) o1 ho1) (Nat.le_of_ble_eq_true rfl) (Nat.le_of_ble_eq_true rfl) rfl rfl (F_103 (d + 3) o1 ((fun z hz => tagU_93 2 s_2 x1 U z hz) o1 ho1) q7) ?_
      refine g_iconst (v := 1) 77 rfl rfl rfl ?_
      refine g_isub 78 rfl rfl ?_
      obtain ⟨q9, hq9, h⟩ := Option.bind_eq_some_iff.mp h
      refine g_callV (J := sm_I39) 81 rfl (Nat.le_of_ble_eq_true rfl) rfl rfl (Nat.le_of_ble_eq_true rfl) s_218 (Nat.le_of_ble_eq_true rfl) (Nat.le_of_ble_eq_true rfl) rfl rfl (F_39 (d + 1) 218 s_218 ((f_103 o1 q7) - 1) hq9) ?_
      refine g_aload_n 82 rfl rfl rfl ?_
      refine g_get 85 rfl s_0 (Nat.le_of_ble_eq_true rfl) rfl rfl ?_
      obtain ⟨q10, hq10, h⟩ := Option.bind_eq_some_iff.mp h
      refine g_callV (J := sm_I41) 88 rfl (Nat.le_of_ble_eq_true rfl) rfl rfl (Nat.le_of_ble_eq_true rfl) s_218 (Nat.le_of_ble_eq_true rfl) (Nat.le_of_ble_eq_true rfl) rfl rfl (F_41 d 218 s_218 hq10) ?_
      refine g_lload 90 rfl rfl rfl ?_
      refine g_aload_n 91 rfl rfl rfl ?_
      refine g_get 94 rfl s_0 (Nat.le_of_ble_eq_true rfl) rfl rfl ?_
      refine g_iload_n 95 rfl rfl rfl ?_
      obtain ⟨q11, hq11, h⟩ := Option.bind_eq_some_iff.mp h
      refine g_callV (J := sm_I56) 98 rfl (Nat.le_of_ble_eq_true rfl) rfl rfl (Nat.le_of_ble_eq_true rfl) s_218 (Nat.le_of_ble_eq_true rfl) (Nat.le_of_ble_eq_true rfl) rfl rfl (F_56 d 218 s_218 x2 hq11) ?_
      refine g_lsub 99 rfl rfl ?_
      cases h
      exact g_lret rfl rfl
    · rw [if_pos c5] at h
      refine g_aload_n 21 rfl rfl rfl ?_
      refine g_iconst (v := 5) 22 rfl rfl rfl ?_
      have tq12 := F_158 (d + 1) 5 U
      rcases hq12 : f_158 5 U with ⟨q12, W13⟩
      rw [hq12] at h tq12
      dsimp only at h tq12
      refine g_callV (J := sm_I158) 25 rfl (Nat.le_of_ble_eq_true rfl) rfl rfl (Nat.le_of_ble_eq_true rfl) s_0 (Nat.le_of_ble_eq_true rfl) (Nat.le_of_ble_eq_true rfl) rfl rfl tq12 ?_
      refine g_i2l 26 rfl rfl ?_
      cases h
      exact g_lret rfl rfl

def f_137 (x1 : Int32) (U : sU) : Option (Int32 × sU) :=
  match tat 2 x1 U with
  | none =>
    match f_157 1 U with
    | (q2, W3) =>
    some (q2, W3)
  | some o1 =>
    Option.bind (f_69 232 o1 U) fun q4 =>
    some (q4.1, q4.2)
set_option maxRecDepth 10000 in
set_option maxHeartbeats 2000000 in
theorem F_137 (d : Nat) (x1 : Int32) {U : sU} {r : Int32} {U' : sU} (h : f_137 x1 U = some (r, U')) : Rn (d + 6) sm_I137 [.ref 0, .int x1] U (some (.int r)) U' := by
  refine Rn_of [(0, .ref 0), (1, .int x1)] (Nat.le_of_ble_eq_true rfl) (Sc rfl (Sc rfl (Sn _))) ?_
  first | rw [f_137] at h | rw [f_137.eq_def] at h
  refine g_aload_n 1 rfl rfl rfl ?_
  refine g_get 4 rfl s_0 (Nat.le_of_ble_eq_true rfl) rfl rfl ?_
  refine g_iload_n 5 rfl rfl rfl ?_
  refine g_callV (J := sm_I93) 8 rfl (Nat.le_of_ble_eq_true rfl) rfl rfl (Nat.le_of_ble_eq_true rfl) s_2 (Nat.le_of_ble_eq_true rfl) (Nat.le_of_ble_eq_true rfl) rfl rfl (U_93 (d + 5) 2 s_2 x1 U) ?_
  refine g_astore_nq (x := tat 2 x1 U) 9 [(2, va_rf (tat 2 x1 U)), (0, .ref 0), (1, .int x1)] rfl (Nat.le_of_ble_eq_true rfl) rfl rfl ?_
  refine g_aload_nq (x := tat 2 x1 U) 10 rfl rfl rfl ?_
  rcases ho1 : tat 2 x1 U with _ | o1
  · rw [ho1] at h
    dsimp only at h
    refine g_ifnonnullN 13 rfl rfl ?_
    refine g_aload_n 14 rfl rfl rfl ?_
    refine g_iconst (v := 1) 15 rfl rfl rfl ?_
    have tq2 := F_157 (d + 4) 1 U
    rcases hq2 : f_157 1 U with ⟨q2, W3⟩
    rw [hq2] at h tq2
    dsimp only at h tq2
    refine g_callV (J := sm_I157) 18 rfl (Nat.le_of_ble_eq_true rfl) rfl rfl (Nat.le_of_ble_eq_true rfl) s_0 (Nat.le_of_ble_eq_true rfl) (Nat.le_of_ble_eq_true rfl) rfl rfl tq2 ?_
    refine g_goto 29 rfl ?_
    cases h
    exact g_iret rfl rfl
  · rw [ho1] at h
    dsimp only at h
    refine g_ifnonnull 21 rfl rfl ?_
    refine g_aload_n 22 rfl rfl rfl ?_
    refine g_get 25 rfl s_0 (Nat.le_of_ble_eq_true rfl) rfl rfl ?_
    refine g_aload_n 26 rfl rfl rfl ?_
    obtain ⟨q4, hq4, h⟩ := Option.bind_eq_some_iff.mp h
    refine g_callV (J := sm_I69) 29 rfl (Nat.le_of_ble_eq_true rfl) rfl rfl (Nat.le_of_ble_eq_true rfl) s_232 (Nat.le_of_ble_eq_true rfl) (Nat.le_of_ble_eq_true rfl) rfl rfl (F_69 d 232 s_232 o1 ((fun z hz => tagU_93 2 s_2 x1 U z hz) o1 ho1) hq4) ?_
    cases h
    exact g_iret rfl rfl

def f_138 (x1 : Int32) (U : sU) : Option (Int32 × sU) :=
  match tat 2 x1 U with
  | none =>
    match f_157 1 U with
    | (q2, W3) =>
    some (q2, W3)
  | some o1 =>
    Option.bind (f_70 232 o1 (U.1 o1 4) (U.1 o1 3) U) fun q4 =>
    some (q4.1, q4.2)
set_option maxRecDepth 10000 in
set_option maxHeartbeats 2000000 in
theorem F_138 (d : Nat) (x1 : Int32) {U : sU} {r : Int32} {U' : sU} (h : f_138 x1 U = some (r, U')) : Rn (d + 6) sm_I138 [.ref 0, .int x1] U (some (.int r)) U' := by
  refine Rn_of [(0, .ref 0), (1, .int x1)] (Nat.le_of_ble_eq_true rfl) (Sc rfl (Sc rfl (Sn _))) ?_
  first | rw [f_138] at h | rw [f_138.eq_def] at h
  refine g_aload_n 1 rfl rfl rfl ?_
  refine g_get 4 rfl s_0 (Nat.le_of_ble_eq_true rfl) rfl rfl ?_
  refine g_iload_n 5 rfl rfl rfl ?_
  refine g_callV (J := sm_I93) 8 rfl (Nat.le_of_ble_eq_true rfl) rfl rfl (Nat.le_of_ble_eq_true rfl) s_2 (Nat.le_of_ble_eq_true rfl) (Nat.le_of_ble_eq_true rfl) rfl rfl (U_93 (d + 5) 2 s_2 x1 U) ?_
  refine g_astore_nq (x := tat 2 x1 U) 9 [(2, va_rf (tat 2 x1 U)), (0, .ref 0), (1, .int x1)] rfl (Nat.le_of_ble_eq_true rfl) rfl rfl ?_
  refine g_aload_nq (x := tat 2 x1 U) 10 rfl rfl rfl ?_
  rcases ho1 : tat 2 x1 U with _ | o1
  · rw [ho1] at h
    dsimp only at h
    refine g_ifnonnullN 13 rfl rfl ?_
    refine g_aload_n 14 rfl rfl rfl ?_
    refine g_iconst (v := 1) 15 rfl rfl rfl ?_
    have tq2 := F_157 (d + 4) 1 U
    rcases hq2 : f_157 1 U with ⟨q2, W3⟩
    rw [hq2] at h tq2
    dsimp only at h tq2
    refine g_callV (J := sm_I157) 18 rfl (Nat.le_of_ble_eq_true rfl) rfl rfl (Nat.le_of_ble_eq_true rfl) s_0 (Nat.le_of_ble_eq_true rfl) (Nat.le_of_ble_eq_true rfl) rfl rfl tq2 ?_
    refine g_goto 37 rfl ?_
    cases h
    exact g_iret rfl rfl
  · rw [ho1] at h
    dsimp only at h
    refine g_ifnonnull 21 rfl rfl ?_
    refine g_aload_n 22 rfl rfl rfl ?_
    refine g_get 25 rfl s_0 (Nat.le_of_ble_eq_true rfl) rfl rfl ?_
    refine g_aload_n 26 rfl rfl rfl ?_
    refine g_aload_n 27 rfl rfl rfl ?_
    refine g_get 30 rfl ((fun z hz => tagU_93 2 s_2 x1 U z hz) o1 ho1) (Nat.le_of_ble_eq_true rfl) rfl rfl ?_
    refine g_aload_n 31 rfl rfl rfl ?_
    refine g_get 34 rfl ((fun z hz => tagU_93 2 s_2 x1 U z hz) o1 ho1) (Nat.le_of_ble_eq_true rfl) rfl rfl ?_
    obtain ⟨q4, hq4, h⟩ := Option.bind_eq_some_iff.mp h
    refine g_callV (J := sm_I70) 37 rfl (Nat.le_of_ble_eq_true rfl) rfl rfl (Nat.le_of_ble_eq_true rfl) s_232 (Nat.le_of_ble_eq_true rfl) (Nat.le_of_ble_eq_true rfl) rfl rfl (F_70 d 232 s_232 o1 ((fun z hz => tagU_93 2 s_2 x1 U z hz) o1 ho1) (U.1 o1 4) (U.1 o1 3) hq4) ?_
    cases h
    exact g_iret rfl rfl

def f_139 (x1 : Int32) (U : sU) : Option (Int32 × sU) :=
  match tat 2 x1 U with
  | none =>
    match f_157 1 U with
    | (q2, W3) =>
    some (q2, W3)
  | some o1 =>
    Option.bind (f_71 232 o1 (U.1 o1 4) (U.1 o1 3) U) fun q4 =>
    some (q4.1, q4.2)
set_option maxRecDepth 10000 in
set_option maxHeartbeats 2000000 in
theorem F_139 (d : Nat) (x1 : Int32) {U : sU} {r : Int32} {U' : sU} (h : f_139 x1 U = some (r, U')) : Rn (d + 7) sm_I139 [.ref 0, .int x1] U (some (.int r)) U' := by
  refine Rn_of [(0, .ref 0), (1, .int x1)] (Nat.le_of_ble_eq_true rfl) (Sc rfl (Sc rfl (Sn _))) ?_
  first | rw [f_139] at h | rw [f_139.eq_def] at h
  refine g_aload_n 1 rfl rfl rfl ?_
  refine g_get 4 rfl s_0 (Nat.le_of_ble_eq_true rfl) rfl rfl ?_
  refine g_iload_n 5 rfl rfl rfl ?_
  refine g_callV (J := sm_I93) 8 rfl (Nat.le_of_ble_eq_true rfl) rfl rfl (Nat.le_of_ble_eq_true rfl) s_2 (Nat.le_of_ble_eq_true rfl) (Nat.le_of_ble_eq_true rfl) rfl rfl (U_93 (d + 6) 2 s_2 x1 U) ?_
  refine g_astore_nq (x := tat 2 x1 U) 9 [(2, va_rf (tat 2 x1 U)), (0, .ref 0), (1, .int x1)] rfl (Nat.le_of_ble_eq_true rfl) rfl rfl ?_
  refine g_aload_nq (x := tat 2 x1 U) 10 rfl rfl rfl ?_
  rcases ho1 : tat 2 x1 U with _ | o1
  · rw [ho1] at h
    dsimp only at h
    refine g_ifnonnullN 13 rfl rfl ?_
    refine g_aload_n 14 rfl rfl rfl ?_
    refine g_iconst (v := 1) 15 rfl rfl rfl ?_
    have tq2 := F_157 (d + 5) 1 U
    rcases hq2 : f_157 1 U with ⟨q2, W3⟩
    rw [hq2] at h tq2
    dsimp only at h tq2
    refine g_callV (J := sm_I157) 18 rfl (Nat.le_of_ble_eq_true rfl) rfl rfl (Nat.le_of_ble_eq_true rfl) s_0 (Nat.le_of_ble_eq_true rfl) (Nat.le_of_ble_eq_true rfl) rfl rfl tq2 ?_
    refine g_goto 37 rfl ?_
    cases h
    exact g_iret rfl rfl
  · rw [ho1] at h
    dsimp only at h
    refine g_ifnonnull 21 rfl rfl ?_
    refine g_aload_n 22 rfl rfl rfl ?_
    refine g_get 25 rfl s_0 (Nat.le_of_ble_eq_true rfl) rfl rfl ?_
    refine g_aload_n 26 rfl rfl rfl ?_
    refine g_aload_n 27 rfl rfl rfl ?_
    refine g_get 30 rfl ((fun z hz => tagU_93 2 s_2 x1 U z hz) o1 ho1) (Nat.le_of_ble_eq_true rfl) rfl rfl ?_
    refine g_aload_n 31 rfl rfl rfl ?_
    refine g_get 34 rfl ((fun z hz => tagU_93 2 s_2 x1 U z hz) o1 ho1) (Nat.le_of_ble_eq_true rfl) rfl rfl ?_
    obtain ⟨q4, hq4, h⟩ := Option.bind_eq_some_iff.mp h
    refine g_callV (J := sm_I71) 37 rfl (Nat.le_of_ble_eq_true rfl) rfl rfl (Nat.le_of_ble_eq_true rfl) s_232 (Nat.le_of_ble_eq_true rfl) (Nat.le_of_ble_eq_true rfl) rfl rfl (F_71 d 232 s_232 o1 ((fun z hz => tagU_93 2 s_2 x1 U z hz) o1 ho1) (U.1 o1 4) (U.1 o1 3) hq4) ?_
    cases h
    exact g_iret rfl rfl

def f_140 (x1 : Int32) (x2 : Int32) (U : sU) : Option (Int32 × sU) :=
  match tat 2 x1 U with
  | none =>
    match f_157 1 U with
    | (q2, W3) =>
    some (q2, W3)
  | some o1 =>
    if (f_168 x2 U) = 0 then
      match f_157 6 U with
      | (q6, W7) =>
      some (q6, W7)
    else
      Option.bind (f_72 232 o1 x2 U) fun q8 =>
      some (q8.1, q8.2)
set_option maxRecDepth 10000 in
set_option maxHeartbeats 2000000 in
theorem F_140 (d : Nat) (x1 : Int32) (x2 : Int32) {U : sU} {r : Int32} {U' : sU} (h : f_140 x1 x2 U = some (r, U')) : Rn (d + 6) sm_I140 [.ref 0, .int x1, .int x2] U (some (.int r)) U' := by
  refine Rn_of [(0, .ref 0), (1, .int x1), (2, .int x2)] (Nat.le_of_ble_eq_true rfl) (Sc rfl (Sc rfl (Sc rfl (Sn _)))) ?_
  first | rw [f_140] at h | rw [f_140.eq_def] at h
  refine g_aload_n 1 rfl rfl rfl ?_
  refine g_get 4 rfl s_0 (Nat.le_of_ble_eq_true rfl) rfl rfl ?_
  refine g_iload_n 5 rfl rfl rfl ?_
  refine g_callV (J := sm_I93) 8 rfl (Nat.le_of_ble_eq_true rfl) rfl rfl (Nat.le_of_ble_eq_true rfl) s_2 (Nat.le_of_ble_eq_true rfl) (Nat.le_of_ble_eq_true rfl) rfl rfl (U_93 (d + 5) 2 s_2 x1 U) ?_
  refine g_astore_nq (x := tat 2 x1 U) 9 [(3, va_rf (tat 2 x1 U)), (0, .ref 0), (1, .int x1), (2, .int x2)] rfl (Nat.le_of_ble_eq_true rfl) rfl rfl ?_
  refine g_aload_nq (x := tat 2 x1 U) 10 rfl rfl rfl ?_
  rcases ho1 : tat 2 x1 U with _ | o1
  · rw [ho1] at h
    dsimp only at h
    refine g_ifnonnullN 13 rfl rfl ?_
    refine g_aload_n 14 rfl rfl rfl ?_
    refine g_iconst (v := 1) 15 rfl rfl rfl ?_
    have tq2 := F_157 (d + 4) 1 U
    rcases hq2 : f_157 1 U with ⟨q2, W3⟩
    rw [hq2] at h tq2
    dsimp only at h tq2
    refine g_callV (J := sm_I157) 18 rfl (Nat.le_of_ble_eq_true rfl) rfl rfl (Nat.le_of_ble_eq_true rfl) s_0 (Nat.le_of_ble_eq_true rfl) (Nat.le_of_ble_eq_true rfl) rfl rfl tq2 ?_
    cases h
    exact g_iret rfl rfl
  · rw [ho1] at h
    dsimp only at h
    refine g_ifnonnull 19 rfl rfl ?_
    refine g_iload_n 20 rfl rfl rfl ?_
    have r4 := F_168 (d + 5) x2 U
    refine g_callS (J := sm_I168) 23 rfl (by decide) rfl rfl (Nat.le_of_ble_eq_true rfl) (Nat.le_of_ble_eq_true rfl) rfl rfl r4 ?_
    refine g_if_eq 38 26 rfl rfl (fun c5 => ?_) (fun c5 => ?_)
    · rw [if_pos c5] at h
      refine g_aload_n 39 rfl rfl rfl ?_
      refine g_bipush (v := 6) 41 rfl (by decide) rfl ?_
      have tq6 := F_157 (d + 4) 6 U
      rcases hq6 : f_157 6 U with ⟨q6, W7⟩
      rw [hq6] at h tq6
      dsimp only at h tq6
      refine g_callV (J := sm_I157) 44 rfl (Nat.le_of_ble_eq_true rfl) rfl rfl (Nat.le_of_ble_eq_true rfl) s_0 (Nat.le_of_ble_eq_true rfl) (Nat.le_of_ble_eq_true rfl) rfl rfl tq6 ?_
      cases h
      exact g_iret rfl rfl
    · rw [if_neg c5] at h
      refine g_aload_n 27 rfl rfl rfl ?_
      refine g_get 30 rfl s_0 (Nat.le_of_ble_eq_true rfl) rfl rfl ?_
      refine g_aload_n 31 rfl rfl rfl ?_
      refine g_iload_n 32 rfl rfl rfl ?_
      obtain ⟨q8, hq8, h⟩ := Option.bind_eq_some_iff.mp h
      refine g_callV (J := sm_I72) 35 rfl (Nat.le_of_ble_eq_true rfl) rfl rfl (Nat.le_of_ble_eq_true rfl) s_232 (Nat.le_of_ble_eq_true rfl) (Nat.le_of_ble_eq_true rfl) rfl rfl (F_72 d 232 s_232 o1 ((fun z hz => tagU_93 2 s_2 x1 U z hz) o1 ho1) x2 hq8) ?_
      refine g_goto 44 rfl ?_
      cases h
      exact g_iret rfl rfl

def f_141 (x1 : Int32) (U : sU) : Option (Int32 × sU) :=
  match tat 2 x1 U with
  | none =>
    match f_157 1 U with
    | (q2, W3) =>
    some (q2, W3)
  | some o1 =>
    if (U.1 o1 2) ≤ 6 then
      Option.bind (f_73 232 o1 U) fun q5 =>
      some (q5.1, q5.2)
    else
      match f_157 6 U with
      | (q6, W7) =>
      some (q6, W7)
set_option maxRecDepth 10000 in
set_option maxHeartbeats 2000000 in
theorem F_141 (d : Nat) (x1 : Int32) {U : sU} {r : Int32} {U' : sU} (h : f_141 x1 U = some (r, U')) : Rn (d + 5) sm_I141 [.ref 0, .int x1] U (some (.int r)) U' := by
  refine Rn_of [(0, .ref 0), (1, .int x1)] (Nat.le_of_ble_eq_true rfl) (Sc rfl (Sc rfl (Sn _))) ?_
  first | rw [f_141] at h | rw [f_141.eq_def] at h
  refine g_aload_n 1 rfl rfl rfl ?_
  refine g_get 4 rfl s_0 (Nat.le_of_ble_eq_true rfl) rfl rfl ?_
  refine g_iload_n 5 rfl rfl rfl ?_
  refine g_callV (J := sm_I93) 8 rfl (Nat.le_of_ble_eq_true rfl) rfl rfl (Nat.le_of_ble_eq_true rfl) s_2 (Nat.le_of_ble_eq_true rfl) (Nat.le_of_ble_eq_true rfl) rfl rfl (U_93 (d + 4) 2 s_2 x1 U) ?_
  refine g_astore_nq (x := tat 2 x1 U) 9 [(2, va_rf (tat 2 x1 U)), (0, .ref 0), (1, .int x1)] rfl (Nat.le_of_ble_eq_true rfl) rfl rfl ?_
  refine g_aload_nq (x := tat 2 x1 U) 10 rfl rfl rfl ?_
  rcases ho1 : tat 2 x1 U with _ | o1
  · rw [ho1] at h
    dsimp only at h
    refine g_ifnonnullN 13 rfl rfl ?_
    refine g_aload_n 14 rfl rfl rfl ?_
    refine g_iconst (v := 1) 15 rfl rfl rfl ?_
    have tq2 := F_157 (d + 3) 1 U
    rcases hq2 : f_157 1 U with ⟨q2, W3⟩
    rw [hq2] at h tq2
    dsimp only at h tq2
    refine g_callV (J := sm_I157) 18 rfl (Nat.le_of_ble_eq_true rfl) rfl rfl (Nat.le_of_ble_eq_true rfl) s_0 (Nat.le_of_ble_eq_true rfl) (Nat.le_of_ble_eq_true rfl) rfl rfl tq2 ?_
    cases h
    exact g_iret rfl rfl
  · rw [ho1] at h
    dsimp only at h
    refine g_ifnonnull 19 rfl rfl ?_
    refine g_aload_n 20 rfl rfl rfl ?_
    refine g_get 23 rfl ((fun z hz => tagU_93 2 s_2 x1 U z hz) o1 ho1) (Nat.le_of_ble_eq_true rfl) rfl rfl ?_
    refine g_bipush (v := 6) 25 rfl (by decide) rfl ?_
    refine g_icmp_le 37 28 rfl rfl (fun c4 => ?_) (fun c4 => ?_)
    · rw [if_pos c4] at h
      refine g_aload_n 38 rfl rfl rfl ?_
      refine g_get 41 rfl s_0 (Nat.le_of_ble_eq_true rfl) rfl rfl ?_
      refine g_aload_n 42 rfl rfl rfl ?_
      obtain ⟨q5, hq5, h⟩ := Option.bind_eq_some_iff.mp h
      refine g_callV (J := sm_I73) 45 rfl (Nat.le_of_ble_eq_true rfl) rfl rfl (Nat.le_of_ble_eq_true rfl) s_232 (Nat.le_of_ble_eq_true rfl) (Nat.le_of_ble_eq_true rfl) rfl rfl (F_73 d 232 s_232 o1 ((fun z hz => tagU_93 2 s_2 x1 U z hz) o1 ho1) hq5) ?_
      cases h
      exact g_iret rfl rfl
    · rw [if_neg c4] at h
      refine g_aload_n 29 rfl rfl rfl ?_
      refine g_bipush (v := 6) 31 rfl (by decide) rfl ?_
      have tq6 := F_157 (d + 3) 6 U
      rcases hq6 : f_157 6 U with ⟨q6, W7⟩
      rw [hq6] at h tq6
      dsimp only at h tq6
      refine g_callV (J := sm_I157) 34 rfl (Nat.le_of_ble_eq_true rfl) rfl rfl (Nat.le_of_ble_eq_true rfl) s_0 (Nat.le_of_ble_eq_true rfl) (Nat.le_of_ble_eq_true rfl) rfl rfl tq6 ?_
      refine g_goto 45 rfl ?_
      cases h
      exact g_iret rfl rfl

def f_159 (x1 : Int32) (U : sU) : Int32 × sU :=
  match f_157 x1 U with
  | (q1, W2) =>
  (q1 - 10, W2)
set_option maxRecDepth 10000 in
set_option maxHeartbeats 2000000 in
theorem F_159 (d : Nat) (x1 : Int32) (U : sU) : Rn (d + 2) sm_I159 [.ref 0, .int x1] U (some (.int (f_159 x1 U).1)) (f_159 x1 U).2 := by
  refine Rn_of [(0, .ref 0), (1, .int x1)] (Nat.le_of_ble_eq_true rfl) (Sc rfl (Sc rfl (Sn _))) ?_
  rcases h : f_159 x1 U with ⟨r, U'⟩
  dsimp only
  first | rw [f_159] at h | rw [f_159.eq_def] at h
  refine g_aload_n 1 rfl rfl rfl ?_
  refine g_iload_n 2 rfl rfl rfl ?_
  have tq1 := F_157 d x1 U
  rcases hq1 : f_157 x1 U with ⟨q1, W2⟩
  rw [hq1] at h tq1
  dsimp only at h tq1
  refine g_callV (J := sm_I157) 5 rfl (Nat.le_of_ble_eq_true rfl) rfl rfl (Nat.le_of_ble_eq_true rfl) s_0 (Nat.le_of_ble_eq_true rfl) (Nat.le_of_ble_eq_true rfl) rfl rfl tq1 ?_
  refine g_bipush (v := 10) 7 rfl (by decide) rfl ?_
  refine g_isub 8 rfl rfl ?_
  cases h
  exact g_iret rfl rfl

def f_169 (x0 : Int32) (U : sU) : Int32 :=
  if x0 < 1 then
    0
  else
    if 12 < x0 then
      0
    else
      1
set_option maxRecDepth 10000 in
set_option maxHeartbeats 2000000 in
theorem F_169 (d : Nat) (x0 : Int32) (U : sU) : Rn (d + 0) sm_I169 [.int x0] U (some (.int (f_169 x0 U))) U := by
  refine Rn_of [(0, .int x0)] (Nat.le_of_ble_eq_true rfl) (Sc rfl (Sn _)) ?_
  generalize h : f_169 x0 U = r
  first | rw [f_169] at h | rw [f_169.eq_def] at h
  refine g_iload_n 1 rfl rfl rfl ?_
  refine g_iconst (v := 1) 2 rfl rfl rfl ?_
  refine g_icmp_lt 15 5 rfl rfl (fun c1 => ?_) (fun c1 => ?_)
  · rw [if_pos c1] at h
    refine g_iconst (v := 0) 16 rfl rfl rfl ?_
    subst h
    exact g_zret rfl rfl (Or.inl rfl)
  · rw [if_neg c1] at h
    refine g_iload_n 6 rfl rfl rfl ?_
    refine g_bipush (v := 12) 8 rfl (by decide) rfl ?_
    refine g_icmp_gt 15 11 rfl rfl (fun c2 => ?_) (fun c2 => ?_)
    · rw [if_pos c2] at h
      refine g_iconst (v := 0) 16 rfl rfl rfl ?_
      subst h
      exact g_zret rfl rfl (Or.inl rfl)
    · rw [if_neg c2] at h
      refine g_iconst (v := 1) 12 rfl rfl rfl ?_
      refine g_goto 16 rfl ?_
      subst h
      exact g_zret rfl rfl (Or.inr rfl)

def f_142 (x1 : Int32) (x2 : Int32) (U : sU) : Option (Int32 × sU) :=
  match tat 2 x1 U with
  | none =>
    match f_159 1 U with
    | (q2, W3) =>
    some (q2, W3)
  | some o1 =>
    if (f_169 x2 U) = 0 then
      match f_159 6 U with
      | (q6, W7) =>
      some (q6, W7)
    else
      Option.bind (f_75 232 o1 x2 U) fun q8 =>
      some (q8.1, q8.2)
set_option maxRecDepth 10000 in
set_option maxHeartbeats 2000000 in
theorem F_142 (d : Nat) (x1 : Int32) (x2 : Int32) {U : sU} {r : Int32} {U' : sU} (h : f_142 x1 x2 U = some (r, U')) : Rn (d + 5) sm_I142 [.ref 0, .int x1, .int x2] U (some (.int r)) U' := by
  refine Rn_of [(0, .ref 0), (1, .int x1), (2, .int x2)] (Nat.le_of_ble_eq_true rfl) (Sc rfl (Sc rfl (Sc rfl (Sn _)))) ?_
  first | rw [f_142] at h | rw [f_142.eq_def] at h
  refine g_aload_n 1 rfl rfl rfl ?_
  refine g_get 4 rfl s_0 (Nat.le_of_ble_eq_true rfl) rfl rfl ?_
  refine g_iload_n 5 rfl rfl rfl ?_
  refine g_callV (J := sm_I93) 8 rfl (Nat.le_of_ble_eq_true rfl) rfl rfl (Nat.le_of_ble_eq_true rfl) s_2 (Nat.le_of_ble_eq_true rfl) (Nat.le_of_ble_eq_true rfl) rfl rfl (U_93 (d + 4) 2 s_2 x1 U) ?_
  refine g_astore_nq (x := tat 2 x1 U) 9 [(3, va_rf (tat 2 x1 U)), (0, .ref 0), (1, .int x1), (2, .int x2)] rfl (Nat.le_of_ble_eq_true rfl) rfl rfl ?_
  refine g_aload_nq (x := tat 2 x1 U) 10 rfl rfl rfl ?_
  rcases ho1 : tat 2 x1 U with _ | o1
  · rw [ho1] at h
    dsimp only at h
    refine g_ifnonnullN 13 rfl rfl ?_
    refine g_aload_n 14 rfl rfl rfl ?_
    refine g_iconst (v := 1) 15 rfl rfl rfl ?_
    have tq2 := F_159 (d + 2) 1 U
    rcases hq2 : f_159 1 U with ⟨q2, W3⟩
    rw [hq2] at h tq2
    dsimp only at h tq2
    refine g_callV (J := sm_I159) 18 rfl (Nat.le_of_ble_eq_true rfl) rfl rfl (Nat.le_of_ble_eq_true rfl) s_0 (Nat.le_of_ble_eq_true rfl) (Nat.le_of_ble_eq_true rfl) rfl rfl tq2 ?_
    cases h
    exact g_iret rfl rfl
  · rw [ho1] at h
    dsimp only at h
    refine g_ifnonnull 19 rfl rfl ?_
    refine g_iload_n 20 rfl rfl rfl ?_
    have r4 := F_169 (d + 4) x2 U
    refine g_callS (J := sm_I169) 23 rfl (by decide) rfl rfl (Nat.le_of_ble_eq_true rfl) (Nat.le_of_ble_eq_true rfl) rfl rfl r4 ?_
    refine g_if_eq 38 26 rfl rfl (fun c5 => ?_) (fun c5 => ?_)
    · rw [if_pos c5] at h
      refine g_aload_n 39 rfl rfl rfl ?_
      refine g_bipush (v := 6) 41 rfl (by decide) rfl ?_
      have tq6 := F_159 (d + 2) 6 U
      rcases hq6 : f_159 6 U with ⟨q6, W7⟩
      rw [hq6] at h tq6
      dsimp only at h tq6
      refine g_callV (J := sm_I159) 44 rfl (Nat.le_of_ble_eq_true rfl) rfl rfl (Nat.le_of_ble_eq_true rfl) s_0 (Nat.le_of_ble_eq_true rfl) (Nat.le_of_ble_eq_true rfl) rfl rfl tq6 ?_
      cases h
      exact g_iret rfl rfl
    · rw [if_neg c5] at h
      refine g_aload_n 27 rfl rfl rfl ?_
      refine g_get 30 rfl s_0 (Nat.le_of_ble_eq_true rfl) rfl rfl ?_
      refine g_aload_n 31 rfl rfl rfl ?_
      refine g_iload_n 32 rfl rfl rfl ?_
      obtain ⟨q8, hq8, h⟩ := Option.bind_eq_some_iff.mp h
      refine g_callV (J := sm_I75) 35 rfl (Nat.le_of_ble_eq_true rfl) rfl rfl (Nat.le_of_ble_eq_true rfl) s_232 (Nat.le_of_ble_eq_true rfl) (Nat.le_of_ble_eq_true rfl) rfl rfl (F_75 d 232 s_232 o1 ((fun z hz => tagU_93 2 s_2 x1 U z hz) o1 ho1) x2 hq8) ?_
      refine g_goto 44 rfl ?_
      cases h
      exact g_iret rfl rfl

def f_143 (x1 : Int32) (U : sU) : Option (Int32 × sU) :=
  match tat 2 x1 U with
  | none =>
    match f_157 1 U with
    | (q2, W3) =>
    some (q2, W3)
  | some o1 =>
    if (U.1 o1 7) = 0 then
      match f_157 6 U with
      | (q5, W6) =>
      some (q5, W6)
    else
      Option.bind (f_76 232 o1 U) fun q7 =>
      some (q7.1, q7.2)
set_option maxRecDepth 10000 in
set_option maxHeartbeats 2000000 in
theorem F_143 (d : Nat) (x1 : Int32) {U : sU} {r : Int32} {U' : sU} (h : f_143 x1 U = some (r, U')) : Rn (d + 6) sm_I143 [.ref 0, .int x1] U (some (.int r)) U' := by
  refine Rn_of [(0, .ref 0), (1, .int x1)] (Nat.le_of_ble_eq_true rfl) (Sc rfl (Sc rfl (Sn _))) ?_
  first | rw [f_143] at h | rw [f_143.eq_def] at h
  refine g_aload_n 1 rfl rfl rfl ?_
  refine g_get 4 rfl s_0 (Nat.le_of_ble_eq_true rfl) rfl rfl ?_
  refine g_iload_n 5 rfl rfl rfl ?_
  refine g_callV (J := sm_I93) 8 rfl (Nat.le_of_ble_eq_true rfl) rfl rfl (Nat.le_of_ble_eq_true rfl) s_2 (Nat.le_of_ble_eq_true rfl) (Nat.le_of_ble_eq_true rfl) rfl rfl (U_93 (d + 5) 2 s_2 x1 U) ?_
  refine g_astore_nq (x := tat 2 x1 U) 9 [(2, va_rf (tat 2 x1 U)), (0, .ref 0), (1, .int x1)] rfl (Nat.le_of_ble_eq_true rfl) rfl rfl ?_
  refine g_aload_nq (x := tat 2 x1 U) 10 rfl rfl rfl ?_
  rcases ho1 : tat 2 x1 U with _ | o1
  · rw [ho1] at h
    dsimp only at h
    refine g_ifnonnullN 13 rfl rfl ?_
    refine g_aload_n 14 rfl rfl rfl ?_
    refine g_iconst (v := 1) 15 rfl rfl rfl ?_
    have tq2 := F_157 (d + 4) 1 U
    rcases hq2 : f_157 1 U with ⟨q2, W3⟩
    rw [hq2] at h tq2
    dsimp only at h tq2
    refine g_callV (J := sm_I157) 18 rfl (Nat.le_of_ble_eq_true rfl) rfl rfl (Nat.le_of_ble_eq_true rfl) s_0 (Nat.le_of_ble_eq_true rfl) (Nat.le_of_ble_eq_true rfl) rfl rfl tq2 ?_
    cases h
    exact g_iret rfl rfl
  · rw [ho1] at h
    dsimp only at h
    refine g_ifnonnull 19 rfl rfl ?_
    refine g_aload_n 20 rfl rfl rfl ?_
    refine g_get 23 rfl ((fun z hz => tagU_93 2 s_2 x1 U z hz) o1 ho1) (Nat.le_of_ble_eq_true rfl) rfl rfl ?_
    refine g_if_eq 37 26 rfl rfl (fun c4 => ?_) (fun c4 => ?_)
    · rw [if_pos c4] at h
      refine g_aload_n 38 rfl rfl rfl ?_
      refine g_bipush (v := 6) 40 rfl (by decide) rfl ?_
      have tq5 := F_157 (d + 4) 6 U
      rcases hq5 : f_157 6 U with ⟨q5, W6⟩
      rw [hq5] at h tq5
      dsimp only at h tq5
      refine g_callV (J := sm_I157) 43 rfl (Nat.le_of_ble_eq_true rfl) rfl rfl (Nat.le_of_ble_eq_true rfl) s_0 (Nat.le_of_ble_eq_true rfl) (Nat.le_of_ble_eq_true rfl) rfl rfl tq5 ?_
      cases h
      exact g_iret rfl rfl
    · rw [if_neg c4] at h
      refine g_aload_n 27 rfl rfl rfl ?_
      refine g_get 30 rfl s_0 (Nat.le_of_ble_eq_true rfl) rfl rfl ?_
      refine g_aload_n 31 rfl rfl rfl ?_
      obtain ⟨q7, hq7, h⟩ := Option.bind_eq_some_iff.mp h
      refine g_callV (J := sm_I76) 34 rfl (Nat.le_of_ble_eq_true rfl) rfl rfl (Nat.le_of_ble_eq_true rfl) s_232 (Nat.le_of_ble_eq_true rfl) (Nat.le_of_ble_eq_true rfl) rfl rfl (F_76 d 232 s_232 o1 ((fun z hz => tagU_93 2 s_2 x1 U z hz) o1 ho1) hq7) ?_
      refine g_goto 43 rfl ?_
      cases h
      exact g_iret rfl rfl

def f_144 (x1 : Int32) (U : sU) : Option (Int32 × sU) :=
  match tat 2 x1 U with
  | none =>
    match f_157 1 U with
    | (q2, W3) =>
    some (q2, W3)
  | some o1 =>
    if (U.1 o1 7) = 0 then
      match f_157 6 U with
      | (q7, W8) =>
      some (q7, W8)
    else
      Option.bind (f_71 232 o1 (U.1 o1 8) (U.1 o1 9) U) fun q5 =>
      Option.bind (f_71 232 o1 ((q5.2).1 o1 4) ((q5.2).1 o1 3) q5.2) fun q6 =>
      some ((100 * q5.1) + q6.1, q6.2)
set_option maxRecDepth 10000 in
set_option maxHeartbeats 2000000 in
theorem F_144 (d : Nat) (x1 : Int32) {U : sU} {r : Int32} {U' : sU} (h : f_144 x1 U = some (r, U')) : Rn (d + 7) sm_I144 [.ref 0, .int x1] U (some (.int r)) U' := by
  refine Rn_of [(0, .ref 0), (1, .int x1)] (Nat.le_of_ble_eq_true rfl) (Sc rfl (Sc rfl (Sn _))) ?_
  first | rw [f_144] at h | rw [f_144.eq_def] at h
  refine g_aload_n 1 rfl rfl rfl ?_
  refine g_get 4 rfl s_0 (Nat.le_of_ble_eq_true rfl) rfl rfl ?_
  refine g_iload_n 5 rfl rfl rfl ?_
  refine g_callV (J := sm_I93) 8 rfl (Nat.le_of_ble_eq_true rfl) rfl rfl (Nat.le_of_ble_eq_true rfl) s_2 (Nat.le_of_ble_eq_true rfl) (Nat.le_of_ble_eq_true rfl) rfl rfl (U_93 (d + 6) 2 s_2 x1 U) ?_
  refine g_astore_nq (x := tat 2 x1 U) 9 [(2, va_rf (tat 2 x1 U)), (0, .ref 0), (1, .int x1)] rfl (Nat.le_of_ble_eq_true rfl) rfl rfl ?_
  refine g_aload_nq (x := tat 2 x1 U) 10 rfl rfl rfl ?_
  rcases ho1 : tat 2 x1 U with _ | o1
  · rw [ho1] at h
    dsimp only at h
    refine g_ifnonnullN 13 rfl rfl ?_
    refine g_aload_n 14 rfl rfl rfl ?_
    refine g_iconst (v := 1) 15 rfl rfl rfl ?_
    have tq2 := F_157 (d + 5) 1 U
    rcases hq2 : f_157 1 U with ⟨q2, W3⟩
    rw [hq2] at h tq2
    dsimp only at h tq2
    refine g_callV (J := sm_I157) 18 rfl (Nat.le_of_ble_eq_true rfl) rfl rfl (Nat.le_of_ble_eq_true rfl) s_0 (Nat.le_of_ble_eq_true rfl) (Nat.le_of_ble_eq_true rfl) rfl rfl tq2 ?_
    cases h
    exact g_iret rfl rfl
  · rw [ho1] at h
    dsimp only at h
    refine g_ifnonnull 19 rfl rfl ?_
    refine g_aload_n 20 rfl rfl rfl ?_
    refine g_get 23 rfl ((fun z hz => tagU_93 2 s_2 x1 U z hz) o1 ho1) (Nat.le_of_ble_eq_true rfl) rfl rfl ?_
    refine g_if_ne 33 26 rfl rfl (fun c4 => ?_) (fun c4 => ?_)
    · rw [if_neg c4] at h
      refine g_aload_n 34 rfl rfl rfl ?_
      refine g_get 37 rfl s_0 (Nat.le_of_ble_eq_true rfl) rfl rfl ?_
      refine g_aload_n 38 rfl rfl rfl ?_
      refine g_aload_n 39 rfl rfl rfl ?_
      refine g_get 42 rfl ((fun z hz => tagU_93 2 s_2 x1 U z hz) o1 ho1) (Nat.le_of_ble_eq_true rfl) rfl rfl ?_
      refine g_aload_n 43 rfl rfl rfl ?_
      refine g_get 46 rfl ((fun z hz => tagU_93 2 s_2 x1 U z hz) o1 ho1) (Nat.le_of_ble_eq_true rfl) rfl rfl ?_
      obtain ⟨q5, hq5, h⟩ := Option.bind_eq_some_iff.mp h
      refine g_callV (J := sm_I71) 49 rfl (Nat.le_of_ble_eq_true rfl) rfl rfl (Nat.le_of_ble_eq_true rfl) s_232 (Nat.le_of_ble_eq_true rfl) (Nat.le_of_ble_eq_true rfl) rfl rfl (F_71 d 232 s_232 o1 ((fun z hz => tagU_93 2 s_2 x1 U z hz) o1 ho1) (U.1 o1 8) (U.1 o1 9) hq5) ?_
      refine g_istore_n 50 [(3, .int q5.1), (2, .ref o1), (0, .ref 0), (1, .int x1)] rfl (Nat.le_of_ble_eq_true rfl) rfl rfl ?_
      refine g_bipush (v := 100) 52 rfl (by decide) rfl ?_
      refine g_iload_n 53 rfl rfl rfl ?_
      refine g_imul 54 rfl rfl ?_
      refine g_aload_n 55 rfl rfl rfl ?_
      refine g_get 58 rfl s_0 (Nat.le_of_ble_eq_true rfl) rfl rfl ?_
      refine g_aload_n 59 rfl rfl rfl ?_
      refine g_aload_n 60 rfl rfl rfl ?_
      refine g_get 63 rfl ((fun z hz => tagU_93 2 s_2 x1 U z hz) o1 ho1) (Nat.le_of_ble_eq_true rfl) rfl rfl ?_
      refine g_aload_n 64 rfl rfl rfl ?_
      refine g_get 67 rfl ((fun z hz => tagU_93 2 s_2 x1 U z hz) o1 ho1) (Nat.le_of_ble_eq_true rfl) rfl rfl ?_
      obtain ⟨q6, hq6, h⟩ := Option.bind_eq_some_iff.mp h
      refine g_callV (J := sm_I71) 70 rfl (Nat.le_of_ble_eq_true rfl) rfl rfl (Nat.le_of_ble_eq_true rfl) s_232 (Nat.le_of_ble_eq_true rfl) (Nat.le_of_ble_eq_true rfl) rfl rfl (F_71 d 232 s_232 o1 ((fun z hz => tagU_93 2 s_2 x1 U z hz) o1 ho1) ((q5.2).1 o1 4) ((q5.2).1 o1 3) hq6) ?_
      refine g_iadd 71 rfl rfl ?_
      cases h
      exact g_iret rfl rfl
    · rw [if_pos c4] at h
      refine g_aload_n 27 rfl rfl rfl ?_
      refine g_bipush (v := 6) 29 rfl (by decide) rfl ?_
      have tq7 := F_157 (d + 5) 6 U
      rcases hq7 : f_157 6 U with ⟨q7, W8⟩
      rw [hq7] at h tq7
      dsimp only at h tq7
      refine g_callV (J := sm_I157) 32 rfl (Nat.le_of_ble_eq_true rfl) rfl rfl (Nat.le_of_ble_eq_true rfl) s_0 (Nat.le_of_ble_eq_true rfl) (Nat.le_of_ble_eq_true rfl) rfl rfl tq7 ?_
      cases h
      exact g_iret rfl rfl

def f_145 (x1 : Int32) (x2 : Int32) (x3 : Int32) (U : sU) : Option (Int32 × sU) :=
  match tat 2 x1 U with
  | none =>
    match f_159 1 U with
    | (q2, W3) =>
    some (q2, W3)
  | some o1 =>
    if (f_169 x2 U) = 0 then
      match f_159 6 U with
      | (q6, W7) =>
      some (q6, W7)
    else
      if x3 < 0 then
        match f_159 6 U with
        | (q9, W10) =>
        some (q9, W10)
      else
        if x3 ≤ 1 then
          Option.bind (f_78 232 o1 x2 U) fun q12 =>
          if x3 = 0 then
            some (q12.1 232 3, q12)
          else
            some (q12.1 232 4, q12)
        else
          match f_159 6 U with
          | (q14, W15) =>
          some (q14, W15)
set_option maxRecDepth 10000 in
set_option maxHeartbeats 2000000 in
theorem F_145 (d : Nat) (x1 : Int32) (x2 : Int32) (x3 : Int32) {U : sU} {r : Int32} {U' : sU} (h : f_145 x1 x2 x3 U = some (r, U')) : Rn (d + 6) sm_I145 [.ref 0, .int x1, .int x2, .int x3] U (some (.int r)) U' := by
  refine Rn_of [(0, .ref 0), (1, .int x1), (2, .int x2), (3, .int x3)] (Nat.le_of_ble_eq_true rfl) (Sc rfl (Sc rfl (Sc rfl (Sc rfl (Sn _))))) ?_
  first | rw [f_145] at h | rw [f_145.eq_def] at h
  refine g_aload_n 1 rfl rfl rfl ?_
  refine g_get 4 rfl s_0 (Nat.le_of_ble_eq_true rfl) rfl rfl ?_
  refine g_iload_n 5 rfl rfl rfl ?_
  refine g_callV (J := sm_I93) 8 rfl (Nat.le_of_ble_eq_true rfl) rfl rfl (Nat.le_of_ble_eq_true rfl) s_2 (Nat.le_of_ble_eq_true rfl) (Nat.le_of_ble_eq_true rfl) rfl rfl (U_93 (d + 5) 2 s_2 x1 U) ?_
  refine g_astoreq (x := tat 2 x1 U) 10 [(4, va_rf (tat 2 x1 U)), (0, .ref 0), (1, .int x1), (2, .int x2), (3, .int x3)] rfl (Nat.le_of_ble_eq_true rfl) rfl rfl ?_
  refine g_aloadq (x := tat 2 x1 U) 12 rfl rfl rfl ?_
  rcases ho1 : tat 2 x1 U with _ | o1
  · rw [ho1] at h
    dsimp only at h
    refine g_ifnonnullN 15 rfl rfl ?_
    refine g_aload_n 16 rfl rfl rfl ?_
    refine g_iconst (v := 1) 17 rfl rfl rfl ?_
    have tq2 := F_159 (d + 3) 1 U
    rcases hq2 : f_159 1 U with ⟨q2, W3⟩
    rw [hq2] at h tq2
    dsimp only at h tq2
    refine g_callV (J := sm_I159) 20 rfl (Nat.le_of_ble_eq_true rfl) rfl rfl (Nat.le_of_ble_eq_true rfl) s_0 (Nat.le_of_ble_eq_true rfl) (Nat.le_of_ble_eq_true rfl) rfl rfl tq2 ?_
    cases h
    exact g_iret rfl rfl
  · rw [ho1] at h
    dsimp only at h
    refine g_ifnonnull 21 rfl rfl ?_
    refine g_iload_n 22 rfl rfl rfl ?_
    have r4 := F_169 (d + 5) x2 U
    refine g_callS (J := sm_I169) 25 rfl (by decide) rfl rfl (Nat.le_of_ble_eq_true rfl) (Nat.le_of_ble_eq_true rfl) rfl rfl r4 ?_
    refine g_if_eq 37 28 rfl rfl (fun c5 => ?_) (fun c5 => ?_)
    · rw [if_pos c5] at h
      refine g_aload_n 38 rfl rfl rfl ?_
      refine g_bipush (v := 6) 40 rfl (by decide) rfl ?_
      have tq6 := F_159 (d + 3) 6 U
      rcases hq6 : f_159 6 U with ⟨q6, W7⟩
      rw [hq6] at h tq6
      dsimp only at h tq6
      refine g_callV (J := sm_I159) 43 rfl (Nat.le_of_ble_eq_true rfl) rfl rfl (Nat.le_of_ble_eq_true rfl) s_0 (Nat.le_of_ble_eq_true rfl) (Nat.le_of_ble_eq_true rfl) rfl rfl tq6 ?_
      cases h
      exact g_iret rfl rfl
    · rw [if_neg c5] at h
      refine g_iload_n 29 rfl rfl rfl ?_
      refine g_if_lt 37 32 rfl rfl (fun c8 => ?_) (fun c8 => ?_)
      · rw [if_pos c8] at h
        refine g_aload_n 38 rfl rfl rfl ?_
        refine g_bipush (v := 6) 40 rfl (by decide) rfl ?_
        have tq9 := F_159 (d + 3) 6 U
        rcases hq9 : f_159 6 U with ⟨q9, W10⟩
        rw [hq9] at h tq9
        dsimp only at h tq9
        refine g_callV (J := sm_I159) 43 rfl (Nat.le_of_ble_eq_true rfl) rfl rfl (Nat.le_of_ble_eq_true rfl) s_0 (Nat.le_of_ble_eq_true rfl) (Nat.le_of_ble_eq_true rfl) rfl rfl tq9 ?_
        cases h
        exact g_iret rfl rfl
      · rw [if_neg c8] at h
        refine g_iload_n 33 rfl rfl rfl ?_
        refine g_iconst (v := 1) 34 rfl rfl rfl ?_
        refine g_icmp_le 44 37 rfl rfl (fun c11 => ?_) (fun c11 => ?_)
        · rw [if_pos c11] at h
          refine g_aload_n 45 rfl rfl rfl ?_
          refine g_get 48 rfl s_0 (Nat.le_of_ble_eq_true rfl) rfl rfl ?_
          refine g_aload 50 rfl rfl rfl ?_
          refine g_iload_n 51 rfl rfl rfl ?_
          obtain ⟨q12, hq12, h⟩ := Option.bind_eq_some_iff.mp h
          refine g_callV (J := sm_I78) 54 rfl (Nat.le_of_ble_eq_true rfl) rfl rfl (Nat.le_of_ble_eq_true rfl) s_232 (Nat.le_of_ble_eq_true rfl) (Nat.le_of_ble_eq_true rfl) rfl rfl (F_78 d 232 s_232 o1 ((fun z hz => tagU_93 2 s_2 x1 U z hz) o1 ho1) x2 hq12) ?_
          refine g_iload_n 55 rfl rfl rfl ?_
          refine g_if_ne 68 58 rfl rfl (fun c13 => ?_) (fun c13 => ?_)
          · rw [if_neg c13] at h
            refine g_aload_n 69 rfl rfl rfl ?_
            refine g_get 72 rfl s_0 (Nat.le_of_ble_eq_true rfl) rfl rfl ?_
            refine g_get 75 rfl s_232 (Nat.le_of_ble_eq_true rfl) rfl rfl ?_
            cases h
            exact g_iret rfl rfl
          · rw [if_pos c13] at h
            refine g_aload_n 59 rfl rfl rfl ?_
            refine g_get 62 rfl s_0 (Nat.le_of_ble_eq_true rfl) rfl rfl ?_
            refine g_get 65 rfl s_232 (Nat.le_of_ble_eq_true rfl) rfl rfl ?_
            refine g_goto 75 rfl ?_
            cases h
            exact g_iret rfl rfl
        · rw [if_neg c11] at h
          refine g_aload_n 38 rfl rfl rfl ?_
          refine g_bipush (v := 6) 40 rfl (by decide) rfl ?_
          have tq14 := F_159 (d + 3) 6 U
          rcases hq14 : f_159 6 U with ⟨q14, W15⟩
          rw [hq14] at h tq14
          dsimp only at h tq14
          refine g_callV (J := sm_I159) 43 rfl (Nat.le_of_ble_eq_true rfl) rfl rfl (Nat.le_of_ble_eq_true rfl) s_0 (Nat.le_of_ble_eq_true rfl) (Nat.le_of_ble_eq_true rfl) rfl rfl tq14 ?_
          cases h
          exact g_iret rfl rfl

def f_146 (x1 : Int32) (x2 : Int32) (x3 : Int32) (U : sU) : Option (Int64 × sU) :=
  match tat 2 x1 U with
  | none =>
    match f_158 5 U with
    | (q2, W3) =>
    some (q2.toInt64, W3)
  | some o1 =>
    if (f_170 x2 U) = 0 then
      match f_158 5 U with
      | (q6, W7) =>
      some (q6.toInt64, W7)
    else
      if (f_170 x3 U) = 0 then
        match f_158 5 U with
        | (q10, W11) =>
        some (q10.toInt64, W11)
      else
        if x2 ≤ x3 then
          Option.bind (f_107 o1 x2 x3 U) fun q13 =>
          some (q13, U)
        else
          match f_158 5 U with
          | (q14, W15) =>
          some (q14.toInt64, W15)
set_option maxRecDepth 10000 in
set_option maxHeartbeats 2000000 in
theorem F_146 (d : Nat) (x1 : Int32) (x2 : Int32) (x3 : Int32) {U : sU} {r : Int64} {U' : sU} (h : f_146 x1 x2 x3 U = some (r, U')) : Rn (d + 3) sm_I146 [.ref 0, .int x1, .int x2, .int x3] U (some (.long r)) U' := by
  refine Rn_of [(0, .ref 0), (1, .int x1), (2, .int x2), (3, .int x3)] (Nat.le_of_ble_eq_true rfl) (Sc rfl (Sc rfl (Sc rfl (Sc rfl (Sn _))))) ?_
  first | rw [f_146] at h | rw [f_146.eq_def] at h
  refine g_aload_n 1 rfl rfl rfl ?_
  refine g_get 4 rfl s_0 (Nat.le_of_ble_eq_true rfl) rfl rfl ?_
  refine g_iload_n 5 rfl rfl rfl ?_
  refine g_callV (J := sm_I93) 8 rfl (Nat.le_of_ble_eq_true rfl) rfl rfl (Nat.le_of_ble_eq_true rfl) s_2 (Nat.le_of_ble_eq_true rfl) (Nat.le_of_ble_eq_true rfl) rfl rfl (U_93 (d + 2) 2 s_2 x1 U) ?_
  refine g_astoreq (x := tat 2 x1 U) 10 [(4, va_rf (tat 2 x1 U)), (0, .ref 0), (1, .int x1), (2, .int x2), (3, .int x3)] rfl (Nat.le_of_ble_eq_true rfl) rfl rfl ?_
  refine g_aloadq (x := tat 2 x1 U) 12 rfl rfl rfl ?_
  rcases ho1 : tat 2 x1 U with _ | o1
  · rw [ho1] at h
    dsimp only at h
    refine g_ifnullN 34 rfl rfl ?_
    refine g_aload_n 35 rfl rfl rfl ?_
    refine g_iconst (v := 5) 36 rfl rfl rfl ?_
    have tq2 := F_158 d 5 U
    rcases hq2 : f_158 5 U with ⟨q2, W3⟩
    rw [hq2] at h tq2
    dsimp only at h tq2
    refine g_callV (J := sm_I158) 39 rfl (Nat.le_of_ble_eq_true rfl) rfl rfl (Nat.le_of_ble_eq_true rfl) s_0 (Nat.le_of_ble_eq_true rfl) (Nat.le_of_ble_eq_true rfl) rfl rfl tq2 ?_
    refine g_i2l 40 rfl rfl ?_
    cases h
    exact g_lret rfl rfl
  · rw [ho1] at h
    dsimp only at h
    refine g_ifnull 15 rfl rfl ?_
    refine g_iload_n 16 rfl rfl rfl ?_
    have r4 := F_170 (d + 2) x2 U
    refine g_callS (J := sm_I170) 19 rfl (by decide) rfl rfl (Nat.le_of_ble_eq_true rfl) (Nat.le_of_ble_eq_true rfl) rfl rfl r4 ?_
    refine g_if_eq 34 22 rfl rfl (fun c5 => ?_) (fun c5 => ?_)
    · rw [if_pos c5] at h
      refine g_aload_n 35 rfl rfl rfl ?_
      refine g_iconst (v := 5) 36 rfl rfl rfl ?_
      have tq6 := F_158 d 5 U
      rcases hq6 : f_158 5 U with ⟨q6, W7⟩
      rw [hq6] at h tq6
      dsimp only at h tq6
      refine g_callV (J := sm_I158) 39 rfl (Nat.le_of_ble_eq_true rfl) rfl rfl (Nat.le_of_ble_eq_true rfl) s_0 (Nat.le_of_ble_eq_true rfl) (Nat.le_of_ble_eq_true rfl) rfl rfl tq6 ?_
      refine g_i2l 40 rfl rfl ?_
      cases h
      exact g_lret rfl rfl
    · rw [if_neg c5] at h
      refine g_iload_n 23 rfl rfl rfl ?_
      have r8 := F_170 (d + 2) x3 U
      refine g_callS (J := sm_I170) 26 rfl (by decide) rfl rfl (Nat.le_of_ble_eq_true rfl) (Nat.le_of_ble_eq_true rfl) rfl rfl r8 ?_
      refine g_if_eq 34 29 rfl rfl (fun c9 => ?_) (fun c9 => ?_)
      · rw [if_pos c9] at h
        refine g_aload_n 35 rfl rfl rfl ?_
        refine g_iconst (v := 5) 36 rfl rfl rfl ?_
        have tq10 := F_158 d 5 U
        rcases hq10 : f_158 5 U with ⟨q10, W11⟩
        rw [hq10] at h tq10
        dsimp only at h tq10
        refine g_callV (J := sm_I158) 39 rfl (Nat.le_of_ble_eq_true rfl) rfl rfl (Nat.le_of_ble_eq_true rfl) s_0 (Nat.le_of_ble_eq_true rfl) (Nat.le_of_ble_eq_true rfl) rfl rfl tq10 ?_
        refine g_i2l 40 rfl rfl ?_
        cases h
        exact g_lret rfl rfl
      · rw [if_neg c9] at h
        refine g_iload_n 30 rfl rfl rfl ?_
        refine g_iload_n 31 rfl rfl rfl ?_
        refine g_icmp_le 41 34 rfl rfl (fun c12 => ?_) (fun c12 => ?_)
        · rw [if_pos c12] at h
          refine g_aload 43 rfl rfl rfl ?_
          refine g_iload_n 44 rfl rfl rfl ?_
          refine g_iload_n 45 rfl rfl rfl ?_
          obtain ⟨q13, hq13, h⟩ := Option.bind_eq_some_iff.mp h
          refine g_callV (J := sm_I107) 48 rfl (Nat.le_of_ble_eq_true rfl) rfl rfl (Nat.le_of_ble_eq_true rfl) ((fun z hz => tagU_93 2 s_2 x1 U z hz) o1 ho1) (Nat.le_of_ble_eq_true rfl) (Nat.le_of_ble_eq_true rfl) rfl rfl (F_107 (d + 1) o1 ((fun z hz => tagU_93 2 s_2 x1 U z hz) o1 ho1) x2 x3 hq13) ?_
          cases h
          exact g_lret rfl rfl
        · rw [if_neg c12] at h
          refine g_aload_n 35 rfl rfl rfl ?_
          refine g_iconst (v := 5) 36 rfl rfl rfl ?_
          have tq14 := F_158 d 5 U
          rcases hq14 : f_158 5 U with ⟨q14, W15⟩
          rw [hq14] at h tq14
          dsimp only at h tq14
          refine g_callV (J := sm_I158) 39 rfl (Nat.le_of_ble_eq_true rfl) rfl rfl (Nat.le_of_ble_eq_true rfl) s_0 (Nat.le_of_ble_eq_true rfl) (Nat.le_of_ble_eq_true rfl) rfl rfl tq14 ?_
          refine g_i2l 40 rfl rfl ?_
          cases h
          exact g_lret rfl rfl

def f_147 (x1 : Int32) (U : sU) : Option (Int32 × sU) :=
  match tat 2 x1 U with
  | none =>
    match f_157 1 U with
    | (q2, W3) =>
    some (q2, W3)
  | some o1 =>
    Option.bind (f_109 o1 U) fun q4 =>
    some (q4, U)
set_option maxRecDepth 10000 in
set_option maxHeartbeats 2000000 in
theorem F_147 (d : Nat) (x1 : Int32) {U : sU} {r : Int32} {U' : sU} (h : f_147 x1 U = some (r, U')) : Rn (d + 3) sm_I147 [.ref 0, .int x1] U (some (.int r)) U' := by
  refine Rn_of [(0, .ref 0), (1, .int x1)] (Nat.le_of_ble_eq_true rfl) (Sc rfl (Sc rfl (Sn _))) ?_
  first | rw [f_147] at h | rw [f_147.eq_def] at h
  refine g_aload_n 1 rfl rfl rfl ?_
  refine g_get 4 rfl s_0 (Nat.le_of_ble_eq_true rfl) rfl rfl ?_
  refine g_iload_n 5 rfl rfl rfl ?_
  refine g_callV (J := sm_I93) 8 rfl (Nat.le_of_ble_eq_true rfl) rfl rfl (Nat.le_of_ble_eq_true rfl) s_2 (Nat.le_of_ble_eq_true rfl) (Nat.le_of_ble_eq_true rfl) rfl rfl (U_93 (d + 2) 2 s_2 x1 U) ?_
  refine g_astore_nq (x := tat 2 x1 U) 9 [(2, va_rf (tat 2 x1 U)), (0, .ref 0), (1, .int x1)] rfl (Nat.le_of_ble_eq_true rfl) rfl rfl ?_
  refine g_aload_nq (x := tat 2 x1 U) 10 rfl rfl rfl ?_
  rcases ho1 : tat 2 x1 U with _ | o1
  · rw [ho1] at h
    dsimp only at h
    refine g_ifnonnullN 13 rfl rfl ?_
    refine g_aload_n 14 rfl rfl rfl ?_
    refine g_iconst (v := 1) 15 rfl rfl rfl ?_
    have tq2 := F_157 (d + 1) 1 U
    rcases hq2 : f_157 1 U with ⟨q2, W3⟩
    rw [hq2] at h tq2
    dsimp only at h tq2
    refine g_callV (J := sm_I157) 18 rfl (Nat.le_of_ble_eq_true rfl) rfl rfl (Nat.le_of_ble_eq_true rfl) s_0 (Nat.le_of_ble_eq_true rfl) (Nat.le_of_ble_eq_true rfl) rfl rfl tq2 ?_
    refine g_goto 25 rfl ?_
    cases h
    exact g_iret rfl rfl
  · rw [ho1] at h
    dsimp only at h
    refine g_ifnonnull 21 rfl rfl ?_
    refine g_aload_n 22 rfl rfl rfl ?_
    obtain ⟨q4, hq4, h⟩ := Option.bind_eq_some_iff.mp h
    refine g_callV (J := sm_I109) 25 rfl (Nat.le_of_ble_eq_true rfl) rfl rfl (Nat.le_of_ble_eq_true rfl) ((fun z hz => tagU_93 2 s_2 x1 U z hz) o1 ho1) (Nat.le_of_ble_eq_true rfl) (Nat.le_of_ble_eq_true rfl) rfl rfl (F_109 d o1 ((fun z hz => tagU_93 2 s_2 x1 U z hz) o1 ho1) hq4) ?_
    cases h
    exact g_iret rfl rfl

def f_148 (x1 : Int32) (U : sU) : Option (Int32 × sU) :=
  match tat 2 x1 U with
  | none =>
    match f_157 1 U with
    | (q2, W3) =>
    some (q2, W3)
  | some o1 =>
    Option.bind (f_109 o1 U) fun q4 =>
    Option.bind (f_72 232 o1 0 U) fun q5 =>
    Option.bind (f_107 o1 (q4 / 1000) (q4 - q4 / 1000 * 1000) q5.2) fun q8 =>
    if 0 ≤ (lg_cmp q8 (q5.2.2.1 232 2)) then
      some (0, q5.2)
    else
      some (1, q5.2)
set_option maxRecDepth 10000 in
set_option maxHeartbeats 2000000 in
theorem F_148 (d : Nat) (x1 : Int32) {U : sU} {r : Int32} {U' : sU} (h : f_148 x1 U = some (r, U')) : Rn (d + 6) sm_I148 [.ref 0, .int x1] U (some (.int r)) U' := by
  refine Rn_of [(0, .ref 0), (1, .int x1)] (Nat.le_of_ble_eq_true rfl) (Sc rfl (Sc rfl (Sn _))) ?_
  first | rw [f_148] at h | rw [f_148.eq_def] at h
  refine g_aload_n 1 rfl rfl rfl ?_
  refine g_get 4 rfl s_0 (Nat.le_of_ble_eq_true rfl) rfl rfl ?_
  refine g_iload_n 5 rfl rfl rfl ?_
  refine g_callV (J := sm_I93) 8 rfl (Nat.le_of_ble_eq_true rfl) rfl rfl (Nat.le_of_ble_eq_true rfl) s_2 (Nat.le_of_ble_eq_true rfl) (Nat.le_of_ble_eq_true rfl) rfl rfl (U_93 (d + 5) 2 s_2 x1 U) ?_
  refine g_astore_nq (x := tat 2 x1 U) 9 [(2, va_rf (tat 2 x1 U)), (0, .ref 0), (1, .int x1)] rfl (Nat.le_of_ble_eq_true rfl) rfl rfl ?_
  refine g_aload_nq (x := tat 2 x1 U) 10 rfl rfl rfl ?_
  rcases ho1 : tat 2 x1 U with _ | o1
  · rw [ho1] at h
    dsimp only at h
    refine g_ifnonnullN 13 rfl rfl ?_
    refine g_aload_n 14 rfl rfl rfl ?_
    refine g_iconst (v := 1) 15 rfl rfl rfl ?_
    have tq2 := F_157 (d + 4) 1 U
    rcases hq2 : f_157 1 U with ⟨q2, W3⟩
    rw [hq2] at h tq2
    dsimp only at h tq2
    refine g_callV (J := sm_I157) 18 rfl (Nat.le_of_ble_eq_true rfl) rfl rfl (Nat.le_of_ble_eq_true rfl) s_0 (Nat.le_of_ble_eq_true rfl) (Nat.le_of_ble_eq_true rfl) rfl rfl tq2 ?_
    cases h
    exact g_iret rfl rfl
  · rw [ho1] at h
    dsimp only at h
    refine g_ifnonnull 19 rfl rfl ?_
    refine g_aload_n 20 rfl rfl rfl ?_
    obtain ⟨q4, hq4, h⟩ := Option.bind_eq_some_iff.mp h
    refine g_callV (J := sm_I109) 23 rfl (Nat.le_of_ble_eq_true rfl) rfl rfl (Nat.le_of_ble_eq_true rfl) ((fun z hz => tagU_93 2 s_2 x1 U z hz) o1 ho1) (Nat.le_of_ble_eq_true rfl) (Nat.le_of_ble_eq_true rfl) rfl rfl (F_109 (d + 3) o1 ((fun z hz => tagU_93 2 s_2 x1 U z hz) o1 ho1) hq4) ?_
    refine g_istore_n 24 [(3, .int q4), (2, .ref o1), (0, .ref 0), (1, .int x1)] rfl (Nat.le_of_ble_eq_true rfl) rfl rfl ?_
    refine g_aload_n 25 rfl rfl rfl ?_
    refine g_get 28 rfl s_0 (Nat.le_of_ble_eq_true rfl) rfl rfl ?_
    refine g_aload_n 29 rfl rfl rfl ?_
    refine g_iconst (v := 0) 30 rfl rfl rfl ?_
    obtain ⟨q5, hq5, h⟩ := Option.bind_eq_some_iff.mp h
    refine g_callV (J := sm_I72) 33 rfl (Nat.le_of_ble_eq_true rfl) rfl rfl (Nat.le_of_ble_eq_true rfl) s_232 (Nat.le_of_ble_eq_true rfl) (Nat.le_of_ble_eq_true rfl) rfl rfl (F_72 d 232 s_232 o1 ((fun z hz => tagU_93 2 s_2 x1 U z hz) o1 ho1) 0 hq5) ?_
    refine g_pop 34 rfl rfl rfl ?_
    refine g_aload_n 35 rfl rfl rfl ?_
    refine g_iload_n 36 rfl rfl rfl ?_
    refine g_sipush (v := 1000) 39 rfl (by decide) rfl ?_
    refine g_idiv 40 rfl (by decide) rfl ?_
    refine g_iload_n 41 rfl rfl rfl ?_
    refine g_sipush (v := 1000) 44 rfl (by decide) rfl ?_
    refine g_irem 45 rfl (by decide) rfl ?_
    obtain ⟨q8, hq8, h⟩ := Option.bind_eq_some_iff.mp h
    refine g_callV (J := sm_I107) 48 rfl (Nat.le_of_ble_eq_true rfl) rfl rfl (Nat.le_of_ble_eq_true rfl) ((fun z hz => tagU_93 2 s_2 x1 U z hz) o1 ho1) (Nat.le_of_ble_eq_true rfl) (Nat.le_of_ble_eq_true rfl) rfl rfl (F_107 (d + 4) o1 ((fun z hz => tagU_93 2 s_2 x1 U z hz) o1 ho1) (q4 / 1000) (q4 - q4 / 1000 * 1000) hq8) ?_
    refine g_aload_n 49 rfl rfl rfl ?_
    refine g_get 52 rfl s_0 (Nat.le_of_ble_eq_true rfl) rfl rfl ?_
    refine g_get 55 rfl s_232 (Nat.le_of_ble_eq_true rfl) rfl rfl ?_
    refine g_lcmp 56 rfl rfl ?_
    refine g_if_ge 63 59 rfl rfl (fun c9 => ?_) (fun c9 => ?_)
    · rw [if_pos c9] at h
      refine g_iconst (v := 0) 64 rfl rfl rfl ?_
      cases h
      exact g_iret rfl rfl
    · rw [if_neg c9] at h
      refine g_iconst (v := 1) 60 rfl rfl rfl ?_
      refine g_goto 64 rfl ?_
      cases h
      exact g_iret rfl rfl

def f_149 (x1 : Int32) (x2 : Int32) (U : sU) : Option (Int32 × sU) :=
  match tat 2 x1 U with
  | none =>
    match f_159 1 U with
    | (q2, W3) =>
    some (q2, W3)
  | some o1 =>
    if (f_171 x2 U) = 0 then
      match f_159 6 U with
      | (q6, W7) =>
      some (q6, W7)
    else
      Option.bind (f_110 o1 x2 U) fun q8 =>
      some (q8, U)
set_option maxRecDepth 10000 in
set_option maxHeartbeats 2000000 in
theorem F_149 (d : Nat) (x1 : Int32) (x2 : Int32) {U : sU} {r : Int32} {U' : sU} (h : f_149 x1 x2 U = some (r, U')) : Rn (d + 3) sm_I149 [.ref 0, .int x1, .int x2] U (some (.int r)) U' := by
  refine Rn_of [(0, .ref 0), (1, .int x1), (2, .int x2)] (Nat.le_of_ble_eq_true rfl) (Sc rfl (Sc rfl (Sc rfl (Sn _)))) ?_
  first | rw [f_149] at h | rw [f_149.eq_def] at h
  refine g_aload_n 1 rfl rfl rfl ?_
  refine g_get 4 rfl s_0 (Nat.le_of_ble_eq_true rfl) rfl rfl ?_
  refine g_iload_n 5 rfl rfl rfl ?_
  refine g_callV (J := sm_I93) 8 rfl (Nat.le_of_ble_eq_true rfl) rfl rfl (Nat.le_of_ble_eq_true rfl) s_2 (Nat.le_of_ble_eq_true rfl) (Nat.le_of_ble_eq_true rfl) rfl rfl (U_93 (d + 2) 2 s_2 x1 U) ?_
  refine g_astore_nq (x := tat 2 x1 U) 9 [(3, va_rf (tat 2 x1 U)), (0, .ref 0), (1, .int x1), (2, .int x2)] rfl (Nat.le_of_ble_eq_true rfl) rfl rfl ?_
  refine g_aload_nq (x := tat 2 x1 U) 10 rfl rfl rfl ?_
  rcases ho1 : tat 2 x1 U with _ | o1
  · rw [ho1] at h
    dsimp only at h
    refine g_ifnonnullN 13 rfl rfl ?_
    refine g_aload_n 14 rfl rfl rfl ?_
    refine g_iconst (v := 1) 15 rfl rfl rfl ?_
    have tq2 := F_159 d 1 U
    rcases hq2 : f_159 1 U with ⟨q2, W3⟩
    rw [hq2] at h tq2
    dsimp only at h tq2
    refine g_callV (J := sm_I159) 18 rfl (Nat.le_of_ble_eq_true rfl) rfl rfl (Nat.le_of_ble_eq_true rfl) s_0 (Nat.le_of_ble_eq_true rfl) (Nat.le_of_ble_eq_true rfl) rfl rfl tq2 ?_
    cases h
    exact g_iret rfl rfl
  · rw [ho1] at h
    dsimp only at h
    refine g_ifnonnull 19 rfl rfl ?_
    refine g_iload_n 20 rfl rfl rfl ?_
    have r4 := F_171 (d + 2) x2 U
    refine g_callS (J := sm_I171) 23 rfl (by decide) rfl rfl (Nat.le_of_ble_eq_true rfl) (Nat.le_of_ble_eq_true rfl) rfl rfl r4 ?_
    refine g_if_eq 34 26 rfl rfl (fun c5 => ?_) (fun c5 => ?_)
    · rw [if_pos c5] at h
      refine g_aload_n 35 rfl rfl rfl ?_
      refine g_bipush (v := 6) 37 rfl (by decide) rfl ?_
      have tq6 := F_159 d 6 U
      rcases hq6 : f_159 6 U with ⟨q6, W7⟩
      rw [hq6] at h tq6
      dsimp only at h tq6
      refine g_callV (J := sm_I159) 40 rfl (Nat.le_of_ble_eq_true rfl) rfl rfl (Nat.le_of_ble_eq_true rfl) s_0 (Nat.le_of_ble_eq_true rfl) (Nat.le_of_ble_eq_true rfl) rfl rfl tq6 ?_
      cases h
      exact g_iret rfl rfl
    · rw [if_neg c5] at h
      refine g_aload_n 27 rfl rfl rfl ?_
      refine g_iload_n 28 rfl rfl rfl ?_
      obtain ⟨q8, hq8, h⟩ := Option.bind_eq_some_iff.mp h
      refine g_callV (J := sm_I110) 31 rfl (Nat.le_of_ble_eq_true rfl) rfl rfl (Nat.le_of_ble_eq_true rfl) ((fun z hz => tagU_93 2 s_2 x1 U z hz) o1 ho1) (Nat.le_of_ble_eq_true rfl) (Nat.le_of_ble_eq_true rfl) rfl rfl (F_110 d o1 ((fun z hz => tagU_93 2 s_2 x1 U z hz) o1 ho1) x2 hq8) ?_
      refine g_goto 40 rfl ?_
      cases h
      exact g_iret rfl rfl

def f_165_4 : Nat → Int32 → Int32 → sU → Option (Int32 × sU)
  | 0, _, _, _ => none
  | n + 1, v1, v2, U =>
    if (U.1 2 3) ≤ v2 then
      some (v1, U)
    else
      Option.bind (f_40 218 2 v2 U) fun q2 =>
      if q2.1 = 0 then
        f_165_4 n v1 (v2 + 1) q2.2
      else
        Option.bind (f_58 218 q2.2) fun q5 =>
        if q5 = ((-1)) then
          f_165_4 n (v1 ||| (1 <<< (v2 &&& 31))) (v2 + 1) q2.2
        else
          f_165_4 n v1 (v2 + 1) q2.2
set_option maxRecDepth 10000 in
set_option maxHeartbeats 2000000 in
theorem F_165_4 (d : Nat)   : ∀ (n : Nat) (v1 : Int32) (v2 : Int32) (U : sU) (r : Int32) (U' : sU), f_165_4 n v1 v2 U = some (r, U') → G (d + 5) sm_I165 4 [(0, .ref 0), (1, .int v1), (2, .int v2)] [] U (some (.int r)) U' := by
  intro n
  induction n with
  | zero => intro v1 v2 U r U' h; cases h
  | succ n ih =>
    intro v1 v2 U r U' h
    first | rw [f_165_4] at h | (rw [f_165_4.eq_def] at h; dsimp only at h)
    refine g_iload_n 5 rfl rfl rfl ?_
    refine g_aload_n 6 rfl rfl rfl ?_
    refine g_get 9 rfl s_0 (Nat.le_of_ble_eq_true rfl) rfl rfl ?_
    refine g_get 12 rfl s_2 (Nat.le_of_ble_eq_true rfl) rfl rfl ?_
    refine g_icmp_ge 53 15 rfl rfl (fun c1 => ?_) (fun c1 => ?_)
    · rw [if_pos c1] at h
      refine g_iload_n 54 rfl rfl rfl ?_
      cases h
      exact g_iret rfl rfl
    · rw [if_neg c1] at h
      refine g_aload_n 16 rfl rfl rfl ?_
      refine g_get 19 rfl s_0 (Nat.le_of_ble_eq_true rfl) rfl rfl ?_
      refine g_aload_n 20 rfl rfl rfl ?_
      refine g_get 23 rfl s_0 (Nat.le_of_ble_eq_true rfl) rfl rfl ?_
      refine g_iload_n 24 rfl rfl rfl ?_
      obtain ⟨q2, hq2, h⟩ := Option.bind_eq_some_iff.mp h
      have r3 := (F_40 d 218 s_218 2 s_2 v2 hq2)
      refine g_callV (J := sm_I40) 27 rfl (Nat.le_of_ble_eq_true rfl) rfl rfl (Nat.le_of_ble_eq_true rfl) s_218 (Nat.le_of_ble_eq_true rfl) (Nat.le_of_ble_eq_true rfl) rfl rfl r3 ?_
      refine g_if_eq 47 30 rfl rfl (fun c4 => ?_) (fun c4 => ?_)
      · rw [if_pos c4] at h
        refine g_iinc (v := v2 + 1) 50 [(2, .int (v2 + 1)), (0, .ref 0), (1, .int v1)] rfl rfl (Nat.le_of_ble_eq_true rfl) rfl rfl rfl ?_
        refine g_goto 4 rfl ?_
        exact g_sub (Sc rfl (Sc rfl (Sc rfl (Sn _)))) (ih v1 (v2 + 1) _ _ _ h)
      · rw [if_neg c4] at h
        refine g_aload_n 31 rfl rfl rfl ?_
        refine g_get 34 rfl s_0 (Nat.le_of_ble_eq_true rfl) rfl rfl ?_
        obtain ⟨q5, hq5, h⟩ := Option.bind_eq_some_iff.mp h
        refine g_callV (J := sm_I58) 37 rfl (Nat.le_of_ble_eq_true rfl) rfl rfl (Nat.le_of_ble_eq_true rfl) s_218 (Nat.le_of_ble_eq_true rfl) (Nat.le_of_ble_eq_true rfl) rfl rfl (F_58 d 218 s_218 hq5) ?_
        refine g_iconst (v := (-1)) 38 rfl rfl rfl ?_
        refine g_icmp_ne 47 41 rfl rfl (fun c6 => ?_) (fun c6 => ?_)
        · rw [if_neg c6] at h
          refine g_iinc (v := v2 + 1) 50 [(2, .int (v2 + 1)), (0, .ref 0), (1, .int v1)] rfl rfl (Nat.le_of_ble_eq_true rfl) rfl rfl rfl ?_
          refine g_goto 4 rfl ?_
          exact g_sub (Sc rfl (Sc rfl (Sc rfl (Sn _)))) (ih v1 (v2 + 1) _ _ _ h)
        · rw [if_pos c6] at h
          refine g_iload_n 42 rfl rfl rfl ?_
          refine g_iconst (v := 1) 43 rfl rfl rfl ?_
          refine g_iload_n 44 rfl rfl rfl ?_
          refine g_ishl 45 rfl rfl ?_
          refine g_ior 46 rfl rfl ?_
          refine g_istore_n 47 [(1, .int (v1 ||| (1 <<< (v2 &&& 31)))), (0, .ref 0), (2, .int v2)] rfl (Nat.le_of_ble_eq_true rfl) rfl rfl ?_
          refine g_iinc (v := v2 + 1) 50 [(2, .int (v2 + 1)), (1, .int (v1 ||| (1 <<< (v2 &&& 31)))), (0, .ref 0)] rfl rfl (Nat.le_of_ble_eq_true rfl) rfl rfl rfl ?_
          refine g_goto 4 rfl ?_
          exact g_sub (Sc rfl (Sc rfl (Sc rfl (Sn _)))) (ih (v1 ||| (1 <<< (v2 &&& 31))) (v2 + 1) _ _ _ h)
def f_165  (U : sU) : Option (Int32 × sU) :=
  f_165_4 FU 0 0 U
set_option maxRecDepth 10000 in
set_option maxHeartbeats 2000000 in
theorem F_165 (d : Nat)  {U : sU} {r : Int32} {U' : sU} (h : f_165  U = some (r, U')) : Rn (d + 5) sm_I165 [.ref 0] U (some (.int r)) U' := by
  refine Rn_of [(0, .ref 0)] (Nat.le_of_ble_eq_true rfl) (Sc rfl (Sn _)) ?_
  first | rw [f_165] at h | rw [f_165.eq_def] at h
  refine g_iconst (v := 0) 1 rfl rfl rfl ?_
  refine g_istore_n 2 [(1, .int 0), (0, .ref 0)] rfl (Nat.le_of_ble_eq_true rfl) rfl rfl ?_
  refine g_iconst (v := 0) 3 rfl rfl rfl ?_
  refine g_istore_n 4 [(2, .int 0), (1, .int 0), (0, .ref 0)] rfl (Nat.le_of_ble_eq_true rfl) rfl rfl ?_
  exact g_sub (Sc rfl (Sc rfl (Sc rfl (Sn _)))) (F_165_4 d _ 0 0 _ _ _ h)

def f_150  (U : sU) : Option (Int32 × sU) :=
  Option.bind (f_165 U) fun q1 =>
  some (q1.1, q1.2)
set_option maxRecDepth 10000 in
set_option maxHeartbeats 2000000 in
theorem F_150 (d : Nat)  {U : sU} {r : Int32} {U' : sU} (h : f_150  U = some (r, U')) : Rn (d + 6) sm_I150 [.ref 0] U (some (.int r)) U' := by
  refine Rn_of [(0, .ref 0)] (Nat.le_of_ble_eq_true rfl) (Sc rfl (Sn _)) ?_
  first | rw [f_150] at h | rw [f_150.eq_def] at h
  refine g_aload_n 1 rfl rfl rfl ?_
  obtain ⟨q1, hq1, h⟩ := Option.bind_eq_some_iff.mp h
  refine g_callV (J := sm_I165) 4 rfl (Nat.le_of_ble_eq_true rfl) rfl rfl (Nat.le_of_ble_eq_true rfl) s_0 (Nat.le_of_ble_eq_true rfl) (Nat.le_of_ble_eq_true rfl) rfl rfl (F_165 d  hq1) ?_
  cases h
  exact g_iret rfl rfl

def f_151 (x1 : Int32) (x2 : Int32) (x3 : Int32) (U : sU) : Option (Int64 × sU) :=
  if x3 < 1 then
    match f_158 5 U with
    | (q2, W3) =>
    some (q2.toInt64, W3)
  else
    if 200 < x3 then
      match f_158 5 U with
      | (q5, W6) =>
      some (q5.toInt64, W6)
    else
      Option.bind (f_40 218 2 x1 U) fun q7 =>
      if q7.1 = 0 then
        match f_158 5 q7.2 with
        | (q11, W12) =>
        some (q11.toInt64, W12)
      else
        Option.bind (f_63 218 x2 x3 q7.2) fun q10 =>
        some (q10.1, q10.2)
set_option maxRecDepth 10000 in
set_option maxHeartbeats 2000000 in
theorem F_151 (d : Nat) (x1 : Int32) (x2 : Int32) (x3 : Int32) {U : sU} {r : Int64} {U' : sU} (h : f_151 x1 x2 x3 U = some (r, U')) : Rn (d + 5) sm_I151 [.ref 0, .int x1, .int x2, .int x3] U (some (.long r)) U' := by
  refine Rn_of [(0, .ref 0), (1, .int x1), (2, .int x2), (3, .int x3)] (Nat.le_of_ble_eq_true rfl) (Sc rfl (Sc rfl (Sc rfl (Sc rfl (Sn _))))) ?_
  first | rw [f_151] at h | rw [f_151.eq_def] at h
  refine g_iload_n 1 rfl rfl rfl ?_
  refine g_iconst (v := 1) 2 rfl rfl rfl ?_
  refine g_icmp_lt 27 5 rfl rfl (fun c1 => ?_) (fun c1 => ?_)
  · rw [if_pos c1] at h
    refine g_aload_n 28 rfl rfl rfl ?_
    refine g_iconst (v := 5) 29 rfl rfl rfl ?_
    have tq2 := F_158 (d + 2) 5 U
    rcases hq2 : f_158 5 U with ⟨q2, W3⟩
    rw [hq2] at h tq2
    dsimp only at h tq2
    refine g_callV (J := sm_I158) 32 rfl (Nat.le_of_ble_eq_true rfl) rfl rfl (Nat.le_of_ble_eq_true rfl) s_0 (Nat.le_of_ble_eq_true rfl) (Nat.le_of_ble_eq_true rfl) rfl rfl tq2 ?_
    refine g_i2l 33 rfl rfl ?_
    cases h
    exact g_lret rfl rfl
  · rw [if_neg c1] at h
    refine g_iload_n 6 rfl rfl rfl ?_
    refine g_sipush (v := 200) 9 rfl (by decide) rfl ?_
    refine g_icmp_gt 27 12 rfl rfl (fun c4 => ?_) (fun c4 => ?_)
    · rw [if_pos c4] at h
      refine g_aload_n 28 rfl rfl rfl ?_
      refine g_iconst (v := 5) 29 rfl rfl rfl ?_
      have tq5 := F_158 (d + 2) 5 U
      rcases hq5 : f_158 5 U with ⟨q5, W6⟩
      rw [hq5] at h tq5
      dsimp only at h tq5
      refine g_callV (J := sm_I158) 32 rfl (Nat.le_of_ble_eq_true rfl) rfl rfl (Nat.le_of_ble_eq_true rfl) s_0 (Nat.le_of_ble_eq_true rfl) (Nat.le_of_ble_eq_true rfl) rfl rfl tq5 ?_
      refine g_i2l 33 rfl rfl ?_
      cases h
      exact g_lret rfl rfl
    · rw [if_neg c4] at h
      refine g_aload_n 13 rfl rfl rfl ?_
      refine g_get 16 rfl s_0 (Nat.le_of_ble_eq_true rfl) rfl rfl ?_
      refine g_aload_n 17 rfl rfl rfl ?_
      refine g_get 20 rfl s_0 (Nat.le_of_ble_eq_true rfl) rfl rfl ?_
      refine g_iload_n 21 rfl rfl rfl ?_
      obtain ⟨q7, hq7, h⟩ := Option.bind_eq_some_iff.mp h
      have r8 := (F_40 d 218 s_218 2 s_2 x1 hq7)
      refine g_callV (J := sm_I40) 24 rfl (Nat.le_of_ble_eq_true rfl) rfl rfl (Nat.le_of_ble_eq_true rfl) s_218 (Nat.le_of_ble_eq_true rfl) (Nat.le_of_ble_eq_true rfl) rfl rfl r8 ?_
      refine g_if_ne 34 27 rfl rfl (fun c9 => ?_) (fun c9 => ?_)
      · rw [if_neg c9] at h
        refine g_aload_n 35 rfl rfl rfl ?_
        refine g_get 38 rfl s_0 (Nat.le_of_ble_eq_true rfl) rfl rfl ?_
        refine g_iload_n 39 rfl rfl rfl ?_
        refine g_iload_n 40 rfl rfl rfl ?_
        obtain ⟨q10, hq10, h⟩ := Option.bind_eq_some_iff.mp h
        refine g_callV (J := sm_I63) 43 rfl (Nat.le_of_ble_eq_true rfl) rfl rfl (Nat.le_of_ble_eq_true rfl) s_218 (Nat.le_of_ble_eq_true rfl) (Nat.le_of_ble_eq_true rfl) rfl rfl (F_63 (d + 2) 218 s_218 x2 x3 hq10) ?_
        cases h
        exact g_lret rfl rfl
      · rw [if_pos c9] at h
        refine g_aload_n 28 rfl rfl rfl ?_
        refine g_iconst (v := 5) 29 rfl rfl rfl ?_
        have tq11 := F_158 (d + 2) 5 q7.2
        rcases hq11 : f_158 5 q7.2 with ⟨q11, W12⟩
        rw [hq11] at h tq11
        dsimp only at h tq11
        refine g_callV (J := sm_I158) 32 rfl (Nat.le_of_ble_eq_true rfl) rfl rfl (Nat.le_of_ble_eq_true rfl) s_0 (Nat.le_of_ble_eq_true rfl) (Nat.le_of_ble_eq_true rfl) rfl rfl tq11 ?_
        refine g_i2l 33 rfl rfl ?_
        cases h
        exact g_lret rfl rfl

def f_152 (x1 : Int32) (x2 : Int32) (x3 : Int32) (U : sU) : Int32 × sU :=
  match mat 2 x1 U with
  | none =>
    (0, f_1 261 U)
  | some o1 =>
    if x2 < 0 then
      (0, f_1 261 U)
    else
      if x2 ≤ 2 then
        if x2 = 0 then
          match f_5 261 x3 (f_2 261 (U.1 o1 2) x1 (U.1 o1 3) U) with
          | (q5, W6) =>
          (q5, W6)
        else
        if x2 = 1 then
          match f_6 261 x3 (f_2 261 (U.1 o1 2) x1 (U.1 o1 3) U) with
          | (q8, W9) =>
          (q8, W9)
        else
        match f_7 261 x3 (f_2 261 (U.1 o1 2) x1 (U.1 o1 3) U) with
        | (q10, W11) =>
        (q10, W11)
      else
        (0, f_1 261 U)
set_option maxRecDepth 10000 in
set_option maxHeartbeats 2000000 in
theorem F_152 (d : Nat) (x1 : Int32) (x2 : Int32) (x3 : Int32) (U : sU) : Rn (d + 5) sm_I152 [.ref 0, .int x1, .int x2, .int x3] U (some (.int (f_152 x1 x2 x3 U).1)) (f_152 x1 x2 x3 U).2 := by
  refine Rn_of [(0, .ref 0), (1, .int x1), (2, .int x2), (3, .int x3)] (Nat.le_of_ble_eq_true rfl) (Sc rfl (Sc rfl (Sc rfl (Sc rfl (Sn _))))) ?_
  rcases h : f_152 x1 x2 x3 U with ⟨r, U'⟩
  dsimp only
  first | rw [f_152] at h | rw [f_152.eq_def] at h
  refine g_aload_n 1 rfl rfl rfl ?_
  refine g_get 4 rfl s_0 (Nat.le_of_ble_eq_true rfl) rfl rfl ?_
  refine g_iload_n 5 rfl rfl rfl ?_
  refine g_callV (J := sm_I94) 8 rfl (Nat.le_of_ble_eq_true rfl) rfl rfl (Nat.le_of_ble_eq_true rfl) s_2 (Nat.le_of_ble_eq_true rfl) (Nat.le_of_ble_eq_true rfl) rfl rfl (U_94 (d + 4) 2 s_2 x1 U) ?_
  refine g_astoreq (x := mat 2 x1 U) 10 [(4, va_rf (mat 2 x1 U)), (0, .ref 0), (1, .int x1), (2, .int x2), (3, .int x3)] rfl (Nat.le_of_ble_eq_true rfl) rfl rfl ?_
  refine g_aloadq (x := mat 2 x1 U) 12 rfl rfl rfl ?_
  rcases ho1 : mat 2 x1 U with _ | o1
  · rw [ho1] at h
    dsimp only at h
    refine g_ifnullN 24 rfl rfl ?_
    refine g_aload_n 25 rfl rfl rfl ?_
    refine g_get 28 rfl s_0 (Nat.le_of_ble_eq_true rfl) rfl rfl ?_
    refine g_callV (J := sm_I1) 31 rfl (Nat.le_of_ble_eq_true rfl) rfl rfl (Nat.le_of_ble_eq_true rfl) s_261 (Nat.le_of_ble_eq_true rfl) (Nat.le_of_ble_eq_true rfl) rfl rfl (F_1 (d + 4) 261 s_261 U) ?_
    refine g_iconst (v := 0) 32 rfl rfl rfl ?_
    cases h
    exact g_iret rfl rfl
  · rw [ho1] at h
    dsimp only at h
    refine g_ifnull 15 rfl rfl ?_
    refine g_iload_n 16 rfl rfl rfl ?_
    refine g_if_lt 24 19 rfl rfl (fun c2 => ?_) (fun c2 => ?_)
    · rw [if_pos c2] at h
      refine g_aload_n 25 rfl rfl rfl ?_
      refine g_get 28 rfl s_0 (Nat.le_of_ble_eq_true rfl) rfl rfl ?_
      refine g_callV (J := sm_I1) 31 rfl (Nat.le_of_ble_eq_true rfl) rfl rfl (Nat.le_of_ble_eq_true rfl) s_261 (Nat.le_of_ble_eq_true rfl) (Nat.le_of_ble_eq_true rfl) rfl rfl (F_1 (d + 4) 261 s_261 U) ?_
      refine g_iconst (v := 0) 32 rfl rfl rfl ?_
      cases h
      exact g_iret rfl rfl
    · rw [if_neg c2] at h
      refine g_iload_n 20 rfl rfl rfl ?_
      refine g_iconst (v := 2) 21 rfl rfl rfl ?_
      refine g_icmp_le 33 24 rfl rfl (fun c3 => ?_) (fun c3 => ?_)
      · rw [if_pos c3] at h
        refine g_aload_n 34 rfl rfl rfl ?_
        refine g_get 37 rfl s_0 (Nat.le_of_ble_eq_true rfl) rfl rfl ?_
        refine g_aload 39 rfl rfl rfl ?_
        refine g_get 42 rfl ((fun z hz => tagU_94 2 s_2 x1 U z hz) o1 ho1) (Nat.le_of_ble_eq_true rfl) rfl rfl ?_
        refine g_iload_n 43 rfl rfl rfl ?_
        refine g_aload 45 rfl rfl rfl ?_
        refine g_get 48 rfl ((fun z hz => tagU_94 2 s_2 x1 U z hz) o1 ho1) (Nat.le_of_ble_eq_true rfl) rfl rfl ?_
        refine g_callV (J := sm_I2) 51 rfl (Nat.le_of_ble_eq_true rfl) rfl rfl (Nat.le_of_ble_eq_true rfl) s_261 (Nat.le_of_ble_eq_true rfl) (Nat.le_of_ble_eq_true rfl) rfl rfl (F_2 (d + 3) 261 s_261 (U.1 o1 2) x1 (U.1 o1 3) U) ?_
        refine g_iload_n 52 rfl rfl rfl ?_
        by_cases w4 : x2 = 0
        case pos =>
          rw [if_pos w4] at h
          refine g_lsw 80 rfl (by decide) (by rw [w4]; rfl) ?_
          refine g_aload_n 81 rfl rfl rfl ?_
          refine g_get 84 rfl s_0 (Nat.le_of_ble_eq_true rfl) rfl rfl ?_
          refine g_iload_n 85 rfl rfl rfl ?_
          have tq5 := F_5 (d + 2) 261 s_261 x3 (f_2 261 (U.1 o1 2) x1 (U.1 o1 3) U)
          rcases hq5 : f_5 261 x3 (f_2 261 (U.1 o1 2) x1 (U.1 o1 3) U) with ⟨q5, W6⟩
          rw [hq5] at h tq5
          dsimp only at h tq5
          refine g_callV (J := sm_I5) 88 rfl (Nat.le_of_ble_eq_true rfl) rfl rfl (Nat.le_of_ble_eq_true rfl) s_261 (Nat.le_of_ble_eq_true rfl) (Nat.le_of_ble_eq_true rfl) rfl rfl tq5 ?_
          cases h
          exact g_iret rfl rfl
        rw [if_neg w4] at h
        by_cases w7 : x2 = 1
        case pos =>
          rw [if_pos w7] at h
          refine g_lsw 89 rfl (by decide) (by rw [w7]; rfl) ?_
          refine g_aload_n 90 rfl rfl rfl ?_
          refine g_get 93 rfl s_0 (Nat.le_of_ble_eq_true rfl) rfl rfl ?_
          refine g_iload_n 94 rfl rfl rfl ?_
          have tq8 := F_6 (d + 1) 261 s_261 x3 (f_2 261 (U.1 o1 2) x1 (U.1 o1 3) U)
          rcases hq8 : f_6 261 x3 (f_2 261 (U.1 o1 2) x1 (U.1 o1 3) U) with ⟨q8, W9⟩
          rw [hq8] at h tq8
          dsimp only at h tq8
          refine g_callV (J := sm_I6) 97 rfl (Nat.le_of_ble_eq_true rfl) rfl rfl (Nat.le_of_ble_eq_true rfl) s_261 (Nat.le_of_ble_eq_true rfl) (Nat.le_of_ble_eq_true rfl) rfl rfl tq8 ?_
          cases h
          exact g_iret rfl rfl
        rw [if_neg w7] at h
        refine g_lsw 98 rfl (by decide) (by
          have e := fun (k : Int32) (hk : ¬ x2 = k) => (fun (z : x2.toInt = k.toInt) => hk (Int32.toInt_inj.mp z))
          have gw4 : ¬ 0 = x2.toInt := fun z => e 0 w4 z.symm
          have gw7 : ¬ 1 = x2.toInt := fun z => e 1 w7 z.symm
          simp [Op.lookupswitch.offset, gw4, gw7]; rfl) ?_
        refine g_aload_n 99 rfl rfl rfl ?_
        refine g_get 102 rfl s_0 (Nat.le_of_ble_eq_true rfl) rfl rfl ?_
        refine g_iload_n 103 rfl rfl rfl ?_
        have tq10 := F_7 d 261 s_261 x3 (f_2 261 (U.1 o1 2) x1 (U.1 o1 3) U)
        rcases hq10 : f_7 261 x3 (f_2 261 (U.1 o1 2) x1 (U.1 o1 3) U) with ⟨q10, W11⟩
        rw [hq10] at h tq10
        dsimp only at h tq10
        refine g_callV (J := sm_I7) 106 rfl (Nat.le_of_ble_eq_true rfl) rfl rfl (Nat.le_of_ble_eq_true rfl) s_261 (Nat.le_of_ble_eq_true rfl) (Nat.le_of_ble_eq_true rfl) rfl rfl tq10 ?_
        cases h
        exact g_iret rfl rfl
      · rw [if_neg c3] at h
        refine g_aload_n 25 rfl rfl rfl ?_
        refine g_get 28 rfl s_0 (Nat.le_of_ble_eq_true rfl) rfl rfl ?_
        refine g_callV (J := sm_I1) 31 rfl (Nat.le_of_ble_eq_true rfl) rfl rfl (Nat.le_of_ble_eq_true rfl) s_261 (Nat.le_of_ble_eq_true rfl) (Nat.le_of_ble_eq_true rfl) rfl rfl (F_1 (d + 4) 261 s_261 U) ?_
        refine g_iconst (v := 0) 32 rfl rfl rfl ?_
        cases h
        exact g_iret rfl rfl

def f_153 (x1 : Int32) (U : sU) : Int32 :=
  f_4 261 x1 U
set_option maxRecDepth 10000 in
set_option maxHeartbeats 2000000 in
theorem F_153 (d : Nat) (x1 : Int32) (U : sU) : Rn (d + 2) sm_I153 [.ref 0, .int x1] U (some (.int (f_153 x1 U))) U := by
  refine Rn_of [(0, .ref 0), (1, .int x1)] (Nat.le_of_ble_eq_true rfl) (Sc rfl (Sc rfl (Sn _))) ?_
  generalize h : f_153 x1 U = r
  first | rw [f_153] at h | rw [f_153.eq_def] at h
  refine g_aload_n 1 rfl rfl rfl ?_
  refine g_get 4 rfl s_0 (Nat.le_of_ble_eq_true rfl) rfl rfl ?_
  refine g_iload_n 5 rfl rfl rfl ?_
  refine g_callV (J := sm_I4) 8 rfl (Nat.le_of_ble_eq_true rfl) rfl rfl (Nat.le_of_ble_eq_true rfl) s_261 (Nat.le_of_ble_eq_true rfl) (Nat.le_of_ble_eq_true rfl) rfl rfl (F_4 d 261 s_261 x1 U) ?_
  subst h
  exact g_iret rfl rfl

def f_154  (U : sU) : Option (Int32 × sU) :=
  Option.bind (f_97 105 2 U) fun q1 =>
  some ((sI q1 0 3 1).1 105 3, sI q1 0 3 1)
set_option maxRecDepth 10000 in
set_option maxHeartbeats 2000000 in
theorem F_154 (d : Nat)  {U : sU} {r : Int32} {U' : sU} (h : f_154  U = some (r, U')) : Rn (d + 4) sm_I154 [.ref 0] U (some (.int r)) U' := by
  refine Rn_of [(0, .ref 0)] (Nat.le_of_ble_eq_true rfl) (Sc rfl (Sn _)) ?_
  first | rw [f_154] at h | rw [f_154.eq_def] at h
  refine g_aload_n 1 rfl rfl rfl ?_
  refine g_get 4 rfl s_0 (Nat.le_of_ble_eq_true rfl) rfl rfl ?_
  refine g_aload_n 5 rfl rfl rfl ?_
  refine g_get 8 rfl s_0 (Nat.le_of_ble_eq_true rfl) rfl rfl ?_
  obtain ⟨q1, hq1, h⟩ := Option.bind_eq_some_iff.mp h
  refine g_callV (J := sm_I97) 11 rfl (Nat.le_of_ble_eq_true rfl) rfl rfl (Nat.le_of_ble_eq_true rfl) s_105 (Nat.le_of_ble_eq_true rfl) (Nat.le_of_ble_eq_true rfl) rfl rfl (F_97 d 105 s_105 2 s_2 hq1) ?_
  refine g_aload_n 12 rfl rfl rfl ?_
  refine g_iconst (v := 1) 13 rfl rfl rfl ?_
  refine g_putZ 16 rfl s_0 (Nat.le_of_ble_eq_true rfl) (Nat.le_of_ble_eq_true rfl) rfl (Or.inr rfl) fs_9_3 rfl ?_
  refine g_aload_n 17 rfl rfl rfl ?_
  refine g_get 20 rfl s_0 (Nat.le_of_ble_eq_true rfl) rfl rfl ?_
  refine g_get 23 rfl s_105 (Nat.le_of_ble_eq_true rfl) rfl rfl ?_
  cases h
  exact g_iret rfl rfl

def f_155_35 : Nat → Nat → Int32 → Int32 → sU → Option (Int32 × sU)
  | 0, _, _, _, _ => none
  | n + 1, v1, v2, v3, U =>
    if v2 ≤ v3 then
      some (U.1 2 3, U)
    else
      if ib v3 (ln v1) then
      if (f_81 (rfA v1 14 v3.toNatClampNeg) U) = 0 then
        f_155_35 n v1 v2 (v3 + 1) U
      else
        if (U.1 (rfA v1 14 v3.toNatClampNeg) 4) < (U.1 2 3) then
          f_155_35 n v1 v2 (v3 + 1) U
        else
          f_155_35 n v1 v2 (v3 + 1) (f_83 (rfA v1 14 v3.toNatClampNeg) U)
      else none
set_option maxRecDepth 10000 in
set_option maxHeartbeats 2000000 in
theorem F_155_35 (d : Nat)   : ∀ (n : Nat) (v1 : Nat) (hv1 : sh v1 = 14) (v2 : Int32) (v3 : Int32) (U : sU) (r : Int32) (U' : sU), f_155_35 n v1 v2 v3 U = some (r, U') → G (d + 4) sm_I155 35 [(0, .ref 0), (1, .ref v1), (2, .int v2), (3, .int v3)] [] U (some (.int r)) U' := by
  intro n
  induction n with
  | zero => intro v1 hv1 v2 v3 U r U' h; cases h
  | succ n ih =>
    intro v1 hv1 v2 v3 U r U' h
    first | rw [f_155_35] at h | (rw [f_155_35.eq_def] at h; dsimp only at h)
    refine g_iload_n 36 rfl rfl rfl ?_
    refine g_iload_n 37 rfl rfl rfl ?_
    refine g_icmp_ge 79 40 rfl rfl (fun c1 => ?_) (fun c1 => ?_)
    · rw [if_pos c1] at h
      refine g_aload_n 80 rfl rfl rfl ?_
      refine g_get 83 rfl s_0 (Nat.le_of_ble_eq_true rfl) rfl rfl ?_
      refine g_get 86 rfl s_2 (Nat.le_of_ble_eq_true rfl) rfl rfl ?_
      cases h
      exact g_iret rfl rfl
    · rw [if_neg c1] at h
      refine g_aload_n 41 rfl rfl rfl ?_
      refine g_iload_n 42 rfl rfl rfl ?_
      by_cases i2 : ib v3 (ln v1)
      case neg => rw [if_neg i2] at h; cases h
      rw [if_pos i2] at h
      refine g_aald 43 rfl hv1 (by decide) rfl i2 rfl ?_
      refine g_astore 45 [(4, .ref (rfA v1 14 v3.toNatClampNeg)), (0, .ref 0), (1, .ref v1), (2, .int v2), (3, .int v3)] rfl (Nat.le_of_ble_eq_true rfl) rfl rfl ?_
      refine g_aload 47 rfl rfl rfl ?_
      have r3 := F_81 (d + 3) (rfA v1 14 v3.toNatClampNeg) (sh_rfA_14 hv1 i2) U
      refine g_callV (J := sm_I81) 50 rfl (Nat.le_of_ble_eq_true rfl) rfl rfl (Nat.le_of_ble_eq_true rfl) (sh_rfA_14 hv1 i2) (Nat.le_of_ble_eq_true rfl) (Nat.le_of_ble_eq_true rfl) rfl rfl r3 ?_
      refine g_if_eq 73 53 rfl rfl (fun c4 => ?_) (fun c4 => ?_)
      · rw [if_pos c4] at h
        refine g_iinc (v := v3 + 1) 76 [(3, .int (v3 + 1)), (4, .ref (rfA v1 14 v3.toNatClampNeg)), (0, .ref 0), (1, .ref v1), (2, .int v2)] rfl rfl (Nat.le_of_ble_eq_true rfl) rfl rfl rfl ?_
        refine g_goto 35 rfl ?_
        exact g_sub (Sc rfl (Sc rfl (Sc rfl (Sc rfl (Sn _))))) (ih v1 hv1 v2 (v3 + 1) _ _ _ h)
      · rw [if_neg c4] at h
        refine g_aload 55 rfl rfl rfl ?_
        refine g_get 58 rfl (sh_rfA_14 hv1 i2) (Nat.le_of_ble_eq_true rfl) rfl rfl ?_
        refine g_aload_n 59 rfl rfl rfl ?_
        refine g_get 62 rfl s_0 (Nat.le_of_ble_eq_true rfl) rfl rfl ?_
        refine g_get 65 rfl s_2 (Nat.le_of_ble_eq_true rfl) rfl rfl ?_
        refine g_icmp_lt 73 68 rfl rfl (fun c5 => ?_) (fun c5 => ?_)
        · rw [if_pos c5] at h
          refine g_iinc (v := v3 + 1) 76 [(3, .int (v3 + 1)), (4, .ref (rfA v1 14 v3.toNatClampNeg)), (0, .ref 0), (1, .ref v1), (2, .int v2)] rfl rfl (Nat.le_of_ble_eq_true rfl) rfl rfl rfl ?_
          refine g_goto 35 rfl ?_
          exact g_sub (Sc rfl (Sc rfl (Sc rfl (Sc rfl (Sn _))))) (ih v1 hv1 v2 (v3 + 1) _ _ _ h)
        · rw [if_neg c5] at h
          refine g_aload 70 rfl rfl rfl ?_
          refine g_callV (J := sm_I83) 73 rfl (Nat.le_of_ble_eq_true rfl) rfl rfl (Nat.le_of_ble_eq_true rfl) (sh_rfA_14 hv1 i2) (Nat.le_of_ble_eq_true rfl) (Nat.le_of_ble_eq_true rfl) rfl rfl (F_83 (d + 3) (rfA v1 14 v3.toNatClampNeg) (sh_rfA_14 hv1 i2) U) ?_
          refine g_iinc (v := v3 + 1) 76 [(3, .int (v3 + 1)), (4, .ref (rfA v1 14 v3.toNatClampNeg)), (0, .ref 0), (1, .ref v1), (2, .int v2)] rfl rfl (Nat.le_of_ble_eq_true rfl) rfl rfl rfl ?_
          refine g_goto 35 rfl ?_
          exact g_sub (Sc rfl (Sc rfl (Sc rfl (Sc rfl (Sn _))))) (ih v1 hv1 v2 (v3 + 1) _ _ _ h)
def f_155  (U : sU) : Option (Int32 × sU) :=
  if (U.1 0 3) = 0 then
    match f_157 6 U with
    | (q8, W9) =>
    some (q8, W9)
  else
    Option.bind (f_97 2 105 U) fun q7 =>
    f_155_35 FU 1 8 0 q7
set_option maxRecDepth 10000 in
set_option maxHeartbeats 2000000 in
theorem F_155 (d : Nat)  {U : sU} {r : Int32} {U' : sU} (h : f_155  U = some (r, U')) : Rn (d + 4) sm_I155 [.ref 0] U (some (.int r)) U' := by
  refine Rn_of [(0, .ref 0)] (Nat.le_of_ble_eq_true rfl) (Sc rfl (Sn _)) ?_
  first | rw [f_155] at h | rw [f_155.eq_def] at h
  refine g_aload_n 1 rfl rfl rfl ?_
  refine g_get 4 rfl s_0 (Nat.le_of_ble_eq_true rfl) rfl rfl ?_
  refine g_if_ne 14 7 rfl rfl (fun c6 => ?_) (fun c6 => ?_)
  · rw [if_neg c6] at h
    refine g_aload_n 15 rfl rfl rfl ?_
    refine g_get 18 rfl s_0 (Nat.le_of_ble_eq_true rfl) rfl rfl ?_
    refine g_aload_n 19 rfl rfl rfl ?_
    refine g_get 22 rfl s_0 (Nat.le_of_ble_eq_true rfl) rfl rfl ?_
    obtain ⟨q7, hq7, h⟩ := Option.bind_eq_some_iff.mp h
    refine g_callV (J := sm_I97) 25 rfl (Nat.le_of_ble_eq_true rfl) rfl rfl (Nat.le_of_ble_eq_true rfl) s_2 (Nat.le_of_ble_eq_true rfl) (Nat.le_of_ble_eq_true rfl) rfl rfl (F_97 d 2 s_2 105 s_105 hq7) ?_
    refine g_aload_n 26 rfl rfl rfl ?_
    refine g_get 29 rfl s_0 (Nat.le_of_ble_eq_true rfl) rfl rfl ?_
    refine g_astore_n 30 [(1, .ref 1), (0, .ref 0)] rfl (Nat.le_of_ble_eq_true rfl) rfl rfl ?_
    refine g_aload_n 31 rfl rfl rfl ?_
    refine g_alenv (v := 8) 32 rfl s_1 (by decide) l_1 (by decide) rfl ?_
    refine g_istore_n 33 [(2, .int 8), (1, .ref 1), (0, .ref 0)] rfl (Nat.le_of_ble_eq_true rfl) rfl rfl ?_
    refine g_iconst (v := 0) 34 rfl rfl rfl ?_
    refine g_istore_n 35 [(3, .int 0), (2, .int 8), (1, .ref 1), (0, .ref 0)] rfl (Nat.le_of_ble_eq_true rfl) rfl rfl ?_
    exact g_sub (Sc rfl (Sc rfl (Sc rfl (Sc rfl (Sn _))))) (F_155_35 d _ 1 s_1 8 0 _ _ _ h)
  · rw [if_pos c6] at h
    refine g_aload_n 8 rfl rfl rfl ?_
    refine g_bipush (v := 6) 10 rfl (by decide) rfl ?_
    have tq8 := F_157 (d + 2) 6 U
    rcases hq8 : f_157 6 U with ⟨q8, W9⟩
    rw [hq8] at h tq8
    dsimp only at h tq8
    refine g_callV (J := sm_I157) 13 rfl (Nat.le_of_ble_eq_true rfl) rfl rfl (Nat.le_of_ble_eq_true rfl) s_0 (Nat.le_of_ble_eq_true rfl) (Nat.le_of_ble_eq_true rfl) rfl rfl tq8 ?_
    cases h
    exact g_iret rfl rfl

def f_156_24 (v1 : Int32) (U : sU) : Option (Int32 × sU) :=
  if v1 = 0 then
    some (U.1 2 2, U)
  else
  if v1 = 1 then
    some (U.1 2 3, U)
  else
  if v1 = 2 then
    Option.bind (f_165 U) fun q4 =>
    some (f_282 q4.1 q4.2, q4.2)
  else
  if v1 = 3 then
    some (U.1 261 4, U)
  else
  some ((-1), U)
set_option maxRecDepth 10000 in
set_option maxHeartbeats 2000000 in
theorem F_156_24 (d : Nat)   (v1 : Int32) {U : sU} {r : Int32} {U' : sU} (h : f_156_24 v1 U = some (r, U')) : G (d + 6) sm_I156 24 [(0, .ref 0), (1, .int v1)] [] U (some (.int r)) U' := by
  first | rw [f_156_24] at h | rw [f_156_24.eq_def] at h
  refine g_iload_n 25 rfl rfl rfl ?_
  by_cases w1 : v1 = 0
  case pos =>
    rw [if_pos w1] at h
    refine g_tsw 56 rfl (by rw [w1]; rfl) ?_
    refine g_aload_n 57 rfl rfl rfl ?_
    refine g_get 60 rfl s_0 (Nat.le_of_ble_eq_true rfl) rfl rfl ?_
    refine g_get 63 rfl s_2 (Nat.le_of_ble_eq_true rfl) rfl rfl ?_
    cases h
    exact g_iret rfl rfl
  rw [if_neg w1] at h
  by_cases w2 : v1 = 1
  case pos =>
    rw [if_pos w2] at h
    refine g_tsw 64 rfl (by rw [w2]; rfl) ?_
    refine g_aload_n 65 rfl rfl rfl ?_
    refine g_get 68 rfl s_0 (Nat.le_of_ble_eq_true rfl) rfl rfl ?_
    refine g_get 71 rfl s_2 (Nat.le_of_ble_eq_true rfl) rfl rfl ?_
    cases h
    exact g_iret rfl rfl
  rw [if_neg w2] at h
  by_cases w3 : v1 = 2
  case pos =>
    rw [if_pos w3] at h
    refine g_tsw 72 rfl (by rw [w3]; rfl) ?_
    refine g_aload_n 73 rfl rfl rfl ?_
    obtain ⟨q4, hq4, h⟩ := Option.bind_eq_some_iff.mp h
    refine g_callV (J := sm_I165) 76 rfl (Nat.le_of_ble_eq_true rfl) rfl rfl (Nat.le_of_ble_eq_true rfl) s_0 (Nat.le_of_ble_eq_true rfl) (Nat.le_of_ble_eq_true rfl) rfl rfl (F_165 d  hq4) ?_
    refine g_callS (J := sm_I282) 79 rfl (by decide) rfl rfl (Nat.le_of_ble_eq_true rfl) (Nat.le_of_ble_eq_true rfl) rfl rfl (F_282 (d + 5) q4.1 q4.2) ?_
    cases h
    exact g_iret rfl rfl
  rw [if_neg w3] at h
  by_cases w5 : v1 = 3
  case pos =>
    rw [if_pos w5] at h
    refine g_tsw 80 rfl (by rw [w5]; rfl) ?_
    refine g_aload_n 81 rfl rfl rfl ?_
    refine g_get 84 rfl s_0 (Nat.le_of_ble_eq_true rfl) rfl rfl ?_
    refine g_get 87 rfl s_261 (Nat.le_of_ble_eq_true rfl) rfl rfl ?_
    cases h
    exact g_iret rfl rfl
  rw [if_neg w5] at h
  refine g_tsw 88 rfl (by
    have hX : v1.toInt < 0 ∨ 3 < v1.toInt := by
      have e := fun (k : Int32) (hk : ¬ v1 = k) => (fun (z : v1.toInt = k.toInt) => hk (Int32.toInt_inj.mp z))
      have gw1 : ¬ v1.toInt = 0 := e 0 w1
      have gw2 : ¬ v1.toInt = 1 := e 1 w2
      have gw3 : ¬ v1.toInt = 2 := e 2 w3
      have gw5 : ¬ v1.toInt = 3 := e 3 w5
      omega
    rw [if_pos hX]; rfl) ?_
  refine g_iconst (v := (-1)) 89 rfl rfl rfl ?_
  cases h
  exact g_iret rfl rfl
def f_156 (x1 : Int32) (U : sU) : Option (Int32 × sU) :=
  if x1 ≤ 10 then
    f_156_24 x1 U
  else
    if 17 < x1 then
      f_156_24 x1 U
    else
      some (iget 208 (x1 - 10) U, U)
set_option maxRecDepth 10000 in
set_option maxHeartbeats 2000000 in
theorem F_156 (d : Nat) (x1 : Int32) {U : sU} {r : Int32} {U' : sU} (h : f_156 x1 U = some (r, U')) : Rn (d + 6) sm_I156 [.ref 0, .int x1] U (some (.int r)) U' := by
  refine Rn_of [(0, .ref 0), (1, .int x1)] (Nat.le_of_ble_eq_true rfl) (Sc rfl (Sc rfl (Sn _))) ?_
  first | rw [f_156] at h | rw [f_156.eq_def] at h
  refine g_iload_n 1 rfl rfl rfl ?_
  refine g_bipush (v := 10) 3 rfl (by decide) rfl ?_
  refine g_icmp_le 24 6 rfl rfl (fun c6 => ?_) (fun c6 => ?_)
  · rw [if_pos c6] at h
    exact g_sub (Sc rfl (Sc rfl (Sn _))) (F_156_24 d x1 h)
  · rw [if_neg c6] at h
    refine g_iload_n 7 rfl rfl rfl ?_
    refine g_bipush (v := 17) 9 rfl (by decide) rfl ?_
    refine g_icmp_gt 24 12 rfl rfl (fun c7 => ?_) (fun c7 => ?_)
    · rw [if_pos c7] at h
      exact g_sub (Sc rfl (Sc rfl (Sn _))) (F_156_24 d x1 h)
    · rw [if_neg c7] at h
      refine g_aload_n 13 rfl rfl rfl ?_
      refine g_get 16 rfl s_0 (Nat.le_of_ble_eq_true rfl) rfl rfl ?_
      refine g_iload_n 17 rfl rfl rfl ?_
      refine g_bipush (v := 10) 19 rfl (by decide) rfl ?_
      refine g_isub 20 rfl rfl ?_
      refine g_callV (J := sm_I9) 23 rfl (Nat.le_of_ble_eq_true rfl) rfl rfl (Nat.le_of_ble_eq_true rfl) s_208 (Nat.le_of_ble_eq_true rfl) (Nat.le_of_ble_eq_true rfl) rfl rfl (U_9 (d + 5) 208 s_208 (x1 - 10) U) ?_
      cases h
      exact g_iret rfl rfl

def f_174 (x1 : Int32) (U : sU) : Option (Int32 × sU) :=
  if ib (-x1) 8 then
  if ib (-x1) 8 then
  some (x1, sI U 281 (-x1).toNatClampNeg ((U.1 281 (-x1).toNatClampNeg) + 1))
  else none
  else none
set_option maxRecDepth 10000 in
set_option maxHeartbeats 2000000 in
theorem F_174 (d : Nat) (x1 : Int32) {U : sU} {r : Int32} {U' : sU} (h : f_174 x1 U = some (r, U')) : Rn (d + 0) sm_I174 [.ref 280, .int x1] U (some (.int r)) U' := by
  refine Rn_of [(0, .ref 280), (1, .int x1)] (Nat.le_of_ble_eq_true rfl) (Sc rfl (Sc rfl (Sn _))) ?_
  first | rw [f_174] at h | rw [f_174.eq_def] at h
  refine g_aload_n 1 rfl rfl rfl ?_
  refine g_get 4 rfl s_280 (Nat.le_of_ble_eq_true rfl) rfl rfl ?_
  refine g_iload_n 5 rfl rfl rfl ?_
  refine g_ineg 6 rfl rfl ?_
  refine g_dup2 7 rfl rfl rfl rfl ?_
  by_cases i1 : ib (-x1) 8
  case neg => rw [if_neg i1] at h; cases h
  rw [if_pos i1] at h
  refine g_iald 8 rfl s_281 l_281 i1 rfl ?_
  refine g_iconst (v := 1) 9 rfl rfl rfl ?_
  refine g_iadd 10 rfl rfl ?_
  by_cases i2 : ib (-x1) 8
  case neg => rw [if_neg i2] at h; cases h
  rw [if_pos i2] at h
  refine g_iast 11 rfl s_281 l_281 i2 rfl ?_
  refine g_iload_n 12 rfl rfl rfl ?_
  cases h
  exact g_iret rfl rfl

def f_175 (x1 : Int32) (U : sU) : Option (Int32 × sU) :=
  if ib (-x1) 8 then
  if ib (-x1) 8 then
  some (((-2000000000)) + x1, sI U 281 (-x1).toNatClampNeg ((U.1 281 (-x1).toNatClampNeg) + 1))
  else none
  else none
set_option maxRecDepth 10000 in
set_option maxHeartbeats 2000000 in
theorem F_175 (d : Nat) (x1 : Int32) {U : sU} {r : Int32} {U' : sU} (h : f_175 x1 U = some (r, U')) : Rn (d + 0) sm_I175 [.ref 280, .int x1] U (some (.int r)) U' := by
  refine Rn_of [(0, .ref 280), (1, .int x1)] (Nat.le_of_ble_eq_true rfl) (Sc rfl (Sc rfl (Sn _))) ?_
  first | rw [f_175] at h | rw [f_175.eq_def] at h
  refine g_aload_n 1 rfl rfl rfl ?_
  refine g_get 4 rfl s_280 (Nat.le_of_ble_eq_true rfl) rfl rfl ?_
  refine g_iload_n 5 rfl rfl rfl ?_
  refine g_ineg 6 rfl rfl ?_
  refine g_dup2 7 rfl rfl rfl rfl ?_
  by_cases i1 : ib (-x1) 8
  case neg => rw [if_neg i1] at h; cases h
  rw [if_pos i1] at h
  refine g_iald 8 rfl s_281 l_281 i1 rfl ?_
  refine g_iconst (v := 1) 9 rfl rfl rfl ?_
  refine g_iadd 10 rfl rfl ?_
  by_cases i2 : ib (-x1) 8
  case neg => rw [if_neg i2] at h; cases h
  rw [if_pos i2] at h
  refine g_iast 11 rfl s_281 l_281 i2 rfl ?_
  refine g_ldc (v := (-2000000000)) 13 rfl (by decide) rfl ?_
  refine g_iload_n 14 rfl rfl rfl ?_
  refine g_iadd 15 rfl rfl ?_
  cases h
  exact g_iret rfl rfl

def f_176 (x1 : Int32) (U : sU) : Option (Int32 × sU) :=
  if ib (-x1) 8 then
  if ib (-x1) 8 then
  some (x1 - 10, sI U 281 (-x1).toNatClampNeg ((U.1 281 (-x1).toNatClampNeg) + 1))
  else none
  else none
set_option maxRecDepth 10000 in
set_option maxHeartbeats 2000000 in
theorem F_176 (d : Nat) (x1 : Int32) {U : sU} {r : Int32} {U' : sU} (h : f_176 x1 U = some (r, U')) : Rn (d + 0) sm_I176 [.ref 280, .int x1] U (some (.int r)) U' := by
  refine Rn_of [(0, .ref 280), (1, .int x1)] (Nat.le_of_ble_eq_true rfl) (Sc rfl (Sc rfl (Sn _))) ?_
  first | rw [f_176] at h | rw [f_176.eq_def] at h
  refine g_aload_n 1 rfl rfl rfl ?_
  refine g_get 4 rfl s_280 (Nat.le_of_ble_eq_true rfl) rfl rfl ?_
  refine g_iload_n 5 rfl rfl rfl ?_
  refine g_ineg 6 rfl rfl ?_
  refine g_dup2 7 rfl rfl rfl rfl ?_
  by_cases i1 : ib (-x1) 8
  case neg => rw [if_neg i1] at h; cases h
  rw [if_pos i1] at h
  refine g_iald 8 rfl s_281 l_281 i1 rfl ?_
  refine g_iconst (v := 1) 9 rfl rfl rfl ?_
  refine g_iadd 10 rfl rfl ?_
  by_cases i2 : ib (-x1) 8
  case neg => rw [if_neg i2] at h; cases h
  rw [if_pos i2] at h
  refine g_iast 11 rfl s_281 l_281 i2 rfl ?_
  refine g_iload_n 12 rfl rfl rfl ?_
  refine g_bipush (v := 10) 14 rfl (by decide) rfl ?_
  refine g_isub 15 rfl rfl ?_
  cases h
  exact g_iret rfl rfl

def f_177 (x1 : Int32) (U : sU) : Int32 :=
  if x1 < 0 then
    0
  else
    if 8 ≤ x1 then
      0
    else
      1
set_option maxRecDepth 10000 in
set_option maxHeartbeats 2000000 in
theorem F_177 (d : Nat) (x1 : Int32) (U : sU) : Rn (d + 0) sm_I177 [.ref 280, .int x1] U (some (.int (f_177 x1 U))) U := by
  refine Rn_of [(0, .ref 280), (1, .int x1)] (Nat.le_of_ble_eq_true rfl) (Sc rfl (Sc rfl (Sn _))) ?_
  generalize h : f_177 x1 U = r
  first | rw [f_177] at h | rw [f_177.eq_def] at h
  refine g_iload_n 1 rfl rfl rfl ?_
  refine g_if_lt 14 4 rfl rfl (fun c1 => ?_) (fun c1 => ?_)
  · rw [if_pos c1] at h
    refine g_iconst (v := 0) 15 rfl rfl rfl ?_
    subst h
    exact g_zret rfl rfl (Or.inl rfl)
  · rw [if_neg c1] at h
    refine g_iload_n 5 rfl rfl rfl ?_
    refine g_bipush (v := 8) 7 rfl (by decide) rfl ?_
    refine g_icmp_ge 14 10 rfl rfl (fun c2 => ?_) (fun c2 => ?_)
    · rw [if_pos c2] at h
      refine g_iconst (v := 0) 15 rfl rfl rfl ?_
      subst h
      exact g_zret rfl rfl (Or.inl rfl)
    · rw [if_neg c2] at h
      refine g_iconst (v := 1) 11 rfl rfl rfl ?_
      refine g_goto 15 rfl ?_
      subst h
      exact g_zret rfl rfl (Or.inr rfl)

def f_178 (x1 : Int32) (U : sU) : Int32 :=
  if x1 < 0 then
    0
  else
    if (U.1 280 0) ≤ x1 then
      0
    else
      1
set_option maxRecDepth 10000 in
set_option maxHeartbeats 2000000 in
theorem F_178 (d : Nat) (x1 : Int32) (U : sU) : Rn (d + 0) sm_I178 [.ref 280, .int x1] U (some (.int (f_178 x1 U))) U := by
  refine Rn_of [(0, .ref 280), (1, .int x1)] (Nat.le_of_ble_eq_true rfl) (Sc rfl (Sc rfl (Sn _))) ?_
  generalize h : f_178 x1 U = r
  first | rw [f_178] at h | rw [f_178.eq_def] at h
  refine g_iload_n 1 rfl rfl rfl ?_
  refine g_if_lt 16 4 rfl rfl (fun c1 => ?_) (fun c1 => ?_)
  · rw [if_pos c1] at h
    refine g_iconst (v := 0) 17 rfl rfl rfl ?_
    subst h
    exact g_zret rfl rfl (Or.inl rfl)
  · rw [if_neg c1] at h
    refine g_iload_n 5 rfl rfl rfl ?_
    refine g_aload_n 6 rfl rfl rfl ?_
    refine g_get 9 rfl s_280 (Nat.le_of_ble_eq_true rfl) rfl rfl ?_
    refine g_icmp_ge 16 12 rfl rfl (fun c2 => ?_) (fun c2 => ?_)
    · rw [if_pos c2] at h
      refine g_iconst (v := 0) 17 rfl rfl rfl ?_
      subst h
      exact g_zret rfl rfl (Or.inl rfl)
    · rw [if_neg c2] at h
      refine g_iconst (v := 1) 13 rfl rfl rfl ?_
      refine g_goto 17 rfl ?_
      subst h
      exact g_zret rfl rfl (Or.inr rfl)

def f_179 (x1 : Int32) (x2 : Int32) (U : sU) : Option Int32 :=
  if (f_178 x1 U) = 0 then
    some 0
  else
    if x2 < 0 then
      some 0
    else
      if ib x1 8 then
      if (U.1 288 x1.toNatClampNeg) ≤ x2 then
        some 0
      else
        some 1
      else none
set_option maxRecDepth 10000 in
set_option maxHeartbeats 2000000 in
theorem F_179 (d : Nat) (x1 : Int32) (x2 : Int32) {U : sU} {r : Int32} (h : f_179 x1 x2 U = some r) : Rn (d + 1) sm_I179 [.ref 280, .int x1, .int x2] U (some (.int r)) U := by
  refine Rn_of [(0, .ref 280), (1, .int x1), (2, .int x2)] (Nat.le_of_ble_eq_true rfl) (Sc rfl (Sc rfl (Sc rfl (Sn _)))) ?_
  first | rw [f_179] at h | rw [f_179.eq_def] at h
  refine g_aload_n 1 rfl rfl rfl ?_
  refine g_iload_n 2 rfl rfl rfl ?_
  have r1 := F_178 d x1 U
  refine g_callV (J := sm_I178) 5 rfl (Nat.le_of_ble_eq_true rfl) rfl rfl (Nat.le_of_ble_eq_true rfl) s_280 (Nat.le_of_ble_eq_true rfl) (Nat.le_of_ble_eq_true rfl) rfl rfl r1 ?_
  refine g_if_eq 26 8 rfl rfl (fun c2 => ?_) (fun c2 => ?_)
  · rw [if_pos c2] at h
    refine g_iconst (v := 0) 27 rfl rfl rfl ?_
    cases h
    exact g_zret rfl rfl (Or.inl rfl)
  · rw [if_neg c2] at h
    refine g_iload_n 9 rfl rfl rfl ?_
    refine g_if_lt 26 12 rfl rfl (fun c3 => ?_) (fun c3 => ?_)
    · rw [if_pos c3] at h
      refine g_iconst (v := 0) 27 rfl rfl rfl ?_
      cases h
      exact g_zret rfl rfl (Or.inl rfl)
    · rw [if_neg c3] at h
      refine g_iload_n 13 rfl rfl rfl ?_
      refine g_aload_n 14 rfl rfl rfl ?_
      refine g_get 17 rfl s_280 (Nat.le_of_ble_eq_true rfl) rfl rfl ?_
      refine g_iload_n 18 rfl rfl rfl ?_
      by_cases i4 : ib x1 8
      case neg => rw [if_neg i4] at h; cases h
      rw [if_pos i4] at h
      refine g_iald 19 rfl s_288 l_288 i4 rfl ?_
      refine g_icmp_ge 26 22 rfl rfl (fun c5 => ?_) (fun c5 => ?_)
      · rw [if_pos c5] at h
        refine g_iconst (v := 0) 27 rfl rfl rfl ?_
        cases h
        exact g_zret rfl rfl (Or.inl rfl)
      · rw [if_neg c5] at h
        refine g_iconst (v := 1) 23 rfl rfl rfl ?_
        refine g_goto 27 rfl ?_
        cases h
        exact g_zret rfl rfl (Or.inr rfl)

def f_180 (x1 : Int32) (U : sU) : Int32 :=
  if x1 < 0 then
    0
  else
    if (U.1 280 1) ≤ x1 then
      0
    else
      1
set_option maxRecDepth 10000 in
set_option maxHeartbeats 2000000 in
theorem F_180 (d : Nat) (x1 : Int32) (U : sU) : Rn (d + 0) sm_I180 [.ref 280, .int x1] U (some (.int (f_180 x1 U))) U := by
  refine Rn_of [(0, .ref 280), (1, .int x1)] (Nat.le_of_ble_eq_true rfl) (Sc rfl (Sc rfl (Sn _))) ?_
  generalize h : f_180 x1 U = r
  first | rw [f_180] at h | rw [f_180.eq_def] at h
  refine g_iload_n 1 rfl rfl rfl ?_
  refine g_if_lt 16 4 rfl rfl (fun c1 => ?_) (fun c1 => ?_)
  · rw [if_pos c1] at h
    refine g_iconst (v := 0) 17 rfl rfl rfl ?_
    subst h
    exact g_zret rfl rfl (Or.inl rfl)
  · rw [if_neg c1] at h
    refine g_iload_n 5 rfl rfl rfl ?_
    refine g_aload_n 6 rfl rfl rfl ?_
    refine g_get 9 rfl s_280 (Nat.le_of_ble_eq_true rfl) rfl rfl ?_
    refine g_icmp_ge 16 12 rfl rfl (fun c2 => ?_) (fun c2 => ?_)
    · rw [if_pos c2] at h
      refine g_iconst (v := 0) 17 rfl rfl rfl ?_
      subst h
      exact g_zret rfl rfl (Or.inl rfl)
    · rw [if_neg c2] at h
      refine g_iconst (v := 1) 13 rfl rfl rfl ?_
      refine g_goto 17 rfl ?_
      subst h
      exact g_zret rfl rfl (Or.inr rfl)

def f_181_78 : Nat → Int32 → Int32 → sU → Option (Int32 × sU)
  | 0, _, _, _ => none
  | n + 1, v1, v4, U =>
    if 64 ≤ v4 then
      some (1, U)
    else
      if ib ((64 * v1) + v4) 512 then
      f_181_78 n v1 (v4 + 1) (sJ U 286 ((64 * v1) + v4).toNatClampNeg 0)
      else none
set_option maxRecDepth 10000 in
set_option maxHeartbeats 2000000 in
theorem F_181_78 (d : Nat)   : ∀ (n : Nat) (v1 : Int32) (v4 : Int32) (U : sU) (r : Int32) (U' : sU), f_181_78 n v1 v4 U = some (r, U') → G (d + 1) sm_I181 78 [(0, .ref 280), (1, .int v1), (4, .int v4)] [] U (some (.int r)) U' := by
  intro n
  induction n with
  | zero => intro v1 v4 U r U' h; cases h
  | succ n ih =>
    intro v1 v4 U r U' h
    first | rw [f_181_78] at h | (rw [f_181_78.eq_def] at h; dsimp only at h)
    refine g_iload 80 rfl rfl rfl ?_
    refine g_bipush (v := 64) 82 rfl (by decide) rfl ?_
    refine g_icmp_ge 104 85 rfl rfl (fun c1 => ?_) (fun c1 => ?_)
    · rw [if_pos c1] at h
      refine g_iconst (v := 1) 105 rfl rfl rfl ?_
      cases h
      exact g_iret rfl rfl
    · rw [if_neg c1] at h
      refine g_aload_n 86 rfl rfl rfl ?_
      refine g_get 89 rfl s_280 (Nat.le_of_ble_eq_true rfl) rfl rfl ?_
      refine g_bipush (v := 64) 91 rfl (by decide) rfl ?_
      refine g_iload_n 92 rfl rfl rfl ?_
      refine g_imul 93 rfl rfl ?_
      refine g_iload 95 rfl rfl rfl ?_
      refine g_iadd 96 rfl rfl ?_
      refine g_lconst (v := 0) 97 rfl rfl rfl ?_
      by_cases i2 : ib ((64 * v1) + v4) 512
      case neg => rw [if_neg i2] at h; cases h
      rw [if_pos i2] at h
      refine g_last 98 rfl s_286 l_286 i2 rfl ?_
      refine g_iinc (v := v4 + 1) 101 [(4, .int (v4 + 1)), (0, .ref 280), (1, .int v1)] rfl rfl (Nat.le_of_ble_eq_true rfl) rfl rfl rfl ?_
      refine g_goto 78 rfl ?_
      exact g_sub (Sc rfl (Sc rfl (Sc rfl (Sn _)))) (ih v1 (v4 + 1) _ _ _ h)
def f_181 (x1 : Int32) (x2 : Int32) (x3 : Int32) (U : sU) : Option (Int32 × sU) :=
  if (f_177 x1 U) = 0 then
    Option.bind (f_174 ((-1)) U) fun q16 =>
    some (q16.1, q16.2)
  else
    if 0 ≤ x3 then
      if x2 < 0 then
        Option.bind (f_174 ((-6)) U) fun q7 =>
        some (q7.1, q7.2)
      else
        if x2 ≤ 3 then
          if x3 ≤ 64 then
            if ib x1 8 then
            if ib x1 8 then
            if ib x1 8 then
            f_181_78 FU x1 0 (sI (sI (sI U 282 x1.toNatClampNeg 1) 283 x1.toNatClampNeg x2) 284 x1.toNatClampNeg x3)
            else none
            else none
            else none
          else
            Option.bind (f_174 ((-7)) U) fun q13 =>
            some (q13.1, q13.2)
        else
          Option.bind (f_174 ((-6)) U) fun q14 =>
          some (q14.1, q14.2)
    else
      Option.bind (f_174 ((-4)) U) fun q15 =>
      some (q15.1, q15.2)
set_option maxRecDepth 10000 in
set_option maxHeartbeats 2000000 in
theorem F_181 (d : Nat) (x1 : Int32) (x2 : Int32) (x3 : Int32) {U : sU} {r : Int32} {U' : sU} (h : f_181 x1 x2 x3 U = some (r, U')) : Rn (d + 1) sm_I181 [.ref 280, .int x1, .int x2, .int x3] U (some (.int r)) U' := by
  refine Rn_of [(0, .ref 280), (1, .int x1), (2, .int x2), (3, .int x3)] (Nat.le_of_ble_eq_true rfl) (Sc rfl (Sc rfl (Sc rfl (Sc rfl (Sn _))))) ?_
  first | rw [f_181] at h | rw [f_181.eq_def] at h
  refine g_aload_n 1 rfl rfl rfl ?_
  refine g_iload_n 2 rfl rfl rfl ?_
  have r3 := F_177 d x1 U
  refine g_callV (J := sm_I177) 5 rfl (Nat.le_of_ble_eq_true rfl) rfl rfl (Nat.le_of_ble_eq_true rfl) s_280 (Nat.le_of_ble_eq_true rfl) (Nat.le_of_ble_eq_true rfl) rfl rfl r3 ?_
  refine g_if_ne 14 8 rfl rfl (fun c4 => ?_) (fun c4 => ?_)
  · rw [if_neg c4] at h
    refine g_iload_n 15 rfl rfl rfl ?_
    refine g_if_ge 25 18 rfl rfl (fun c5 => ?_) (fun c5 => ?_)
    · rw [if_pos c5] at h
      refine g_iload_n 26 rfl rfl rfl ?_
      refine g_if_lt 34 29 rfl rfl (fun c6 => ?_) (fun c6 => ?_)
      · rw [if_pos c6] at h
        refine g_aload_n 35 rfl rfl rfl ?_
        refine g_bipush (v := (-6)) 37 rfl (by decide) rfl ?_
        obtain ⟨q7, hq7, h⟩ := Option.bind_eq_some_iff.mp h
        refine g_callV (J := sm_I174) 40 rfl (Nat.le_of_ble_eq_true rfl) rfl rfl (Nat.le_of_ble_eq_true rfl) s_280 (Nat.le_of_ble_eq_true rfl) (Nat.le_of_ble_eq_true rfl) rfl rfl (F_174 d ((-6)) hq7) ?_
        cases h
        exact g_iret rfl rfl
      · rw [if_neg c6] at h
        refine g_iload_n 30 rfl rfl rfl ?_
        refine g_iconst (v := 3) 31 rfl rfl rfl ?_
        refine g_icmp_le 41 34 rfl rfl (fun c8 => ?_) (fun c8 => ?_)
        · rw [if_pos c8] at h
          refine g_iload_n 42 rfl rfl rfl ?_
          refine g_bipush (v := 64) 44 rfl (by decide) rfl ?_
          refine g_icmp_le 54 47 rfl rfl (fun c9 => ?_) (fun c9 => ?_)
          · rw [if_pos c9] at h
            refine g_aload_n 55 rfl rfl rfl ?_
            refine g_get 58 rfl s_280 (Nat.le_of_ble_eq_true rfl) rfl rfl ?_
            refine g_iload_n 59 rfl rfl rfl ?_
            refine g_iconst (v := 1) 60 rfl rfl rfl ?_
            by_cases i10 : ib x1 8
            case neg => rw [if_neg i10] at h; cases h
            rw [if_pos i10] at h
            refine g_iast 61 rfl s_282 l_282 i10 rfl ?_
            refine g_aload_n 62 rfl rfl rfl ?_
            refine g_get 65 rfl s_280 (Nat.le_of_ble_eq_true rfl) rfl rfl ?_
            refine g_iload_n 66 rfl rfl rfl ?_
            refine g_iload_n 67 rfl rfl rfl ?_
            by_cases i11 : ib x1 8
            case neg => rw [if_neg i11] at h; cases h
            rw [if_pos i11] at h
            refine g_iast 68 rfl s_283 l_283 i11 rfl ?_
            refine g_aload_n 69 rfl rfl rfl ?_
            refine g_get 72 rfl s_280 (Nat.le_of_ble_eq_true rfl) rfl rfl ?_
            refine g_iload_n 73 rfl rfl rfl ?_
            refine g_iload_n 74 rfl rfl rfl ?_
            by_cases i12 : ib x1 8
            case neg => rw [if_neg i12] at h; cases h
            rw [if_pos i12] at h
            refine g_iast 75 rfl s_284 l_284 i12 rfl ?_
            refine g_iconst (v := 0) 76 rfl rfl rfl ?_
            refine g_istore 78 [(4, .int 0), (0, .ref 280), (1, .int x1), (2, .int x2), (3, .int x3)] rfl (Nat.le_of_ble_eq_true rfl) rfl rfl ?_
            exact g_sub (Sc rfl (Sc rfl (Sc rfl (Sn _)))) (F_181_78 d _ x1 0 _ _ _ h)
          · rw [if_neg c9] at h
            refine g_aload_n 48 rfl rfl rfl ?_
            refine g_bipush (v := (-7)) 50 rfl (by decide) rfl ?_
            obtain ⟨q13, hq13, h⟩ := Option.bind_eq_some_iff.mp h
            refine g_callV (J := sm_I174) 53 rfl (Nat.le_of_ble_eq_true rfl) rfl rfl (Nat.le_of_ble_eq_true rfl) s_280 (Nat.le_of_ble_eq_true rfl) (Nat.le_of_ble_eq_true rfl) rfl rfl (F_174 d ((-7)) hq13) ?_
            cases h
            exact g_iret rfl rfl
        · rw [if_neg c8] at h
          refine g_aload_n 35 rfl rfl rfl ?_
          refine g_bipush (v := (-6)) 37 rfl (by decide) rfl ?_
          obtain ⟨q14, hq14, h⟩ := Option.bind_eq_some_iff.mp h
          refine g_callV (J := sm_I174) 40 rfl (Nat.le_of_ble_eq_true rfl) rfl rfl (Nat.le_of_ble_eq_true rfl) s_280 (Nat.le_of_ble_eq_true rfl) (Nat.le_of_ble_eq_true rfl) rfl rfl (F_174 d ((-6)) hq14) ?_
          cases h
          exact g_iret rfl rfl
    · rw [if_neg c5] at h
      refine g_aload_n 19 rfl rfl rfl ?_
      refine g_bipush (v := (-4)) 21 rfl (by decide) rfl ?_
      obtain ⟨q15, hq15, h⟩ := Option.bind_eq_some_iff.mp h
      refine g_callV (J := sm_I174) 24 rfl (Nat.le_of_ble_eq_true rfl) rfl rfl (Nat.le_of_ble_eq_true rfl) s_280 (Nat.le_of_ble_eq_true rfl) (Nat.le_of_ble_eq_true rfl) rfl rfl (F_174 d ((-4)) hq15) ?_
      cases h
      exact g_iret rfl rfl
  · rw [if_pos c4] at h
    refine g_aload_n 9 rfl rfl rfl ?_
    refine g_iconst (v := (-1)) 10 rfl rfl rfl ?_
    obtain ⟨q16, hq16, h⟩ := Option.bind_eq_some_iff.mp h
    refine g_callV (J := sm_I174) 13 rfl (Nat.le_of_ble_eq_true rfl) rfl rfl (Nat.le_of_ble_eq_true rfl) s_280 (Nat.le_of_ble_eq_true rfl) (Nat.le_of_ble_eq_true rfl) rfl rfl (F_174 d ((-1)) hq16) ?_
    cases h
    exact g_iret rfl rfl

def f_182 (x1 : Int32) (x2 : Int32) (x3 : Int64) (U : sU) : Option (Int32 × sU) :=
  if (f_177 x1 U) = 0 then
    Option.bind (f_174 ((-1)) U) fun q24 =>
    some (q24.1, q24.2)
  else
    if ib x1 8 then
    if (U.1 282 x1.toNatClampNeg) = 2 then
      Option.bind (f_174 ((-2)) U) fun q23 =>
      some (q23.1, q23.2)
    else
      if ib x1 8 then
      if (U.1 282 x1.toNatClampNeg) = 0 then
        Option.bind (f_174 ((-3)) U) fun q22 =>
        some (q22.1, q22.2)
      else
        if x2 < 0 then
          Option.bind (f_174 ((-5)) U) fun q8 =>
          some (q8.1, q8.2)
        else
          if ib x1 8 then
          if x2 < (U.1 284 x1.toNatClampNeg) then
            if ib x1 8 then
            if (U.1 283 x1.toNatClampNeg) = 0 then
              if ib ((64 * x1) + x2) 512 then
              some (1, sJ U 286 ((64 * x1) + x2).toNatClampNeg x3.toInt32.toInt8.toInt32.toInt64)
              else none
            else
              if ib x1 8 then
              if (U.1 283 x1.toNatClampNeg) = 1 then
                if ib ((64 * x1) + x2) 512 then
                some (1, sJ U 286 ((64 * x1) + x2).toNatClampNeg x3.toInt32.toInt16.toInt32.toInt64)
                else none
              else
                if ib x1 8 then
                if (U.1 283 x1.toNatClampNeg) = 2 then
                  if ib ((64 * x1) + x2) 512 then
                  some (1, sJ U 286 ((64 * x1) + x2).toNatClampNeg x3.toInt32.toInt64)
                  else none
                else
                  if ib ((64 * x1) + x2) 512 then
                  some (1, sJ U 286 ((64 * x1) + x2).toNatClampNeg x3)
                  else none
                else none
              else none
            else none
          else
            Option.bind (f_174 ((-5)) U) fun q21 =>
            some (q21.1, q21.2)
          else none
      else none
    else none
set_option maxRecDepth 10000 in
set_option maxHeartbeats 2000000 in
theorem F_182 (d : Nat) (x1 : Int32) (x2 : Int32) (x3 : Int64) {U : sU} {r : Int32} {U' : sU} (h : f_182 x1 x2 x3 U = some (r, U')) : Rn (d + 1) sm_I182 [.ref 280, .int x1, .int x2, .long x3] U (some (.int r)) U' := by
  refine Rn_of [(0, .ref 280), (1, .int x1), (2, .int x2), (3, .long x3)] (Nat.le_of_ble_eq_true rfl) (Sc rfl (Sc rfl (Sc rfl (Sc rfl (Sn _))))) ?_
  first | rw [f_182] at h | rw [f_182.eq_def] at h
  refine g_aload_n 1 rfl rfl rfl ?_
  refine g_iload_n 2 rfl rfl rfl ?_
  have r1 := F_177 d x1 U
  refine g_callV (J := sm_I177) 5 rfl (Nat.le_of_ble_eq_true rfl) rfl rfl (Nat.le_of_ble_eq_true rfl) s_280 (Nat.le_of_ble_eq_true rfl) (Nat.le_of_ble_eq_true rfl) rfl rfl r1 ?_
  refine g_if_ne 14 8 rfl rfl (fun c2 => ?_) (fun c2 => ?_)
  · rw [if_neg c2] at h
    refine g_aload_n 15 rfl rfl rfl ?_
    refine g_get 18 rfl s_280 (Nat.le_of_ble_eq_true rfl) rfl rfl ?_
    refine g_iload_n 19 rfl rfl rfl ?_
    by_cases i3 : ib x1 8
    case neg => rw [if_neg i3] at h; cases h
    rw [if_pos i3] at h
    refine g_iald 20 rfl s_282 l_282 i3 rfl ?_
    refine g_iconst (v := 2) 21 rfl rfl rfl ?_
    refine g_icmp_ne 31 24 rfl rfl (fun c4 => ?_) (fun c4 => ?_)
    · rw [if_neg c4] at h
      refine g_aload_n 32 rfl rfl rfl ?_
      refine g_get 35 rfl s_280 (Nat.le_of_ble_eq_true rfl) rfl rfl ?_
      refine g_iload_n 36 rfl rfl rfl ?_
      by_cases i5 : ib x1 8
      case neg => rw [if_neg i5] at h; cases h
      rw [if_pos i5] at h
      refine g_iald 37 rfl s_282 l_282 i5 rfl ?_
      refine g_if_ne 47 40 rfl rfl (fun c6 => ?_) (fun c6 => ?_)
      · rw [if_neg c6] at h
        refine g_iload_n 48 rfl rfl rfl ?_
        refine g_if_lt 61 51 rfl rfl (fun c7 => ?_) (fun c7 => ?_)
        · rw [if_pos c7] at h
          refine g_aload_n 62 rfl rfl rfl ?_
          refine g_bipush (v := (-5)) 64 rfl (by decide) rfl ?_
          obtain ⟨q8, hq8, h⟩ := Option.bind_eq_some_iff.mp h
          refine g_callV (J := sm_I174) 67 rfl (Nat.le_of_ble_eq_true rfl) rfl rfl (Nat.le_of_ble_eq_true rfl) s_280 (Nat.le_of_ble_eq_true rfl) (Nat.le_of_ble_eq_true rfl) rfl rfl (F_174 d ((-5)) hq8) ?_
          cases h
          exact g_iret rfl rfl
        · rw [if_neg c7] at h
          refine g_iload_n 52 rfl rfl rfl ?_
          refine g_aload_n 53 rfl rfl rfl ?_
          refine g_get 56 rfl s_280 (Nat.le_of_ble_eq_true rfl) rfl rfl ?_
          refine g_iload_n 57 rfl rfl rfl ?_
          by_cases i9 : ib x1 8
          case neg => rw [if_neg i9] at h; cases h
          rw [if_pos i9] at h
          refine g_iald 58 rfl s_284 l_284 i9 rfl ?_
          refine g_icmp_lt 68 61 rfl rfl (fun c10 => ?_) (fun c10 => ?_)
          · rw [if_pos c10] at h
            refine g_aload_n 69 rfl rfl rfl ?_
            refine g_get 72 rfl s_280 (Nat.le_of_ble_eq_true rfl) rfl rfl ?_
            refine g_bipush (v := 64) 74 rfl (by decide) rfl ?_
            refine g_iload_n 75 rfl rfl rfl ?_
            refine g_imul 76 rfl rfl ?_
            refine g_iload_n 77 rfl rfl rfl ?_
            refine g_iadd 78 rfl rfl ?_
            refine g_aload_n 79 rfl rfl rfl ?_
            refine g_get 82 rfl s_280 (Nat.le_of_ble_eq_true rfl) rfl rfl ?_
            refine g_iload_n 83 rfl rfl rfl ?_
            by_cases i11 : ib x1 8
            case neg => rw [if_neg i11] at h; cases h
            rw [if_pos i11] at h
            refine g_iald 84 rfl s_283 l_283 i11 rfl ?_
            refine g_if_ne 94 87 rfl rfl (fun c12 => ?_) (fun c12 => ?_)
            · rw [if_neg c12] at h
              refine g_aload_n 95 rfl rfl rfl ?_
              refine g_get 98 rfl s_280 (Nat.le_of_ble_eq_true rfl) rfl rfl ?_
              refine g_iload_n 99 rfl rfl rfl ?_
              by_cases i13 : ib x1 8
              case neg => rw [if_neg i13] at h; cases h
              rw [if_pos i13] at h
              refine g_iald 100 rfl s_283 l_283 i13 rfl ?_
              refine g_iconst (v := 1) 101 rfl rfl rfl ?_
              refine g_icmp_ne 111 104 rfl rfl (fun c14 => ?_) (fun c14 => ?_)
              · rw [if_neg c14] at h
                refine g_aload_n 112 rfl rfl rfl ?_
                refine g_get 115 rfl s_280 (Nat.le_of_ble_eq_true rfl) rfl rfl ?_
                refine g_iload_n 116 rfl rfl rfl ?_
                by_cases i15 : ib x1 8
                case neg => rw [if_neg i15] at h; cases h
                rw [if_pos i15] at h
                refine g_iald 117 rfl s_283 l_283 i15 rfl ?_
                refine g_iconst (v := 2) 118 rfl rfl rfl ?_
                refine g_icmp_ne 127 121 rfl rfl (fun c16 => ?_) (fun c16 => ?_)
                · rw [if_neg c16] at h
                  refine g_lload_n 128 rfl rfl rfl ?_
                  by_cases i17 : ib ((64 * x1) + x2) 512
                  case neg => rw [if_neg i17] at h; cases h
                  rw [if_pos i17] at h
                  refine g_last 129 rfl s_286 l_286 i17 rfl ?_
                  refine g_iconst (v := 1) 130 rfl rfl rfl ?_
                  cases h
                  exact g_iret rfl rfl
                · rw [if_pos c16] at h
                  refine g_lload_n 122 rfl rfl rfl ?_
                  refine g_l2i 123 rfl rfl ?_
                  refine g_i2l 124 rfl rfl ?_
                  refine g_goto 128 rfl ?_
                  by_cases i18 : ib ((64 * x1) + x2) 512
                  case neg => rw [if_neg i18] at h; cases h
                  rw [if_pos i18] at h
                  refine g_last 129 rfl s_286 l_286 i18 rfl ?_
                  refine g_iconst (v := 1) 130 rfl rfl rfl ?_
                  cases h
                  exact g_iret rfl rfl
              · rw [if_pos c14] at h
                refine g_lload_n 105 rfl rfl rfl ?_
                refine g_l2i 106 rfl rfl ?_
                refine g_i2s 107 rfl rfl ?_
                refine g_i2l 108 rfl rfl ?_
                refine g_goto 128 rfl ?_
                by_cases i19 : ib ((64 * x1) + x2) 512
                case neg => rw [if_neg i19] at h; cases h
                rw [if_pos i19] at h
                refine g_last 129 rfl s_286 l_286 i19 rfl ?_
                refine g_iconst (v := 1) 130 rfl rfl rfl ?_
                cases h
                exact g_iret rfl rfl
            · rw [if_pos c12] at h
              refine g_lload_n 88 rfl rfl rfl ?_
              refine g_l2i 89 rfl rfl ?_
              refine g_i2b 90 rfl rfl ?_
              refine g_i2l 91 rfl rfl ?_
              refine g_goto 128 rfl ?_
              by_cases i20 : ib ((64 * x1) + x2) 512
              case neg => rw [if_neg i20] at h; cases h
              rw [if_pos i20] at h
              refine g_last 129 rfl s_286 l_286 i20 rfl ?_
              refine g_iconst (v := 1) 130 rfl rfl rfl ?_
              cases h
              exact g_iret rfl rfl
          · rw [if_neg c10] at h
            refine g_aload_n 62 rfl rfl rfl ?_
            refine g_bipush (v := (-5)) 64 rfl (by decide) rfl ?_
            obtain ⟨q21, hq21, h⟩ := Option.bind_eq_some_iff.mp h
            refine g_callV (J := sm_I174) 67 rfl (Nat.le_of_ble_eq_true rfl) rfl rfl (Nat.le_of_ble_eq_true rfl) s_280 (Nat.le_of_ble_eq_true rfl) (Nat.le_of_ble_eq_true rfl) rfl rfl (F_174 d ((-5)) hq21) ?_
            cases h
            exact g_iret rfl rfl
      · rw [if_pos c6] at h
        refine g_aload_n 41 rfl rfl rfl ?_
        refine g_bipush (v := (-3)) 43 rfl (by decide) rfl ?_
        obtain ⟨q22, hq22, h⟩ := Option.bind_eq_some_iff.mp h
        refine g_callV (J := sm_I174) 46 rfl (Nat.le_of_ble_eq_true rfl) rfl rfl (Nat.le_of_ble_eq_true rfl) s_280 (Nat.le_of_ble_eq_true rfl) (Nat.le_of_ble_eq_true rfl) rfl rfl (F_174 d ((-3)) hq22) ?_
        cases h
        exact g_iret rfl rfl
    · rw [if_pos c4] at h
      refine g_aload_n 25 rfl rfl rfl ?_
      refine g_bipush (v := (-2)) 27 rfl (by decide) rfl ?_
      obtain ⟨q23, hq23, h⟩ := Option.bind_eq_some_iff.mp h
      refine g_callV (J := sm_I174) 30 rfl (Nat.le_of_ble_eq_true rfl) rfl rfl (Nat.le_of_ble_eq_true rfl) s_280 (Nat.le_of_ble_eq_true rfl) (Nat.le_of_ble_eq_true rfl) rfl rfl (F_174 d ((-2)) hq23) ?_
      cases h
      exact g_iret rfl rfl
  · rw [if_pos c2] at h
    refine g_aload_n 9 rfl rfl rfl ?_
    refine g_iconst (v := (-1)) 10 rfl rfl rfl ?_
    obtain ⟨q24, hq24, h⟩ := Option.bind_eq_some_iff.mp h
    refine g_callV (J := sm_I174) 13 rfl (Nat.le_of_ble_eq_true rfl) rfl rfl (Nat.le_of_ble_eq_true rfl) s_280 (Nat.le_of_ble_eq_true rfl) (Nat.le_of_ble_eq_true rfl) rfl rfl (F_174 d ((-1)) hq24) ?_
    cases h
    exact g_iret rfl rfl

def f_183_204 : Nat → Int32 → Int32 → Int32 → Int32 → sU → Option (Int32 × sU)
  | 0, _, _, _, _, _ => none
  | n + 1, v2, v4, v5, v6, U =>
    if v5 ≤ v6 then
      some (1, U)
    else
      if ib v6 64 then
      if ib (((64 * v2) + v4) + v6) 512 then
      f_183_204 n v2 v4 v5 (v6 + 1) (sJ U 286 (((64 * v2) + v4) + v6).toNatClampNeg (U.2.1 287 v6.toNatClampNeg))
      else none
      else none
set_option maxRecDepth 10000 in
set_option maxHeartbeats 2000000 in
theorem F_183_204 (d : Nat)   : ∀ (n : Nat) (v2 : Int32) (v4 : Int32) (v5 : Int32) (v6 : Int32) (U : sU) (r : Int32) (U' : sU), f_183_204 n v2 v4 v5 v6 U = some (r, U') → G (d + 1) sm_I183 204 [(0, .ref 280), (2, .int v2), (4, .int v4), (5, .int v5), (6, .int v6)] [] U (some (.int r)) U' := by
  intro n
  induction n with
  | zero => intro v2 v4 v5 v6 U r U' h; cases h
  | succ n ih =>
    intro v2 v4 v5 v6 U r U' h
    first | rw [f_183_204] at h | (rw [f_183_204.eq_def] at h; dsimp only at h)
    refine g_iload 206 rfl rfl rfl ?_
    refine g_iload 208 rfl rfl rfl ?_
    refine g_icmp_ge 239 211 rfl rfl (fun c1 => ?_) (fun c1 => ?_)
    · rw [if_pos c1] at h
      refine g_iconst (v := 1) 240 rfl rfl rfl ?_
      cases h
      exact g_iret rfl rfl
    · rw [if_neg c1] at h
      refine g_aload_n 212 rfl rfl rfl ?_
      refine g_get 215 rfl s_280 (Nat.le_of_ble_eq_true rfl) rfl rfl ?_
      refine g_bipush (v := 64) 217 rfl (by decide) rfl ?_
      refine g_iload_n 218 rfl rfl rfl ?_
      refine g_imul 219 rfl rfl ?_
      refine g_iload 221 rfl rfl rfl ?_
      refine g_iadd 222 rfl rfl ?_
      refine g_iload 224 rfl rfl rfl ?_
      refine g_iadd 225 rfl rfl ?_
      refine g_aload_n 226 rfl rfl rfl ?_
      refine g_get 229 rfl s_280 (Nat.le_of_ble_eq_true rfl) rfl rfl ?_
      refine g_iload 231 rfl rfl rfl ?_
      by_cases i2 : ib v6 64
      case neg => rw [if_neg i2] at h; cases h
      rw [if_pos i2] at h
      refine g_lald 232 rfl s_287 l_287 i2 rfl ?_
      by_cases i3 : ib (((64 * v2) + v4) + v6) 512
      case neg => rw [if_neg i3] at h; cases h
      rw [if_pos i3] at h
      refine g_last 233 rfl s_286 l_286 i3 rfl ?_
      refine g_iinc (v := v6 + 1) 236 [(6, .int (v6 + 1)), (0, .ref 280), (2, .int v2), (4, .int v4), (5, .int v5)] rfl rfl (Nat.le_of_ble_eq_true rfl) rfl rfl rfl ?_
      refine g_goto 204 rfl ?_
      exact g_sub (Sc rfl (Sc rfl (Sc rfl (Sc rfl (Sc rfl (Sn _)))))) (ih v2 v4 v5 (v6 + 1) _ _ _ h)
def f_183_167 : Nat → Int32 → Int32 → Int32 → Int32 → Int32 → Int32 → sU → Option (Int32 × sU)
  | 0, _, _, _, _, _, _, _ => none
  | n + 1, v1, v2, v3, v4, v5, v6, U =>
    if v5 ≤ v6 then
      f_183_204 FU v2 v4 v5 0 U
    else
      if ib (((64 * v1) + v3) + v6) 512 then
      if ib v6 64 then
      f_183_167 n v1 v2 v3 v4 v5 (v6 + 1) (sJ U 287 v6.toNatClampNeg (U.2.1 286 (((64 * v1) + v3) + v6).toNatClampNeg))
      else none
      else none
set_option maxRecDepth 10000 in
set_option maxHeartbeats 2000000 in
theorem F_183_167 (d : Nat)   : ∀ (n : Nat) (v1 : Int32) (v2 : Int32) (v3 : Int32) (v4 : Int32) (v5 : Int32) (v6 : Int32) (U : sU) (r : Int32) (U' : sU), f_183_167 n v1 v2 v3 v4 v5 v6 U = some (r, U') → G (d + 1) sm_I183 167 [(0, .ref 280), (1, .int v1), (2, .int v2), (3, .int v3), (4, .int v4), (5, .int v5), (6, .int v6)] [] U (some (.int r)) U' := by
  intro n
  induction n with
  | zero => intro v1 v2 v3 v4 v5 v6 U r U' h; cases h
  | succ n ih =>
    intro v1 v2 v3 v4 v5 v6 U r U' h
    first | rw [f_183_167] at h | (rw [f_183_167.eq_def] at h; dsimp only at h)
    refine g_iload 169 rfl rfl rfl ?_
    refine g_iload 171 rfl rfl rfl ?_
    refine g_icmp_ge 201 174 rfl rfl (fun c4 => ?_) (fun c4 => ?_)
    · rw [if_pos c4] at h
      refine g_iconst (v := 0) 202 rfl rfl rfl ?_
      refine g_istore 204 [(6, .int 0), (0, .ref 280), (1, .int v1), (2, .int v2), (3, .int v3), (4, .int v4), (5, .int v5)] rfl (Nat.le_of_ble_eq_true rfl) rfl rfl ?_
      exact g_sub (Sc rfl (Sc rfl (Sc rfl (Sc rfl (Sc rfl (Sn _)))))) (F_183_204 d _ v2 v4 v5 0 _ _ _ h)
    · rw [if_neg c4] at h
      refine g_aload_n 175 rfl rfl rfl ?_
      refine g_get 178 rfl s_280 (Nat.le_of_ble_eq_true rfl) rfl rfl ?_
      refine g_iload 180 rfl rfl rfl ?_
      refine g_aload_n 181 rfl rfl rfl ?_
      refine g_get 184 rfl s_280 (Nat.le_of_ble_eq_true rfl) rfl rfl ?_
      refine g_bipush (v := 64) 186 rfl (by decide) rfl ?_
      refine g_iload_n 187 rfl rfl rfl ?_
      refine g_imul 188 rfl rfl ?_
      refine g_iload_n 189 rfl rfl rfl ?_
      refine g_iadd 190 rfl rfl ?_
      refine g_iload 192 rfl rfl rfl ?_
      refine g_iadd 193 rfl rfl ?_
      by_cases i5 : ib (((64 * v1) + v3) + v6) 512
      case neg => rw [if_neg i5] at h; cases h
      rw [if_pos i5] at h
      refine g_lald 194 rfl s_286 l_286 i5 rfl ?_
      by_cases i6 : ib v6 64
      case neg => rw [if_neg i6] at h; cases h
      rw [if_pos i6] at h
      refine g_last 195 rfl s_287 l_287 i6 rfl ?_
      refine g_iinc (v := v6 + 1) 198 [(6, .int (v6 + 1)), (0, .ref 280), (1, .int v1), (2, .int v2), (3, .int v3), (4, .int v4), (5, .int v5)] rfl rfl (Nat.le_of_ble_eq_true rfl) rfl rfl rfl ?_
      refine g_goto 167 rfl ?_
      exact g_sub (Sc rfl (Sc rfl (Sc rfl (Sc rfl (Sc rfl (Sc rfl (Sc rfl (Sn _)))))))) (ih v1 v2 v3 v4 v5 (v6 + 1) _ _ _ h)
def f_183_84 (v1 : Int32) (v2 : Int32) (v3 : Int32) (v4 : Int32) (v5 : Int32) (U : sU) : Option (Int32 × sU) :=
  if ib v1 8 then
  if (U.1 282 v1.toNatClampNeg) = 0 then
    Option.bind (f_174 ((-3)) U) fun q9 =>
    some (q9.1, q9.2)
  else
    if ib v2 8 then
    if (U.1 282 v2.toNatClampNeg) = 0 then
      Option.bind (f_174 ((-3)) U) fun q24 =>
      some (q24.1, q24.2)
    else
      if 0 ≤ v5 then
        if v3 < 0 then
          Option.bind (f_174 ((-5)) U) fun q14 =>
          some (q14.1, q14.2)
        else
          if v4 < 0 then
            Option.bind (f_174 ((-5)) U) fun q16 =>
            some (q16.1, q16.2)
          else
            if ib v1 8 then
            if ((U.1 284 v1.toNatClampNeg) - v5) < v3 then
              Option.bind (f_174 ((-5)) U) fun q19 =>
              some (q19.1, q19.2)
            else
              if ib v2 8 then
              if v4 ≤ ((U.1 284 v2.toNatClampNeg) - v5) then
                f_183_167 FU v1 v2 v3 v4 v5 0 U
              else
                Option.bind (f_174 ((-5)) U) fun q22 =>
                some (q22.1, q22.2)
              else none
            else none
      else
        Option.bind (f_174 ((-4)) U) fun q23 =>
        some (q23.1, q23.2)
    else none
  else none
set_option maxRecDepth 10000 in
set_option maxHeartbeats 2000000 in
theorem F_183_84 (d : Nat)   (v1 : Int32) (v2 : Int32) (v3 : Int32) (v4 : Int32) (v5 : Int32) {U : sU} {r : Int32} {U' : sU} (h : f_183_84 v1 v2 v3 v4 v5 U = some (r, U')) : G (d + 1) sm_I183 84 [(0, .ref 280), (1, .int v1), (2, .int v2), (3, .int v3), (4, .int v4), (5, .int v5)] [] U (some (.int r)) U' := by
  first | rw [f_183_84] at h | rw [f_183_84.eq_def] at h
  refine g_aload_n 85 rfl rfl rfl ?_
  refine g_get 88 rfl s_280 (Nat.le_of_ble_eq_true rfl) rfl rfl ?_
  refine g_iload_n 89 rfl rfl rfl ?_
  by_cases i7 : ib v1 8
  case neg => rw [if_neg i7] at h; cases h
  rw [if_pos i7] at h
  refine g_iald 90 rfl s_282 l_282 i7 rfl ?_
  refine g_if_eq 102 93 rfl rfl (fun c8 => ?_) (fun c8 => ?_)
  · rw [if_pos c8] at h
    refine g_aload_n 103 rfl rfl rfl ?_
    refine g_bipush (v := (-3)) 105 rfl (by decide) rfl ?_
    obtain ⟨q9, hq9, h⟩ := Option.bind_eq_some_iff.mp h
    refine g_callV (J := sm_I174) 108 rfl (Nat.le_of_ble_eq_true rfl) rfl rfl (Nat.le_of_ble_eq_true rfl) s_280 (Nat.le_of_ble_eq_true rfl) (Nat.le_of_ble_eq_true rfl) rfl rfl (F_174 d ((-3)) hq9) ?_
    cases h
    exact g_iret rfl rfl
  · rw [if_neg c8] at h
    refine g_aload_n 94 rfl rfl rfl ?_
    refine g_get 97 rfl s_280 (Nat.le_of_ble_eq_true rfl) rfl rfl ?_
    refine g_iload_n 98 rfl rfl rfl ?_
    by_cases i10 : ib v2 8
    case neg => rw [if_neg i10] at h; cases h
    rw [if_pos i10] at h
    refine g_iald 99 rfl s_282 l_282 i10 rfl ?_
    refine g_if_ne 109 102 rfl rfl (fun c11 => ?_) (fun c11 => ?_)
    · rw [if_neg c11] at h
      refine g_iload 111 rfl rfl rfl ?_
      refine g_if_ge 121 114 rfl rfl (fun c12 => ?_) (fun c12 => ?_)
      · rw [if_pos c12] at h
        refine g_iload_n 122 rfl rfl rfl ?_
        refine g_if_lt 157 125 rfl rfl (fun c13 => ?_) (fun c13 => ?_)
        · rw [if_pos c13] at h
          refine g_aload_n 158 rfl rfl rfl ?_
          refine g_bipush (v := (-5)) 160 rfl (by decide) rfl ?_
          obtain ⟨q14, hq14, h⟩ := Option.bind_eq_some_iff.mp h
          refine g_callV (J := sm_I174) 163 rfl (Nat.le_of_ble_eq_true rfl) rfl rfl (Nat.le_of_ble_eq_true rfl) s_280 (Nat.le_of_ble_eq_true rfl) (Nat.le_of_ble_eq_true rfl) rfl rfl (F_174 d ((-5)) hq14) ?_
          cases h
          exact g_iret rfl rfl
        · rw [if_neg c13] at h
          refine g_iload 127 rfl rfl rfl ?_
          refine g_if_lt 157 130 rfl rfl (fun c15 => ?_) (fun c15 => ?_)
          · rw [if_pos c15] at h
            refine g_aload_n 158 rfl rfl rfl ?_
            refine g_bipush (v := (-5)) 160 rfl (by decide) rfl ?_
            obtain ⟨q16, hq16, h⟩ := Option.bind_eq_some_iff.mp h
            refine g_callV (J := sm_I174) 163 rfl (Nat.le_of_ble_eq_true rfl) rfl rfl (Nat.le_of_ble_eq_true rfl) s_280 (Nat.le_of_ble_eq_true rfl) (Nat.le_of_ble_eq_true rfl) rfl rfl (F_174 d ((-5)) hq16) ?_
            cases h
            exact g_iret rfl rfl
          · rw [if_neg c15] at h
            refine g_iload_n 131 rfl rfl rfl ?_
            refine g_aload_n 132 rfl rfl rfl ?_
            refine g_get 135 rfl s_280 (Nat.le_of_ble_eq_true rfl) rfl rfl ?_
            refine g_iload_n 136 rfl rfl rfl ?_
            by_cases i17 : ib v1 8
            case neg => rw [if_neg i17] at h; cases h
            rw [if_pos i17] at h
            refine g_iald 137 rfl s_284 l_284 i17 rfl ?_
            refine g_iload 139 rfl rfl rfl ?_
            refine g_isub 140 rfl rfl ?_
            refine g_icmp_gt 157 143 rfl rfl (fun c18 => ?_) (fun c18 => ?_)
            · rw [if_pos c18] at h
              refine g_aload_n 158 rfl rfl rfl ?_
              refine g_bipush (v := (-5)) 160 rfl (by decide) rfl ?_
              obtain ⟨q19, hq19, h⟩ := Option.bind_eq_some_iff.mp h
              refine g_callV (J := sm_I174) 163 rfl (Nat.le_of_ble_eq_true rfl) rfl rfl (Nat.le_of_ble_eq_true rfl) s_280 (Nat.le_of_ble_eq_true rfl) (Nat.le_of_ble_eq_true rfl) rfl rfl (F_174 d ((-5)) hq19) ?_
              cases h
              exact g_iret rfl rfl
            · rw [if_neg c18] at h
              refine g_iload 145 rfl rfl rfl ?_
              refine g_aload_n 146 rfl rfl rfl ?_
              refine g_get 149 rfl s_280 (Nat.le_of_ble_eq_true rfl) rfl rfl ?_
              refine g_iload_n 150 rfl rfl rfl ?_
              by_cases i20 : ib v2 8
              case neg => rw [if_neg i20] at h; cases h
              rw [if_pos i20] at h
              refine g_iald 151 rfl s_284 l_284 i20 rfl ?_
              refine g_iload 153 rfl rfl rfl ?_
              refine g_isub 154 rfl rfl ?_
              refine g_icmp_le 164 157 rfl rfl (fun c21 => ?_) (fun c21 => ?_)
              · rw [if_pos c21] at h
                refine g_iconst (v := 0) 165 rfl rfl rfl ?_
                refine g_istore 167 [(6, .int 0), (0, .ref 280), (1, .int v1), (2, .int v2), (3, .int v3), (4, .int v4), (5, .int v5)] rfl (Nat.le_of_ble_eq_true rfl) rfl rfl ?_
                exact g_sub (Sc rfl (Sc rfl (Sc rfl (Sc rfl (Sc rfl (Sc rfl (Sc rfl (Sn _)))))))) (F_183_167 d _ v1 v2 v3 v4 v5 0 _ _ _ h)
              · rw [if_neg c21] at h
                refine g_aload_n 158 rfl rfl rfl ?_
                refine g_bipush (v := (-5)) 160 rfl (by decide) rfl ?_
                obtain ⟨q22, hq22, h⟩ := Option.bind_eq_some_iff.mp h
                refine g_callV (J := sm_I174) 163 rfl (Nat.le_of_ble_eq_true rfl) rfl rfl (Nat.le_of_ble_eq_true rfl) s_280 (Nat.le_of_ble_eq_true rfl) (Nat.le_of_ble_eq_true rfl) rfl rfl (F_174 d ((-5)) hq22) ?_
                cases h
                exact g_iret rfl rfl
      · rw [if_neg c12] at h
        refine g_aload_n 115 rfl rfl rfl ?_
        refine g_bipush (v := (-4)) 117 rfl (by decide) rfl ?_
        obtain ⟨q23, hq23, h⟩ := Option.bind_eq_some_iff.mp h
        refine g_callV (J := sm_I174) 120 rfl (Nat.le_of_ble_eq_true rfl) rfl rfl (Nat.le_of_ble_eq_true rfl) s_280 (Nat.le_of_ble_eq_true rfl) (Nat.le_of_ble_eq_true rfl) rfl rfl (F_174 d ((-4)) hq23) ?_
        cases h
        exact g_iret rfl rfl
    · rw [if_pos c11] at h
      refine g_aload_n 103 rfl rfl rfl ?_
      refine g_bipush (v := (-3)) 105 rfl (by decide) rfl ?_
      obtain ⟨q24, hq24, h⟩ := Option.bind_eq_some_iff.mp h
      refine g_callV (J := sm_I174) 108 rfl (Nat.le_of_ble_eq_true rfl) rfl rfl (Nat.le_of_ble_eq_true rfl) s_280 (Nat.le_of_ble_eq_true rfl) (Nat.le_of_ble_eq_true rfl) rfl rfl (F_174 d ((-3)) hq24) ?_
      cases h
      exact g_iret rfl rfl
def f_183 (x1 : Int32) (x2 : Int32) (x3 : Int32) (x4 : Int32) (x5 : Int32) (U : sU) : Option (Int32 × sU) :=
  if (f_177 x1 U) = 0 then
    Option.bind (f_174 ((-1)) U) fun q27 =>
    some (q27.1, q27.2)
  else
    if (f_177 x2 U) = 0 then
      Option.bind (f_174 ((-1)) U) fun q44 =>
      some (q44.1, q44.2)
    else
      if ib x1 8 then
      if (U.1 282 x1.toNatClampNeg) = 2 then
        Option.bind (f_174 ((-2)) U) fun q32 =>
        some (q32.1, q32.2)
      else
        if ib x2 8 then
        if (U.1 282 x2.toNatClampNeg) = 2 then
          Option.bind (f_174 ((-2)) U) fun q35 =>
          some (q35.1, q35.2)
        else
          if ib x1 8 then
          if (U.1 282 x1.toNatClampNeg) = 1 then
            if ib x2 8 then
            if (U.1 282 x2.toNatClampNeg) = 1 then
              if ib x1 8 then
              if ib x2 8 then
              if (U.1 283 x1.toNatClampNeg) = (U.1 283 x2.toNatClampNeg) then
                f_183_84 x1 x2 x3 x4 x5 U
              else
                Option.bind (f_174 ((-2)) U) fun q43 =>
                some (q43.1, q43.2)
              else none
              else none
            else
              f_183_84 x1 x2 x3 x4 x5 U
            else none
          else
            f_183_84 x1 x2 x3 x4 x5 U
          else none
        else none
      else none
set_option maxRecDepth 10000 in
set_option maxHeartbeats 2000000 in
theorem F_183 (d : Nat) (x1 : Int32) (x2 : Int32) (x3 : Int32) (x4 : Int32) (x5 : Int32) {U : sU} {r : Int32} {U' : sU} (h : f_183 x1 x2 x3 x4 x5 U = some (r, U')) : Rn (d + 1) sm_I183 [.ref 280, .int x1, .int x2, .int x3, .int x4, .int x5] U (some (.int r)) U' := by
  refine Rn_of [(0, .ref 280), (1, .int x1), (2, .int x2), (3, .int x3), (4, .int x4), (5, .int x5)] (Nat.le_of_ble_eq_true rfl) (Sc rfl (Sc rfl (Sc rfl (Sc rfl (Sc rfl (Sc rfl (Sn _))))))) ?_
  first | rw [f_183] at h | rw [f_183.eq_def] at h
  refine g_aload_n 1 rfl rfl rfl ?_
  refine g_iload_n 2 rfl rfl rfl ?_
  have r25 := F_177 d x1 U
  refine g_callV (J := sm_I177) 5 rfl (Nat.le_of_ble_eq_true rfl) rfl rfl (Nat.le_of_ble_eq_true rfl) s_280 (Nat.le_of_ble_eq_true rfl) (Nat.le_of_ble_eq_true rfl) rfl rfl r25 ?_
  refine g_if_eq 16 8 rfl rfl (fun c26 => ?_) (fun c26 => ?_)
  · rw [if_pos c26] at h
    refine g_aload_n 17 rfl rfl rfl ?_
    refine g_iconst (v := (-1)) 18 rfl rfl rfl ?_
    obtain ⟨q27, hq27, h⟩ := Option.bind_eq_some_iff.mp h
    refine g_callV (J := sm_I174) 21 rfl (Nat.le_of_ble_eq_true rfl) rfl rfl (Nat.le_of_ble_eq_true rfl) s_280 (Nat.le_of_ble_eq_true rfl) (Nat.le_of_ble_eq_true rfl) rfl rfl (F_174 d ((-1)) hq27) ?_
    cases h
    exact g_iret rfl rfl
  · rw [if_neg c26] at h
    refine g_aload_n 9 rfl rfl rfl ?_
    refine g_iload_n 10 rfl rfl rfl ?_
    have r28 := F_177 d x2 U
    refine g_callV (J := sm_I177) 13 rfl (Nat.le_of_ble_eq_true rfl) rfl rfl (Nat.le_of_ble_eq_true rfl) s_280 (Nat.le_of_ble_eq_true rfl) (Nat.le_of_ble_eq_true rfl) rfl rfl r28 ?_
    refine g_if_ne 22 16 rfl rfl (fun c29 => ?_) (fun c29 => ?_)
    · rw [if_neg c29] at h
      refine g_aload_n 23 rfl rfl rfl ?_
      refine g_get 26 rfl s_280 (Nat.le_of_ble_eq_true rfl) rfl rfl ?_
      refine g_iload_n 27 rfl rfl rfl ?_
      by_cases i30 : ib x1 8
      case neg => rw [if_neg i30] at h; cases h
      rw [if_pos i30] at h
      refine g_iald 28 rfl s_282 l_282 i30 rfl ?_
      refine g_iconst (v := 2) 29 rfl rfl rfl ?_
      refine g_icmp_eq 77 32 rfl rfl (fun c31 => ?_) (fun c31 => ?_)
      · rw [if_pos c31] at h
        refine g_aload_n 78 rfl rfl rfl ?_
        refine g_bipush (v := (-2)) 80 rfl (by decide) rfl ?_
        obtain ⟨q32, hq32, h⟩ := Option.bind_eq_some_iff.mp h
        refine g_callV (J := sm_I174) 83 rfl (Nat.le_of_ble_eq_true rfl) rfl rfl (Nat.le_of_ble_eq_true rfl) s_280 (Nat.le_of_ble_eq_true rfl) (Nat.le_of_ble_eq_true rfl) rfl rfl (F_174 d ((-2)) hq32) ?_
        cases h
        exact g_iret rfl rfl
      · rw [if_neg c31] at h
        refine g_aload_n 33 rfl rfl rfl ?_
        refine g_get 36 rfl s_280 (Nat.le_of_ble_eq_true rfl) rfl rfl ?_
        refine g_iload_n 37 rfl rfl rfl ?_
        by_cases i33 : ib x2 8
        case neg => rw [if_neg i33] at h; cases h
        rw [if_pos i33] at h
        refine g_iald 38 rfl s_282 l_282 i33 rfl ?_
        refine g_iconst (v := 2) 39 rfl rfl rfl ?_
        refine g_icmp_eq 77 42 rfl rfl (fun c34 => ?_) (fun c34 => ?_)
        · rw [if_pos c34] at h
          refine g_aload_n 78 rfl rfl rfl ?_
          refine g_bipush (v := (-2)) 80 rfl (by decide) rfl ?_
          obtain ⟨q35, hq35, h⟩ := Option.bind_eq_some_iff.mp h
          refine g_callV (J := sm_I174) 83 rfl (Nat.le_of_ble_eq_true rfl) rfl rfl (Nat.le_of_ble_eq_true rfl) s_280 (Nat.le_of_ble_eq_true rfl) (Nat.le_of_ble_eq_true rfl) rfl rfl (F_174 d ((-2)) hq35) ?_
          cases h
          exact g_iret rfl rfl
        · rw [if_neg c34] at h
          refine g_aload_n 43 rfl rfl rfl ?_
          refine g_get 46 rfl s_280 (Nat.le_of_ble_eq_true rfl) rfl rfl ?_
          refine g_iload_n 47 rfl rfl rfl ?_
          by_cases i36 : ib x1 8
          case neg => rw [if_neg i36] at h; cases h
          rw [if_pos i36] at h
          refine g_iald 48 rfl s_282 l_282 i36 rfl ?_
          refine g_iconst (v := 1) 49 rfl rfl rfl ?_
          refine g_icmp_ne 84 52 rfl rfl (fun c37 => ?_) (fun c37 => ?_)
          · rw [if_neg c37] at h
            exact g_sub (Sc rfl (Sc rfl (Sc rfl (Sc rfl (Sc rfl (Sc rfl (Sn _))))))) (F_183_84 d x1 x2 x3 x4 x5 h)
          · rw [if_pos c37] at h
            refine g_aload_n 53 rfl rfl rfl ?_
            refine g_get 56 rfl s_280 (Nat.le_of_ble_eq_true rfl) rfl rfl ?_
            refine g_iload_n 57 rfl rfl rfl ?_
            by_cases i38 : ib x2 8
            case neg => rw [if_neg i38] at h; cases h
            rw [if_pos i38] at h
            refine g_iald 58 rfl s_282 l_282 i38 rfl ?_
            refine g_iconst (v := 1) 59 rfl rfl rfl ?_
            refine g_icmp_ne 84 62 rfl rfl (fun c39 => ?_) (fun c39 => ?_)
            · rw [if_neg c39] at h
              exact g_sub (Sc rfl (Sc rfl (Sc rfl (Sc rfl (Sc rfl (Sc rfl (Sn _))))))) (F_183_84 d x1 x2 x3 x4 x5 h)
            · rw [if_pos c39] at h
              refine g_aload_n 63 rfl rfl rfl ?_
              refine g_get 66 rfl s_280 (Nat.le_of_ble_eq_true rfl) rfl rfl ?_
              refine g_iload_n 67 rfl rfl rfl ?_
              by_cases i40 : ib x1 8
              case neg => rw [if_neg i40] at h; cases h
              rw [if_pos i40] at h
              refine g_iald 68 rfl s_283 l_283 i40 rfl ?_
              refine g_aload_n 69 rfl rfl rfl ?_
              refine g_get 72 rfl s_280 (Nat.le_of_ble_eq_true rfl) rfl rfl ?_
              refine g_iload_n 73 rfl rfl rfl ?_
              by_cases i41 : ib x2 8
              case neg => rw [if_neg i41] at h; cases h
              rw [if_pos i41] at h
              refine g_iald 74 rfl s_283 l_283 i41 rfl ?_
              refine g_icmp_eq 84 77 rfl rfl (fun c42 => ?_) (fun c42 => ?_)
              · rw [if_pos c42] at h
                exact g_sub (Sc rfl (Sc rfl (Sc rfl (Sc rfl (Sc rfl (Sc rfl (Sn _))))))) (F_183_84 d x1 x2 x3 x4 x5 h)
              · rw [if_neg c42] at h
                refine g_aload_n 78 rfl rfl rfl ?_
                refine g_bipush (v := (-2)) 80 rfl (by decide) rfl ?_
                obtain ⟨q43, hq43, h⟩ := Option.bind_eq_some_iff.mp h
                refine g_callV (J := sm_I174) 83 rfl (Nat.le_of_ble_eq_true rfl) rfl rfl (Nat.le_of_ble_eq_true rfl) s_280 (Nat.le_of_ble_eq_true rfl) (Nat.le_of_ble_eq_true rfl) rfl rfl (F_174 d ((-2)) hq43) ?_
                cases h
                exact g_iret rfl rfl
    · rw [if_pos c29] at h
      refine g_aload_n 17 rfl rfl rfl ?_
      refine g_iconst (v := (-1)) 18 rfl rfl rfl ?_
      obtain ⟨q44, hq44, h⟩ := Option.bind_eq_some_iff.mp h
      refine g_callV (J := sm_I174) 21 rfl (Nat.le_of_ble_eq_true rfl) rfl rfl (Nat.le_of_ble_eq_true rfl) s_280 (Nat.le_of_ble_eq_true rfl) (Nat.le_of_ble_eq_true rfl) rfl rfl (F_174 d ((-1)) hq44) ?_
      cases h
      exact g_iret rfl rfl

def f_184 (x1 : Int32) (x2 : Int32) (U : sU) : Option Int64 :=
  if (f_177 x1 U) = 0 then
    some 0
  else
    if ib x1 8 then
    if (U.1 282 x1.toNatClampNeg) = 1 then
      if x2 < 0 then
        some 0
      else
        if ib x1 8 then
        if (U.1 284 x1.toNatClampNeg) ≤ x2 then
          some 0
        else
          if ib ((64 * x1) + x2) 512 then
          some (U.2.1 286 ((64 * x1) + x2).toNatClampNeg)
          else none
        else none
    else
      some 0
    else none
set_option maxRecDepth 10000 in
set_option maxHeartbeats 2000000 in
theorem F_184 (d : Nat) (x1 : Int32) (x2 : Int32) {U : sU} {r : Int64} (h : f_184 x1 x2 U = some r) : Rn (d + 1) sm_I184 [.ref 280, .int x1, .int x2] U (some (.long r)) U := by
  refine Rn_of [(0, .ref 280), (1, .int x1), (2, .int x2)] (Nat.le_of_ble_eq_true rfl) (Sc rfl (Sc rfl (Sc rfl (Sn _)))) ?_
  first | rw [f_184] at h | rw [f_184.eq_def] at h
  refine g_aload_n 1 rfl rfl rfl ?_
  refine g_iload_n 2 rfl rfl rfl ?_
  have r1 := F_177 d x1 U
  refine g_callV (J := sm_I177) 5 rfl (Nat.le_of_ble_eq_true rfl) rfl rfl (Nat.le_of_ble_eq_true rfl) s_280 (Nat.le_of_ble_eq_true rfl) (Nat.le_of_ble_eq_true rfl) rfl rfl r1 ?_
  refine g_if_eq 46 8 rfl rfl (fun c2 => ?_) (fun c2 => ?_)
  · rw [if_pos c2] at h
    refine g_lconst (v := 0) 47 rfl rfl rfl ?_
    cases h
    exact g_lret rfl rfl
  · rw [if_neg c2] at h
    refine g_aload_n 9 rfl rfl rfl ?_
    refine g_get 12 rfl s_280 (Nat.le_of_ble_eq_true rfl) rfl rfl ?_
    refine g_iload_n 13 rfl rfl rfl ?_
    by_cases i3 : ib x1 8
    case neg => rw [if_neg i3] at h; cases h
    rw [if_pos i3] at h
    refine g_iald 14 rfl s_282 l_282 i3 rfl ?_
    refine g_iconst (v := 1) 15 rfl rfl rfl ?_
    refine g_icmp_ne 46 18 rfl rfl (fun c4 => ?_) (fun c4 => ?_)
    · rw [if_neg c4] at h
      refine g_lconst (v := 0) 47 rfl rfl rfl ?_
      cases h
      exact g_lret rfl rfl
    · rw [if_pos c4] at h
      refine g_iload_n 19 rfl rfl rfl ?_
      refine g_if_lt 46 22 rfl rfl (fun c5 => ?_) (fun c5 => ?_)
      · rw [if_pos c5] at h
        refine g_lconst (v := 0) 47 rfl rfl rfl ?_
        cases h
        exact g_lret rfl rfl
      · rw [if_neg c5] at h
        refine g_iload_n 23 rfl rfl rfl ?_
        refine g_aload_n 24 rfl rfl rfl ?_
        refine g_get 27 rfl s_280 (Nat.le_of_ble_eq_true rfl) rfl rfl ?_
        refine g_iload_n 28 rfl rfl rfl ?_
        by_cases i6 : ib x1 8
        case neg => rw [if_neg i6] at h; cases h
        rw [if_pos i6] at h
        refine g_iald 29 rfl s_284 l_284 i6 rfl ?_
        refine g_icmp_ge 46 32 rfl rfl (fun c7 => ?_) (fun c7 => ?_)
        · rw [if_pos c7] at h
          refine g_lconst (v := 0) 47 rfl rfl rfl ?_
          cases h
          exact g_lret rfl rfl
        · rw [if_neg c7] at h
          refine g_aload_n 33 rfl rfl rfl ?_
          refine g_get 36 rfl s_280 (Nat.le_of_ble_eq_true rfl) rfl rfl ?_
          refine g_bipush (v := 64) 38 rfl (by decide) rfl ?_
          refine g_iload_n 39 rfl rfl rfl ?_
          refine g_imul 40 rfl rfl ?_
          refine g_iload_n 41 rfl rfl rfl ?_
          refine g_iadd 42 rfl rfl ?_
          by_cases i8 : ib ((64 * x1) + x2) 512
          case neg => rw [if_neg i8] at h; cases h
          rw [if_pos i8] at h
          refine g_lald 43 rfl s_286 l_286 i8 rfl ?_
          refine g_goto 47 rfl ?_
          cases h
          exact g_lret rfl rfl

def f_185_42 (v1 : Int32) (v2 : Int32) (z0 : Nat) (z1 : Int32) (z2 : Int32) (U : sU) : Option (Int32 × sU) :=
  if ib z1 (ln z0) then
  if ib v1 8 then
  if v2 = ((-1)) then
    some (0, sI (sI U z0 z1.toNatClampNeg z2) 285 v1.toNatClampNeg v2)
  else
    some (1, sI (sI U z0 z1.toNatClampNeg z2) 285 v1.toNatClampNeg v2)
  else none
  else none
set_option maxRecDepth 10000 in
set_option maxHeartbeats 2000000 in
theorem F_185_42 (d : Nat)   (v1 : Int32) (v2 : Int32) (z0 : Nat) (hz0 : sh z0 = 11) (z1 : Int32) (z2 : Int32) {U : sU} {r : Int32} {U' : sU} (h : f_185_42 v1 v2 z0 z1 z2 U = some (r, U')) : G (d + 1) sm_I185 42 [(0, .ref 280), (1, .int v1), (2, .int v2)] [.int z2, .int z1, .ref z0] U (some (.int r)) U' := by
  first | rw [f_185_42] at h | rw [f_185_42.eq_def] at h
  by_cases i1 : ib z1 (ln z0)
  case neg => rw [if_neg i1] at h; cases h
  rw [if_pos i1] at h
  refine g_iast 43 rfl hz0 rfl i1 rfl ?_
  refine g_aload_n 44 rfl rfl rfl ?_
  refine g_get 47 rfl s_280 (Nat.le_of_ble_eq_true rfl) rfl rfl ?_
  refine g_iload_n 48 rfl rfl rfl ?_
  refine g_iload_n 49 rfl rfl rfl ?_
  by_cases i2 : ib v1 8
  case neg => rw [if_neg i2] at h; cases h
  rw [if_pos i2] at h
  refine g_iast 50 rfl s_285 l_285 i2 rfl ?_
  refine g_iload_n 51 rfl rfl rfl ?_
  refine g_iconst (v := (-1)) 52 rfl rfl rfl ?_
  refine g_icmp_ne 59 55 rfl rfl (fun c3 => ?_) (fun c3 => ?_)
  · rw [if_neg c3] at h
    refine g_iconst (v := 1) 60 rfl rfl rfl ?_
    cases h
    exact g_iret rfl rfl
  · rw [if_pos c3] at h
    refine g_iconst (v := 0) 56 rfl rfl rfl ?_
    refine g_goto 60 rfl ?_
    cases h
    exact g_iret rfl rfl
def f_185_27 (v1 : Int32) (v2 : Int32) (U : sU) : Option (Int32 × sU) :=
  if v2 = ((-1)) then
    f_185_42 v1 v2 282 v1 0 U
  else
    f_185_42 v1 v2 282 v1 2 U
set_option maxRecDepth 10000 in
set_option maxHeartbeats 2000000 in
theorem F_185_27 (d : Nat)   (v1 : Int32) (v2 : Int32) {U : sU} {r : Int32} {U' : sU} (h : f_185_27 v1 v2 U = some (r, U')) : G (d + 1) sm_I185 27 [(0, .ref 280), (1, .int v1), (2, .int v2)] [] U (some (.int r)) U' := by
  first | rw [f_185_27] at h | rw [f_185_27.eq_def] at h
  refine g_aload_n 28 rfl rfl rfl ?_
  refine g_get 31 rfl s_280 (Nat.le_of_ble_eq_true rfl) rfl rfl ?_
  refine g_iload_n 32 rfl rfl rfl ?_
  refine g_iload_n 33 rfl rfl rfl ?_
  refine g_iconst (v := (-1)) 34 rfl rfl rfl ?_
  refine g_icmp_ne 41 37 rfl rfl (fun c4 => ?_) (fun c4 => ?_)
  · rw [if_neg c4] at h
    refine g_iconst (v := 2) 42 rfl rfl rfl ?_
    exact g_sub (Sc rfl (Sc rfl (Sc rfl (Sn _)))) (F_185_42 d v1 v2 282 s_282 v1 2 h)
  · rw [if_pos c4] at h
    refine g_iconst (v := 0) 38 rfl rfl rfl ?_
    refine g_goto 42 rfl ?_
    exact g_sub (Sc rfl (Sc rfl (Sc rfl (Sn _)))) (F_185_42 d v1 v2 282 s_282 v1 0 h)
def f_185 (x1 : Int32) (x2 : Int32) (U : sU) : Option (Int32 × sU) :=
  if (f_177 x1 U) = 0 then
    Option.bind (f_174 ((-1)) U) fun q7 =>
    some (q7.1, q7.2)
  else
    if x2 = ((-1)) then
      f_185_27 x1 x2 U
    else
      if (f_180 x2 U) = 0 then
        Option.bind (f_174 ((-1)) U) fun q11 =>
        some (q11.1, q11.2)
      else
        f_185_27 x1 x2 U
set_option maxRecDepth 10000 in
set_option maxHeartbeats 2000000 in
theorem F_185 (d : Nat) (x1 : Int32) (x2 : Int32) {U : sU} {r : Int32} {U' : sU} (h : f_185 x1 x2 U = some (r, U')) : Rn (d + 1) sm_I185 [.ref 280, .int x1, .int x2] U (some (.int r)) U' := by
  refine Rn_of [(0, .ref 280), (1, .int x1), (2, .int x2)] (Nat.le_of_ble_eq_true rfl) (Sc rfl (Sc rfl (Sc rfl (Sn _)))) ?_
  first | rw [f_185] at h | rw [f_185.eq_def] at h
  refine g_aload_n 1 rfl rfl rfl ?_
  refine g_iload_n 2 rfl rfl rfl ?_
  have r5 := F_177 d x1 U
  refine g_callV (J := sm_I177) 5 rfl (Nat.le_of_ble_eq_true rfl) rfl rfl (Nat.le_of_ble_eq_true rfl) s_280 (Nat.le_of_ble_eq_true rfl) (Nat.le_of_ble_eq_true rfl) rfl rfl r5 ?_
  refine g_if_eq 21 8 rfl rfl (fun c6 => ?_) (fun c6 => ?_)
  · rw [if_pos c6] at h
    refine g_aload_n 22 rfl rfl rfl ?_
    refine g_iconst (v := (-1)) 23 rfl rfl rfl ?_
    obtain ⟨q7, hq7, h⟩ := Option.bind_eq_some_iff.mp h
    refine g_callV (J := sm_I174) 26 rfl (Nat.le_of_ble_eq_true rfl) rfl rfl (Nat.le_of_ble_eq_true rfl) s_280 (Nat.le_of_ble_eq_true rfl) (Nat.le_of_ble_eq_true rfl) rfl rfl (F_174 d ((-1)) hq7) ?_
    cases h
    exact g_iret rfl rfl
  · rw [if_neg c6] at h
    refine g_iload_n 9 rfl rfl rfl ?_
    refine g_iconst (v := (-1)) 10 rfl rfl rfl ?_
    refine g_icmp_eq 27 13 rfl rfl (fun c8 => ?_) (fun c8 => ?_)
    · rw [if_pos c8] at h
      exact g_sub (Sc rfl (Sc rfl (Sc rfl (Sn _)))) (F_185_27 d x1 x2 h)
    · rw [if_neg c8] at h
      refine g_aload_n 14 rfl rfl rfl ?_
      refine g_iload_n 15 rfl rfl rfl ?_
      have r9 := F_180 d x2 U
      refine g_callV (J := sm_I180) 18 rfl (Nat.le_of_ble_eq_true rfl) rfl rfl (Nat.le_of_ble_eq_true rfl) s_280 (Nat.le_of_ble_eq_true rfl) (Nat.le_of_ble_eq_true rfl) rfl rfl r9 ?_
      refine g_if_ne 27 21 rfl rfl (fun c10 => ?_) (fun c10 => ?_)
      · rw [if_neg c10] at h
        exact g_sub (Sc rfl (Sc rfl (Sc rfl (Sn _)))) (F_185_27 d x1 x2 h)
      · rw [if_pos c10] at h
        refine g_aload_n 22 rfl rfl rfl ?_
        refine g_iconst (v := (-1)) 23 rfl rfl rfl ?_
        obtain ⟨q11, hq11, h⟩ := Option.bind_eq_some_iff.mp h
        refine g_callV (J := sm_I174) 26 rfl (Nat.le_of_ble_eq_true rfl) rfl rfl (Nat.le_of_ble_eq_true rfl) s_280 (Nat.le_of_ble_eq_true rfl) (Nat.le_of_ble_eq_true rfl) rfl rfl (F_174 d ((-1)) hq11) ?_
        cases h
        exact g_iret rfl rfl

def f_186 (x1 : Int32) (U : sU) : Option Int32 :=
  if (f_177 x1 U) = 0 then
    some ((-1))
  else
    if ib x1 8 then
    if (U.1 282 x1.toNatClampNeg) = 0 then
      some ((-1))
    else
      if ib x1 8 then
      if (U.1 282 x1.toNatClampNeg) = 1 then
        if ib x1 8 then
        some (100 + (U.1 283 x1.toNatClampNeg))
        else none
      else
        if ib x1 8 then
        some (U.1 285 x1.toNatClampNeg)
        else none
      else none
    else none
set_option maxRecDepth 10000 in
set_option maxHeartbeats 2000000 in
theorem F_186 (d : Nat) (x1 : Int32) {U : sU} {r : Int32} (h : f_186 x1 U = some r) : Rn (d + 1) sm_I186 [.ref 280, .int x1] U (some (.int r)) U := by
  refine Rn_of [(0, .ref 280), (1, .int x1)] (Nat.le_of_ble_eq_true rfl) (Sc rfl (Sc rfl (Sn _))) ?_
  first | rw [f_186] at h | rw [f_186.eq_def] at h
  refine g_aload_n 1 rfl rfl rfl ?_
  refine g_iload_n 2 rfl rfl rfl ?_
  have r1 := F_177 d x1 U
  refine g_callV (J := sm_I177) 5 rfl (Nat.le_of_ble_eq_true rfl) rfl rfl (Nat.le_of_ble_eq_true rfl) s_280 (Nat.le_of_ble_eq_true rfl) (Nat.le_of_ble_eq_true rfl) rfl rfl r1 ?_
  refine g_if_eq 17 8 rfl rfl (fun c2 => ?_) (fun c2 => ?_)
  · rw [if_pos c2] at h
    refine g_iconst (v := (-1)) 18 rfl rfl rfl ?_
    cases h
    exact g_iret rfl rfl
  · rw [if_neg c2] at h
    refine g_aload_n 9 rfl rfl rfl ?_
    refine g_get 12 rfl s_280 (Nat.le_of_ble_eq_true rfl) rfl rfl ?_
    refine g_iload_n 13 rfl rfl rfl ?_
    by_cases i3 : ib x1 8
    case neg => rw [if_neg i3] at h; cases h
    rw [if_pos i3] at h
    refine g_iald 14 rfl s_282 l_282 i3 rfl ?_
    refine g_if_ne 19 17 rfl rfl (fun c4 => ?_) (fun c4 => ?_)
    · rw [if_neg c4] at h
      refine g_aload_n 20 rfl rfl rfl ?_
      refine g_get 23 rfl s_280 (Nat.le_of_ble_eq_true rfl) rfl rfl ?_
      refine g_iload_n 24 rfl rfl rfl ?_
      by_cases i5 : ib x1 8
      case neg => rw [if_neg i5] at h; cases h
      rw [if_pos i5] at h
      refine g_iald 25 rfl s_282 l_282 i5 rfl ?_
      refine g_iconst (v := 1) 26 rfl rfl rfl ?_
      refine g_icmp_ne 41 29 rfl rfl (fun c6 => ?_) (fun c6 => ?_)
      · rw [if_neg c6] at h
        refine g_aload_n 42 rfl rfl rfl ?_
        refine g_get 45 rfl s_280 (Nat.le_of_ble_eq_true rfl) rfl rfl ?_
        refine g_iload_n 46 rfl rfl rfl ?_
        by_cases i7 : ib x1 8
        case neg => rw [if_neg i7] at h; cases h
        rw [if_pos i7] at h
        refine g_iald 47 rfl s_285 l_285 i7 rfl ?_
        cases h
        exact g_iret rfl rfl
      · rw [if_pos c6] at h
        refine g_bipush (v := 100) 31 rfl (by decide) rfl ?_
        refine g_aload_n 32 rfl rfl rfl ?_
        refine g_get 35 rfl s_280 (Nat.le_of_ble_eq_true rfl) rfl rfl ?_
        refine g_iload_n 36 rfl rfl rfl ?_
        by_cases i8 : ib x1 8
        case neg => rw [if_neg i8] at h; cases h
        rw [if_pos i8] at h
        refine g_iald 37 rfl s_283 l_283 i8 rfl ?_
        refine g_iadd 38 rfl rfl ?_
        refine g_goto 47 rfl ?_
        cases h
        exact g_iret rfl rfl
    · rw [if_pos c4] at h
      refine g_iconst (v := (-1)) 18 rfl rfl rfl ?_
      cases h
      exact g_iret rfl rfl

def f_187 (x1 : Int32) (x2 : Int32) (U : sU) : Int32 :=
  if x2 = 0 then
    1
  else
    if x1 = x2 then
      1
    else
      if x2 = 1 then
        if x1 = 3 then
          1
        else
          if x1 = 4 then
            1
          else
            0
      else
        0
set_option maxRecDepth 10000 in
set_option maxHeartbeats 2000000 in
theorem F_187 (d : Nat) (x1 : Int32) (x2 : Int32) (U : sU) : Rn (d + 0) sm_I187 [.ref 280, .int x1, .int x2] U (some (.int (f_187 x1 x2 U))) U := by
  refine Rn_of [(0, .ref 280), (1, .int x1), (2, .int x2)] (Nat.le_of_ble_eq_true rfl) (Sc rfl (Sc rfl (Sc rfl (Sn _)))) ?_
  generalize h : f_187 x1 x2 U = r
  first | rw [f_187] at h | rw [f_187.eq_def] at h
  refine g_iload_n 1 rfl rfl rfl ?_
  refine g_if_eq 24 4 rfl rfl (fun c1 => ?_) (fun c1 => ?_)
  · rw [if_pos c1] at h
    refine g_iconst (v := 1) 25 rfl rfl rfl ?_
    refine g_goto 29 rfl ?_
    subst h
    exact g_zret rfl rfl (Or.inr rfl)
  · rw [if_neg c1] at h
    refine g_iload_n 5 rfl rfl rfl ?_
    refine g_iload_n 6 rfl rfl rfl ?_
    refine g_icmp_eq 24 9 rfl rfl (fun c2 => ?_) (fun c2 => ?_)
    · rw [if_pos c2] at h
      refine g_iconst (v := 1) 25 rfl rfl rfl ?_
      refine g_goto 29 rfl ?_
      subst h
      exact g_zret rfl rfl (Or.inr rfl)
    · rw [if_neg c2] at h
      refine g_iload_n 10 rfl rfl rfl ?_
      refine g_iconst (v := 1) 11 rfl rfl rfl ?_
      refine g_icmp_ne 28 14 rfl rfl (fun c3 => ?_) (fun c3 => ?_)
      · rw [if_neg c3] at h
        refine g_iconst (v := 0) 29 rfl rfl rfl ?_
        subst h
        exact g_zret rfl rfl (Or.inl rfl)
      · rw [if_pos c3] at h
        refine g_iload_n 15 rfl rfl rfl ?_
        refine g_iconst (v := 3) 16 rfl rfl rfl ?_
        refine g_icmp_eq 24 19 rfl rfl (fun c4 => ?_) (fun c4 => ?_)
        · rw [if_pos c4] at h
          refine g_iconst (v := 1) 25 rfl rfl rfl ?_
          refine g_goto 29 rfl ?_
          subst h
          exact g_zret rfl rfl (Or.inr rfl)
        · rw [if_neg c4] at h
          refine g_iload_n 20 rfl rfl rfl ?_
          refine g_iconst (v := 4) 21 rfl rfl rfl ?_
          refine g_icmp_ne 28 24 rfl rfl (fun c5 => ?_) (fun c5 => ?_)
          · rw [if_neg c5] at h
            refine g_iconst (v := 0) 29 rfl rfl rfl ?_
            subst h
            exact g_zret rfl rfl (Or.inl rfl)
          · rw [if_pos c5] at h
            refine g_iconst (v := 1) 25 rfl rfl rfl ?_
            refine g_goto 29 rfl ?_
            subst h
            exact g_zret rfl rfl (Or.inr rfl)

def f_214_4 : Nat → Int32 → Int32 → sU → Option Int32
  | 0, _, _, _ => none
  | n + 1, v2, v3, U =>
    if v3 ≤ 0 then
      some v2
    else
      f_214_4 n (v2 + (v3 &&& 1)) (v3 >>> (1 &&& 31)) U
set_option maxRecDepth 10000 in
set_option maxHeartbeats 2000000 in
theorem F_214_4 (d : Nat)   : ∀ (n : Nat) (v2 : Int32) (v3 : Int32) (U : sU) (r : Int32), f_214_4 n v2 v3 U = some r → G (d + 0) sm_I214 4 [(2, .int v2), (3, .int v3)] [] U (some (.int r)) U := by
  intro n
  induction n with
  | zero => intro v2 v3 U r h; cases h
  | succ n ih =>
    intro v2 v3 U r h
    first | rw [f_214_4] at h | (rw [f_214_4.eq_def] at h; dsimp only at h)
    refine g_iload_n 5 rfl rfl rfl ?_
    refine g_if_le 21 8 rfl rfl (fun c1 => ?_) (fun c1 => ?_)
    · rw [if_pos c1] at h
      refine g_iload_n 22 rfl rfl rfl ?_
      cases h
      exact g_iret rfl rfl
    · rw [if_neg c1] at h
      refine g_iload_n 9 rfl rfl rfl ?_
      refine g_iload_n 10 rfl rfl rfl ?_
      refine g_iconst (v := 1) 11 rfl rfl rfl ?_
      refine g_iand 12 rfl rfl ?_
      refine g_iadd 13 rfl rfl ?_
      refine g_istore_n 14 [(2, .int (v2 + (v3 &&& 1))), (3, .int v3)] rfl (Nat.le_of_ble_eq_true rfl) rfl rfl ?_
      refine g_iload_n 15 rfl rfl rfl ?_
      refine g_iconst (v := 1) 16 rfl rfl rfl ?_
      refine g_ishr 17 rfl rfl ?_
      refine g_istore_n 18 [(3, .int (v3 >>> (1 &&& 31))), (2, .int (v2 + (v3 &&& 1)))] rfl (Nat.le_of_ble_eq_true rfl) rfl rfl ?_
      refine g_goto 4 rfl ?_
      exact g_sub (Sc rfl (Sc rfl (Sn _))) (ih (v2 + (v3 &&& 1)) (v3 >>> (1 &&& 31)) _ _ h)
def f_214 (x1 : Int32) (U : sU) : Option Int32 :=
  f_214_4 FU 0 x1 U
set_option maxRecDepth 10000 in
set_option maxHeartbeats 2000000 in
theorem F_214 (d : Nat) (x1 : Int32) {U : sU} {r : Int32} (h : f_214 x1 U = some r) : Rn (d + 0) sm_I214 [.ref 280, .int x1] U (some (.int r)) U := by
  refine Rn_of [(0, .ref 280), (1, .int x1)] (Nat.le_of_ble_eq_true rfl) (Sc rfl (Sc rfl (Sn _))) ?_
  first | rw [f_214] at h | rw [f_214.eq_def] at h
  refine g_iconst (v := 0) 1 rfl rfl rfl ?_
  refine g_istore_n 2 [(2, .int 0), (0, .ref 280), (1, .int x1)] rfl (Nat.le_of_ble_eq_true rfl) rfl rfl ?_
  refine g_iload_n 3 rfl rfl rfl ?_
  refine g_istore_n 4 [(3, .int x1), (2, .int 0), (0, .ref 280), (1, .int x1)] rfl (Nat.le_of_ble_eq_true rfl) rfl rfl ?_
  exact g_sub (Sc rfl (Sc rfl (Sn _))) (F_214_4 d _ 0 x1 _ _ h)

def f_217_4 : Nat → Int32 → Int32 → Int32 → sU → Option Int32
  | 0, _, _, _, _ => none
  | n + 1, v1, v2, v3, U =>
    if ib v1 12 then
    if ib (U.1 298 v1.toNatClampNeg) 8 then
    if (U.1 288 (U.1 298 v1.toNatClampNeg).toNatClampNeg) ≤ v3 then
      some v2
    else
      if ib ((12 * v1) + v3) 144 then
      f_217_4 n v1 (v2 ||| (1 <<< ((U.1 301 ((12 * v1) + v3).toNatClampNeg) &&& 31))) (v3 + 1) U
      else none
    else none
    else none
set_option maxRecDepth 10000 in
set_option maxHeartbeats 2000000 in
theorem F_217_4 (d : Nat)   : ∀ (n : Nat) (v1 : Int32) (v2 : Int32) (v3 : Int32) (U : sU) (r : Int32), f_217_4 n v1 v2 v3 U = some r → G (d + 0) sm_I217 4 [(0, .ref 280), (1, .int v1), (2, .int v2), (3, .int v3)] [] U (some (.int r)) U := by
  intro n
  induction n with
  | zero => intro v1 v2 v3 U r h; cases h
  | succ n ih =>
    intro v1 v2 v3 U r h
    first | rw [f_217_4] at h | (rw [f_217_4.eq_def] at h; dsimp only at h)
    refine g_iload_n 5 rfl rfl rfl ?_
    refine g_aload_n 6 rfl rfl rfl ?_
    refine g_get 9 rfl s_280 (Nat.le_of_ble_eq_true rfl) rfl rfl ?_
    refine g_aload_n 10 rfl rfl rfl ?_
    refine g_get 13 rfl s_280 (Nat.le_of_ble_eq_true rfl) rfl rfl ?_
    refine g_iload_n 14 rfl rfl rfl ?_
    by_cases i1 : ib v1 12
    case neg => rw [if_neg i1] at h; cases h
    rw [if_pos i1] at h
    refine g_iald 15 rfl s_298 l_298 i1 rfl ?_
    by_cases i2 : ib (U.1 298 v1.toNatClampNeg) 8
    case neg => rw [if_neg i2] at h; cases h
    rw [if_pos i2] at h
    refine g_iald 16 rfl s_288 l_288 i2 rfl ?_
    refine g_icmp_ge 41 19 rfl rfl (fun c3 => ?_) (fun c3 => ?_)
    · rw [if_pos c3] at h
      refine g_iload_n 42 rfl rfl rfl ?_
      cases h
      exact g_iret rfl rfl
    · rw [if_neg c3] at h
      refine g_iload_n 20 rfl rfl rfl ?_
      refine g_iconst (v := 1) 21 rfl rfl rfl ?_
      refine g_aload_n 22 rfl rfl rfl ?_
      refine g_get 25 rfl s_280 (Nat.le_of_ble_eq_true rfl) rfl rfl ?_
      refine g_bipush (v := 12) 27 rfl (by decide) rfl ?_
      refine g_iload_n 28 rfl rfl rfl ?_
      refine g_imul 29 rfl rfl ?_
      refine g_iload_n 30 rfl rfl rfl ?_
      refine g_iadd 31 rfl rfl ?_
      by_cases i4 : ib ((12 * v1) + v3) 144
      case neg => rw [if_neg i4] at h; cases h
      rw [if_pos i4] at h
      refine g_iald 32 rfl s_301 l_301 i4 rfl ?_
      refine g_ishl 33 rfl rfl ?_
      refine g_ior 34 rfl rfl ?_
      refine g_istore_n 35 [(2, .int (v2 ||| (1 <<< ((U.1 301 ((12 * v1) + v3).toNatClampNeg) &&& 31)))), (0, .ref 280), (1, .int v1), (3, .int v3)] rfl (Nat.le_of_ble_eq_true rfl) rfl rfl ?_
      refine g_iinc (v := v3 + 1) 38 [(3, .int (v3 + 1)), (2, .int (v2 ||| (1 <<< ((U.1 301 ((12 * v1) + v3).toNatClampNeg) &&& 31)))), (0, .ref 280), (1, .int v1)] rfl rfl (Nat.le_of_ble_eq_true rfl) rfl rfl rfl ?_
      refine g_goto 4 rfl ?_
      exact g_sub (Sc rfl (Sc rfl (Sc rfl (Sc rfl (Sn _))))) (ih v1 (v2 ||| (1 <<< ((U.1 301 ((12 * v1) + v3).toNatClampNeg) &&& 31))) (v3 + 1) _ _ h)
def f_217 (x1 : Int32) (U : sU) : Option Int32 :=
  f_217_4 FU x1 0 0 U
set_option maxRecDepth 10000 in
set_option maxHeartbeats 2000000 in
theorem F_217 (d : Nat) (x1 : Int32) {U : sU} {r : Int32} (h : f_217 x1 U = some r) : Rn (d + 0) sm_I217 [.ref 280, .int x1] U (some (.int r)) U := by
  refine Rn_of [(0, .ref 280), (1, .int x1)] (Nat.le_of_ble_eq_true rfl) (Sc rfl (Sc rfl (Sn _))) ?_
  first | rw [f_217] at h | rw [f_217.eq_def] at h
  refine g_iconst (v := 0) 1 rfl rfl rfl ?_
  refine g_istore_n 2 [(2, .int 0), (0, .ref 280), (1, .int x1)] rfl (Nat.le_of_ble_eq_true rfl) rfl rfl ?_
  refine g_iconst (v := 0) 3 rfl rfl rfl ?_
  refine g_istore_n 4 [(3, .int 0), (2, .int 0), (0, .ref 280), (1, .int x1)] rfl (Nat.le_of_ble_eq_true rfl) rfl rfl ?_
  exact g_sub (Sc rfl (Sc rfl (Sc rfl (Sc rfl (Sn _))))) (F_217_4 d _ x1 0 0 _ _ h)

def f_218 (x1 : Int32) (U : sU) : Option Int32 :=
  Option.bind (f_217 x1 U) fun q1 =>
  Option.bind (f_214 q1 U) fun q2 =>
  some q2
set_option maxRecDepth 10000 in
set_option maxHeartbeats 2000000 in
theorem F_218 (d : Nat) (x1 : Int32) {U : sU} {r : Int32} (h : f_218 x1 U = some r) : Rn (d + 1) sm_I218 [.ref 280, .int x1] U (some (.int r)) U := by
  refine Rn_of [(0, .ref 280), (1, .int x1)] (Nat.le_of_ble_eq_true rfl) (Sc rfl (Sc rfl (Sn _))) ?_
  first | rw [f_218] at h | rw [f_218.eq_def] at h
  refine g_aload_n 1 rfl rfl rfl ?_
  refine g_aload_n 2 rfl rfl rfl ?_
  refine g_iload_n 3 rfl rfl rfl ?_
  obtain ⟨q1, hq1, h⟩ := Option.bind_eq_some_iff.mp h
  refine g_callV (J := sm_I217) 6 rfl (Nat.le_of_ble_eq_true rfl) rfl rfl (Nat.le_of_ble_eq_true rfl) s_280 (Nat.le_of_ble_eq_true rfl) (Nat.le_of_ble_eq_true rfl) rfl rfl (F_217 d x1 hq1) ?_
  obtain ⟨q2, hq2, h⟩ := Option.bind_eq_some_iff.mp h
  refine g_callV (J := sm_I214) 9 rfl (Nat.le_of_ble_eq_true rfl) rfl rfl (Nat.le_of_ble_eq_true rfl) s_280 (Nat.le_of_ble_eq_true rfl) (Nat.le_of_ble_eq_true rfl) rfl rfl (F_214 d q1 hq2) ?_
  cases h
  exact g_iret rfl rfl

def f_188_69 (v1 : Int32) (v2 : Int32) (U : sU) : Option (Int32 × sU) :=
  if ib v1 8 then
  if (U.1 282 v1.toNatClampNeg) = 0 then
    Option.bind (f_174 ((-3)) U) fun q11 =>
    some (q11.1, q11.2)
  else
    if ib v1 8 then
    if v2 = 0 then
      if ib (U.1 285 v1.toNatClampNeg) 12 then
      some (U.1 298 (U.1 285 v1.toNatClampNeg).toNatClampNeg, U)
      else none
    else
      if v2 = 2 then
        if ib (U.1 285 v1.toNatClampNeg) 12 then
        some (U.1 300 (U.1 285 v1.toNatClampNeg).toNatClampNeg, U)
        else none
      else
        if v2 = 5 then
          if ib (12 * (U.1 285 v1.toNatClampNeg)) 144 then
          some (U.1 302 (12 * (U.1 285 v1.toNatClampNeg)).toNatClampNeg, U)
          else none
        else
          Option.bind (f_218 (U.1 285 v1.toNatClampNeg) U) fun q7 =>
          some (q7, U)
    else none
  else none
set_option maxRecDepth 10000 in
set_option maxHeartbeats 2000000 in
theorem F_188_69 (d : Nat)   (v1 : Int32) (v2 : Int32) {U : sU} {r : Int32} {U' : sU} (h : f_188_69 v1 v2 U = some (r, U')) : G (d + 2) sm_I188 69 [(0, .ref 280), (1, .int v1), (2, .int v2)] [] U (some (.int r)) U' := by
  first | rw [f_188_69] at h | rw [f_188_69.eq_def] at h
  refine g_aload_n 70 rfl rfl rfl ?_
  refine g_get 73 rfl s_280 (Nat.le_of_ble_eq_true rfl) rfl rfl ?_
  refine g_iload_n 74 rfl rfl rfl ?_
  by_cases i1 : ib v1 8
  case neg => rw [if_neg i1] at h; cases h
  rw [if_pos i1] at h
  refine g_iald 75 rfl s_282 l_282 i1 rfl ?_
  refine g_if_ne 85 78 rfl rfl (fun c2 => ?_) (fun c2 => ?_)
  · rw [if_neg c2] at h
    refine g_aload_n 86 rfl rfl rfl ?_
    refine g_get 89 rfl s_280 (Nat.le_of_ble_eq_true rfl) rfl rfl ?_
    refine g_iload_n 90 rfl rfl rfl ?_
    by_cases i3 : ib v1 8
    case neg => rw [if_neg i3] at h; cases h
    rw [if_pos i3] at h
    refine g_iald 91 rfl s_285 l_285 i3 rfl ?_
    refine g_istore_n 92 [(3, .int (U.1 285 v1.toNatClampNeg)), (0, .ref 280), (1, .int v1), (2, .int v2)] rfl (Nat.le_of_ble_eq_true rfl) rfl rfl ?_
    refine g_iload_n 93 rfl rfl rfl ?_
    refine g_if_ne 103 96 rfl rfl (fun c4 => ?_) (fun c4 => ?_)
    · rw [if_neg c4] at h
      refine g_iload_n 104 rfl rfl rfl ?_
      refine g_iconst (v := 2) 105 rfl rfl rfl ?_
      refine g_icmp_ne 115 108 rfl rfl (fun c5 => ?_) (fun c5 => ?_)
      · rw [if_neg c5] at h
        refine g_iload_n 116 rfl rfl rfl ?_
        refine g_iconst (v := 5) 117 rfl rfl rfl ?_
        refine g_icmp_ne 130 120 rfl rfl (fun c6 => ?_) (fun c6 => ?_)
        · rw [if_neg c6] at h
          refine g_aload_n 131 rfl rfl rfl ?_
          refine g_iload_n 132 rfl rfl rfl ?_
          obtain ⟨q7, hq7, h⟩ := Option.bind_eq_some_iff.mp h
          refine g_callV (J := sm_I218) 135 rfl (Nat.le_of_ble_eq_true rfl) rfl rfl (Nat.le_of_ble_eq_true rfl) s_280 (Nat.le_of_ble_eq_true rfl) (Nat.le_of_ble_eq_true rfl) rfl rfl (F_218 d (U.1 285 v1.toNatClampNeg) hq7) ?_
          cases h
          exact g_iret rfl rfl
        · rw [if_pos c6] at h
          refine g_aload_n 121 rfl rfl rfl ?_
          refine g_get 124 rfl s_280 (Nat.le_of_ble_eq_true rfl) rfl rfl ?_
          refine g_bipush (v := 12) 126 rfl (by decide) rfl ?_
          refine g_iload_n 127 rfl rfl rfl ?_
          refine g_imul 128 rfl rfl ?_
          by_cases i8 : ib (12 * (U.1 285 v1.toNatClampNeg)) 144
          case neg => rw [if_neg i8] at h; cases h
          rw [if_pos i8] at h
          refine g_iald 129 rfl s_302 l_302 i8 rfl ?_
          cases h
          exact g_iret rfl rfl
      · rw [if_pos c5] at h
        refine g_aload_n 109 rfl rfl rfl ?_
        refine g_get 112 rfl s_280 (Nat.le_of_ble_eq_true rfl) rfl rfl ?_
        refine g_iload_n 113 rfl rfl rfl ?_
        by_cases i9 : ib (U.1 285 v1.toNatClampNeg) 12
        case neg => rw [if_neg i9] at h; cases h
        rw [if_pos i9] at h
        refine g_iald 114 rfl s_300 l_300 i9 rfl ?_
        cases h
        exact g_iret rfl rfl
    · rw [if_pos c4] at h
      refine g_aload_n 97 rfl rfl rfl ?_
      refine g_get 100 rfl s_280 (Nat.le_of_ble_eq_true rfl) rfl rfl ?_
      refine g_iload_n 101 rfl rfl rfl ?_
      by_cases i10 : ib (U.1 285 v1.toNatClampNeg) 12
      case neg => rw [if_neg i10] at h; cases h
      rw [if_pos i10] at h
      refine g_iald 102 rfl s_298 l_298 i10 rfl ?_
      cases h
      exact g_iret rfl rfl
  · rw [if_pos c2] at h
    refine g_aload_n 79 rfl rfl rfl ?_
    refine g_bipush (v := (-3)) 81 rfl (by decide) rfl ?_
    obtain ⟨q11, hq11, h⟩ := Option.bind_eq_some_iff.mp h
    refine g_callV (J := sm_I174) 84 rfl (Nat.le_of_ble_eq_true rfl) rfl rfl (Nat.le_of_ble_eq_true rfl) s_280 (Nat.le_of_ble_eq_true rfl) (Nat.le_of_ble_eq_true rfl) rfl rfl (F_174 (d + 1) ((-3)) hq11) ?_
    cases h
    exact g_iret rfl rfl
def f_188 (x1 : Int32) (x2 : Int32) (U : sU) : Option (Int32 × sU) :=
  if (f_177 x1 U) = 0 then
    Option.bind (f_174 ((-1)) U) fun q14 =>
    some (q14.1, q14.2)
  else
    if x2 < 0 then
      Option.bind (f_174 ((-1)) U) fun q16 =>
      some (q16.1, q16.2)
    else
      if x2 ≤ 5 then
        if ib x1 8 then
        if (U.1 282 x1.toNatClampNeg) = 1 then
          Option.bind (f_174 ((-2)) U) fun q20 =>
          some (q20.1, q20.2)
        else
          if ib x1 8 then
          if (U.1 282 x1.toNatClampNeg) = 2 then
            if ib x1 8 then
            if ib (U.1 285 x1.toNatClampNeg) 12 then
            if (f_187 (U.1 299 (U.1 285 x1.toNatClampNeg).toNatClampNeg) x2 U) = 0 then
              Option.bind (f_174 ((-2)) U) fun q27 =>
              some (q27.1, q27.2)
            else
              f_188_69 x1 x2 U
            else none
            else none
          else
            f_188_69 x1 x2 U
          else none
        else none
      else
        Option.bind (f_174 ((-1)) U) fun q28 =>
        some (q28.1, q28.2)
set_option maxRecDepth 10000 in
set_option maxHeartbeats 2000000 in
theorem F_188 (d : Nat) (x1 : Int32) (x2 : Int32) {U : sU} {r : Int32} {U' : sU} (h : f_188 x1 x2 U = some (r, U')) : Rn (d + 2) sm_I188 [.ref 280, .int x1, .int x2] U (some (.int r)) U' := by
  refine Rn_of [(0, .ref 280), (1, .int x1), (2, .int x2)] (Nat.le_of_ble_eq_true rfl) (Sc rfl (Sc rfl (Sc rfl (Sn _)))) ?_
  first | rw [f_188] at h | rw [f_188.eq_def] at h
  refine g_aload_n 1 rfl rfl rfl ?_
  refine g_iload_n 2 rfl rfl rfl ?_
  have r12 := F_177 (d + 1) x1 U
  refine g_callV (J := sm_I177) 5 rfl (Nat.le_of_ble_eq_true rfl) rfl rfl (Nat.le_of_ble_eq_true rfl) s_280 (Nat.le_of_ble_eq_true rfl) (Nat.le_of_ble_eq_true rfl) rfl rfl r12 ?_
  refine g_if_eq 17 8 rfl rfl (fun c13 => ?_) (fun c13 => ?_)
  · rw [if_pos c13] at h
    refine g_aload_n 18 rfl rfl rfl ?_
    refine g_iconst (v := (-1)) 19 rfl rfl rfl ?_
    obtain ⟨q14, hq14, h⟩ := Option.bind_eq_some_iff.mp h
    refine g_callV (J := sm_I174) 22 rfl (Nat.le_of_ble_eq_true rfl) rfl rfl (Nat.le_of_ble_eq_true rfl) s_280 (Nat.le_of_ble_eq_true rfl) (Nat.le_of_ble_eq_true rfl) rfl rfl (F_174 (d + 1) ((-1)) hq14) ?_
    cases h
    exact g_iret rfl rfl
  · rw [if_neg c13] at h
    refine g_iload_n 9 rfl rfl rfl ?_
    refine g_if_lt 17 12 rfl rfl (fun c15 => ?_) (fun c15 => ?_)
    · rw [if_pos c15] at h
      refine g_aload_n 18 rfl rfl rfl ?_
      refine g_iconst (v := (-1)) 19 rfl rfl rfl ?_
      obtain ⟨q16, hq16, h⟩ := Option.bind_eq_some_iff.mp h
      refine g_callV (J := sm_I174) 22 rfl (Nat.le_of_ble_eq_true rfl) rfl rfl (Nat.le_of_ble_eq_true rfl) s_280 (Nat.le_of_ble_eq_true rfl) (Nat.le_of_ble_eq_true rfl) rfl rfl (F_174 (d + 1) ((-1)) hq16) ?_
      cases h
      exact g_iret rfl rfl
    · rw [if_neg c15] at h
      refine g_iload_n 13 rfl rfl rfl ?_
      refine g_iconst (v := 5) 14 rfl rfl rfl ?_
      refine g_icmp_le 23 17 rfl rfl (fun c17 => ?_) (fun c17 => ?_)
      · rw [if_pos c17] at h
        refine g_aload_n 24 rfl rfl rfl ?_
        refine g_get 27 rfl s_280 (Nat.le_of_ble_eq_true rfl) rfl rfl ?_
        refine g_iload_n 28 rfl rfl rfl ?_
        by_cases i18 : ib x1 8
        case neg => rw [if_neg i18] at h; cases h
        rw [if_pos i18] at h
        refine g_iald 29 rfl s_282 l_282 i18 rfl ?_
        refine g_iconst (v := 1) 30 rfl rfl rfl ?_
        refine g_icmp_eq 62 33 rfl rfl (fun c19 => ?_) (fun c19 => ?_)
        · rw [if_pos c19] at h
          refine g_aload_n 63 rfl rfl rfl ?_
          refine g_bipush (v := (-2)) 65 rfl (by decide) rfl ?_
          obtain ⟨q20, hq20, h⟩ := Option.bind_eq_some_iff.mp h
          refine g_callV (J := sm_I174) 68 rfl (Nat.le_of_ble_eq_true rfl) rfl rfl (Nat.le_of_ble_eq_true rfl) s_280 (Nat.le_of_ble_eq_true rfl) (Nat.le_of_ble_eq_true rfl) rfl rfl (F_174 (d + 1) ((-2)) hq20) ?_
          cases h
          exact g_iret rfl rfl
        · rw [if_neg c19] at h
          refine g_aload_n 34 rfl rfl rfl ?_
          refine g_get 37 rfl s_280 (Nat.le_of_ble_eq_true rfl) rfl rfl ?_
          refine g_iload_n 38 rfl rfl rfl ?_
          by_cases i21 : ib x1 8
          case neg => rw [if_neg i21] at h; cases h
          rw [if_pos i21] at h
          refine g_iald 39 rfl s_282 l_282 i21 rfl ?_
          refine g_iconst (v := 2) 40 rfl rfl rfl ?_
          refine g_icmp_ne 69 43 rfl rfl (fun c22 => ?_) (fun c22 => ?_)
          · rw [if_neg c22] at h
            exact g_sub (Sc rfl (Sc rfl (Sc rfl (Sn _)))) (F_188_69 d x1 x2 h)
          · rw [if_pos c22] at h
            refine g_aload_n 44 rfl rfl rfl ?_
            refine g_aload_n 45 rfl rfl rfl ?_
            refine g_get 48 rfl s_280 (Nat.le_of_ble_eq_true rfl) rfl rfl ?_
            refine g_aload_n 49 rfl rfl rfl ?_
            refine g_get 52 rfl s_280 (Nat.le_of_ble_eq_true rfl) rfl rfl ?_
            refine g_iload_n 53 rfl rfl rfl ?_
            by_cases i23 : ib x1 8
            case neg => rw [if_neg i23] at h; cases h
            rw [if_pos i23] at h
            refine g_iald 54 rfl s_285 l_285 i23 rfl ?_
            by_cases i24 : ib (U.1 285 x1.toNatClampNeg) 12
            case neg => rw [if_neg i24] at h; cases h
            rw [if_pos i24] at h
            refine g_iald 55 rfl s_299 l_299 i24 rfl ?_
            refine g_iload_n 56 rfl rfl rfl ?_
            have r25 := F_187 (d + 1) (U.1 299 (U.1 285 x1.toNatClampNeg).toNatClampNeg) x2 U
            refine g_callV (J := sm_I187) 59 rfl (Nat.le_of_ble_eq_true rfl) rfl rfl (Nat.le_of_ble_eq_true rfl) s_280 (Nat.le_of_ble_eq_true rfl) (Nat.le_of_ble_eq_true rfl) rfl rfl r25 ?_
            refine g_if_ne 69 62 rfl rfl (fun c26 => ?_) (fun c26 => ?_)
            · rw [if_neg c26] at h
              exact g_sub (Sc rfl (Sc rfl (Sc rfl (Sn _)))) (F_188_69 d x1 x2 h)
            · rw [if_pos c26] at h
              refine g_aload_n 63 rfl rfl rfl ?_
              refine g_bipush (v := (-2)) 65 rfl (by decide) rfl ?_
              obtain ⟨q27, hq27, h⟩ := Option.bind_eq_some_iff.mp h
              refine g_callV (J := sm_I174) 68 rfl (Nat.le_of_ble_eq_true rfl) rfl rfl (Nat.le_of_ble_eq_true rfl) s_280 (Nat.le_of_ble_eq_true rfl) (Nat.le_of_ble_eq_true rfl) rfl rfl (F_174 (d + 1) ((-2)) hq27) ?_
              cases h
              exact g_iret rfl rfl
      · rw [if_neg c17] at h
        refine g_aload_n 18 rfl rfl rfl ?_
        refine g_iconst (v := (-1)) 19 rfl rfl rfl ?_
        obtain ⟨q28, hq28, h⟩ := Option.bind_eq_some_iff.mp h
        refine g_callV (J := sm_I174) 22 rfl (Nat.le_of_ble_eq_true rfl) rfl rfl (Nat.le_of_ble_eq_true rfl) s_280 (Nat.le_of_ble_eq_true rfl) (Nat.le_of_ble_eq_true rfl) rfl rfl (F_174 (d + 1) ((-1)) hq28) ?_
        cases h
        exact g_iret rfl rfl

def f_189 (x1 : Int32) (U : sU) : Option Int32 :=
  if (f_177 x1 U) = 0 then
    some ((-1))
  else
    if ib x1 8 then
    if (U.1 282 x1.toNatClampNeg) = 2 then
      some ((-2))
    else
      if ib x1 8 then
      if (U.1 282 x1.toNatClampNeg) = 0 then
        some ((-3))
      else
        some 0
      else none
    else none
set_option maxRecDepth 10000 in
set_option maxHeartbeats 2000000 in
theorem F_189 (d : Nat) (x1 : Int32) {U : sU} {r : Int32} (h : f_189 x1 U = some r) : Rn (d + 1) sm_I189 [.ref 280, .int x1] U (some (.int r)) U := by
  refine Rn_of [(0, .ref 280), (1, .int x1)] (Nat.le_of_ble_eq_true rfl) (Sc rfl (Sc rfl (Sn _))) ?_
  first | rw [f_189] at h | rw [f_189.eq_def] at h
  refine g_aload_n 1 rfl rfl rfl ?_
  refine g_iload_n 2 rfl rfl rfl ?_
  have r1 := F_177 d x1 U
  refine g_callV (J := sm_I177) 5 rfl (Nat.le_of_ble_eq_true rfl) rfl rfl (Nat.le_of_ble_eq_true rfl) s_280 (Nat.le_of_ble_eq_true rfl) (Nat.le_of_ble_eq_true rfl) rfl rfl r1 ?_
  refine g_if_ne 12 8 rfl rfl (fun c2 => ?_) (fun c2 => ?_)
  · rw [if_neg c2] at h
    refine g_aload_n 13 rfl rfl rfl ?_
    refine g_get 16 rfl s_280 (Nat.le_of_ble_eq_true rfl) rfl rfl ?_
    refine g_iload_n 17 rfl rfl rfl ?_
    by_cases i3 : ib x1 8
    case neg => rw [if_neg i3] at h; cases h
    rw [if_pos i3] at h
    refine g_iald 18 rfl s_282 l_282 i3 rfl ?_
    refine g_iconst (v := 2) 19 rfl rfl rfl ?_
    refine g_icmp_ne 27 22 rfl rfl (fun c4 => ?_) (fun c4 => ?_)
    · rw [if_neg c4] at h
      refine g_aload_n 28 rfl rfl rfl ?_
      refine g_get 31 rfl s_280 (Nat.le_of_ble_eq_true rfl) rfl rfl ?_
      refine g_iload_n 32 rfl rfl rfl ?_
      by_cases i5 : ib x1 8
      case neg => rw [if_neg i5] at h; cases h
      rw [if_pos i5] at h
      refine g_iald 33 rfl s_282 l_282 i5 rfl ?_
      refine g_if_ne 41 36 rfl rfl (fun c6 => ?_) (fun c6 => ?_)
      · rw [if_neg c6] at h
        refine g_iconst (v := 0) 42 rfl rfl rfl ?_
        cases h
        exact g_iret rfl rfl
      · rw [if_pos c6] at h
        refine g_bipush (v := (-3)) 38 rfl (by decide) rfl ?_
        refine g_goto 42 rfl ?_
        cases h
        exact g_iret rfl rfl
    · rw [if_pos c4] at h
      refine g_bipush (v := (-2)) 24 rfl (by decide) rfl ?_
      refine g_goto 42 rfl ?_
      cases h
      exact g_iret rfl rfl
  · rw [if_pos c2] at h
    refine g_iconst (v := (-1)) 9 rfl rfl rfl ?_
    refine g_goto 42 rfl ?_
    cases h
    exact g_iret rfl rfl

def f_190  (U : sU) : Option Int32 :=
  if (U.1 280 27) ≤ (U.1 280 26) then
    some ((-1))
  else
    if ib ((U.1 280 25) + (U.1 280 26)) 512 then
    some ((U.2.1 286 ((U.1 280 25) + (U.1 280 26)).toNatClampNeg).toInt32)
    else none
set_option maxRecDepth 10000 in
set_option maxHeartbeats 2000000 in
theorem F_190 (d : Nat)  {U : sU} {r : Int32} (h : f_190  U = some r) : Rn (d + 0) sm_I190 [.ref 280] U (some (.int r)) U := by
  refine Rn_of [(0, .ref 280)] (Nat.le_of_ble_eq_true rfl) (Sc rfl (Sn _)) ?_
  first | rw [f_190] at h | rw [f_190.eq_def] at h
  refine g_aload_n 1 rfl rfl rfl ?_
  refine g_get 4 rfl s_280 (Nat.le_of_ble_eq_true rfl) rfl rfl ?_
  refine g_aload_n 5 rfl rfl rfl ?_
  refine g_get 8 rfl s_280 (Nat.le_of_ble_eq_true rfl) rfl rfl ?_
  refine g_icmp_ge 29 11 rfl rfl (fun c1 => ?_) (fun c1 => ?_)
  · rw [if_pos c1] at h
    refine g_iconst (v := (-1)) 30 rfl rfl rfl ?_
    cases h
    exact g_iret rfl rfl
  · rw [if_neg c1] at h
    refine g_aload_n 12 rfl rfl rfl ?_
    refine g_get 15 rfl s_280 (Nat.le_of_ble_eq_true rfl) rfl rfl ?_
    refine g_aload_n 16 rfl rfl rfl ?_
    refine g_get 19 rfl s_280 (Nat.le_of_ble_eq_true rfl) rfl rfl ?_
    refine g_aload_n 20 rfl rfl rfl ?_
    refine g_get 23 rfl s_280 (Nat.le_of_ble_eq_true rfl) rfl rfl ?_
    refine g_iadd 24 rfl rfl ?_
    by_cases i2 : ib ((U.1 280 25) + (U.1 280 26)) 512
    case neg => rw [if_neg i2] at h; cases h
    rw [if_pos i2] at h
    refine g_lald 25 rfl s_286 l_286 i2 rfl ?_
    refine g_l2i 26 rfl rfl ?_
    refine g_goto 30 rfl ?_
    cases h
    exact g_iret rfl rfl

def f_191 (x1 : Int32) (U : sU) : Option (Int32 × sU) :=
  if (U.1 280 27) ≤ (U.1 280 26) then
    some (0, sI U 280 30 (U.1 280 26))
  else
    Option.bind (f_190 U) fun q2 =>
    if q2 = x1 then
      some (1, sI U 280 26 ((U.1 280 26) + 1))
    else
      some (0, sI U 280 30 (U.1 280 26))
set_option maxRecDepth 10000 in
set_option maxHeartbeats 2000000 in
theorem F_191 (d : Nat) (x1 : Int32) {U : sU} {r : Int32} {U' : sU} (h : f_191 x1 U = some (r, U')) : Rn (d + 1) sm_I191 [.ref 280, .int x1] U (some (.int r)) U' := by
  refine Rn_of [(0, .ref 280), (1, .int x1)] (Nat.le_of_ble_eq_true rfl) (Sc rfl (Sc rfl (Sn _))) ?_
  first | rw [f_191] at h | rw [f_191.eq_def] at h
  refine g_aload_n 1 rfl rfl rfl ?_
  refine g_get 4 rfl s_280 (Nat.le_of_ble_eq_true rfl) rfl rfl ?_
  refine g_aload_n 5 rfl rfl rfl ?_
  refine g_get 8 rfl s_280 (Nat.le_of_ble_eq_true rfl) rfl rfl ?_
  refine g_icmp_ge 19 11 rfl rfl (fun c1 => ?_) (fun c1 => ?_)
  · rw [if_pos c1] at h
    refine g_aload_n 20 rfl rfl rfl ?_
    refine g_aload_n 21 rfl rfl rfl ?_
    refine g_get 24 rfl s_280 (Nat.le_of_ble_eq_true rfl) rfl rfl ?_
    refine g_putI 27 rfl s_280 (Nat.le_of_ble_eq_true rfl) (Nat.le_of_ble_eq_true rfl) rfl fs_10_30 rfl ?_
    refine g_iconst (v := 0) 28 rfl rfl rfl ?_
    cases h
    exact g_zret rfl rfl (Or.inl rfl)
  · rw [if_neg c1] at h
    refine g_aload_n 12 rfl rfl rfl ?_
    obtain ⟨q2, hq2, h⟩ := Option.bind_eq_some_iff.mp h
    refine g_callV (J := sm_I190) 15 rfl (Nat.le_of_ble_eq_true rfl) rfl rfl (Nat.le_of_ble_eq_true rfl) s_280 (Nat.le_of_ble_eq_true rfl) (Nat.le_of_ble_eq_true rfl) rfl rfl (F_190 d  hq2) ?_
    refine g_iload_n 16 rfl rfl rfl ?_
    refine g_icmp_eq 29 19 rfl rfl (fun c3 => ?_) (fun c3 => ?_)
    · rw [if_pos c3] at h
      refine g_aload_n 30 rfl rfl rfl ?_
      refine g_dup 31 rfl rfl rfl ?_
      refine g_get 34 rfl s_280 (Nat.le_of_ble_eq_true rfl) rfl rfl ?_
      refine g_iconst (v := 1) 35 rfl rfl rfl ?_
      refine g_iadd 36 rfl rfl ?_
      refine g_putI 39 rfl s_280 (Nat.le_of_ble_eq_true rfl) (Nat.le_of_ble_eq_true rfl) rfl fs_10_26 rfl ?_
      refine g_iconst (v := 1) 40 rfl rfl rfl ?_
      cases h
      exact g_zret rfl rfl (Or.inr rfl)
    · rw [if_neg c3] at h
      refine g_aload_n 20 rfl rfl rfl ?_
      refine g_aload_n 21 rfl rfl rfl ?_
      refine g_get 24 rfl s_280 (Nat.le_of_ble_eq_true rfl) rfl rfl ?_
      refine g_putI 27 rfl s_280 (Nat.le_of_ble_eq_true rfl) (Nat.le_of_ble_eq_true rfl) rfl fs_10_30 rfl ?_
      refine g_iconst (v := 0) 28 rfl rfl rfl ?_
      cases h
      exact g_zret rfl rfl (Or.inl rfl)

def f_192  (U : sU) : Option Int32 :=
  if (U.1 280 27) ≤ (U.1 280 26) then
    some 0
  else
    Option.bind (f_190 U) fun q2 =>
    if q2 < 48 then
      some 0
    else
      Option.bind (f_190 U) fun q4 =>
      if 57 < q4 then
        some 0
      else
        some 1
set_option maxRecDepth 10000 in
set_option maxHeartbeats 2000000 in
theorem F_192 (d : Nat)  {U : sU} {r : Int32} (h : f_192  U = some r) : Rn (d + 1) sm_I192 [.ref 280] U (some (.int r)) U := by
  refine Rn_of [(0, .ref 280)] (Nat.le_of_ble_eq_true rfl) (Sc rfl (Sn _)) ?_
  first | rw [f_192] at h | rw [f_192.eq_def] at h
  refine g_aload_n 1 rfl rfl rfl ?_
  refine g_get 4 rfl s_280 (Nat.le_of_ble_eq_true rfl) rfl rfl ?_
  refine g_aload_n 5 rfl rfl rfl ?_
  refine g_get 8 rfl s_280 (Nat.le_of_ble_eq_true rfl) rfl rfl ?_
  refine g_icmp_ge 33 11 rfl rfl (fun c1 => ?_) (fun c1 => ?_)
  · rw [if_pos c1] at h
    refine g_iconst (v := 0) 34 rfl rfl rfl ?_
    cases h
    exact g_zret rfl rfl (Or.inl rfl)
  · rw [if_neg c1] at h
    refine g_aload_n 12 rfl rfl rfl ?_
    obtain ⟨q2, hq2, h⟩ := Option.bind_eq_some_iff.mp h
    refine g_callV (J := sm_I190) 15 rfl (Nat.le_of_ble_eq_true rfl) rfl rfl (Nat.le_of_ble_eq_true rfl) s_280 (Nat.le_of_ble_eq_true rfl) (Nat.le_of_ble_eq_true rfl) rfl rfl (F_190 d  hq2) ?_
    refine g_bipush (v := 48) 17 rfl (by decide) rfl ?_
    refine g_icmp_lt 33 20 rfl rfl (fun c3 => ?_) (fun c3 => ?_)
    · rw [if_pos c3] at h
      refine g_iconst (v := 0) 34 rfl rfl rfl ?_
      cases h
      exact g_zret rfl rfl (Or.inl rfl)
    · rw [if_neg c3] at h
      refine g_aload_n 21 rfl rfl rfl ?_
      obtain ⟨q4, hq4, h⟩ := Option.bind_eq_some_iff.mp h
      refine g_callV (J := sm_I190) 24 rfl (Nat.le_of_ble_eq_true rfl) rfl rfl (Nat.le_of_ble_eq_true rfl) s_280 (Nat.le_of_ble_eq_true rfl) (Nat.le_of_ble_eq_true rfl) rfl rfl (F_190 d  hq4) ?_
      refine g_bipush (v := 57) 26 rfl (by decide) rfl ?_
      refine g_icmp_gt 33 29 rfl rfl (fun c5 => ?_) (fun c5 => ?_)
      · rw [if_pos c5] at h
        refine g_iconst (v := 0) 34 rfl rfl rfl ?_
        cases h
        exact g_zret rfl rfl (Or.inl rfl)
      · rw [if_neg c5] at h
        refine g_iconst (v := 1) 30 rfl rfl rfl ?_
        refine g_goto 34 rfl ?_
        cases h
        exact g_zret rfl rfl (Or.inr rfl)

def f_193_32 : Nat → Int32 → sU → Option (Int32 × sU)
  | 0, _, _ => none
  | n + 1, v1, U =>
    if 3 ≤ v1 then
      some (1, U)
    else
      Option.bind (f_192 U) fun q2 =>
      if q2 = 0 then
        some (1, U)
      else
        Option.bind (f_190 U) fun q5 =>
        f_193_32 n (v1 + 1) (sI (sI U 280 28 (((10 * (U.1 280 28)) + q5) - 48)) 280 26 (((sI U 280 28 (((10 * (U.1 280 28)) + q5) - 48)).1 280 26) + 1))
set_option maxRecDepth 10000 in
set_option maxHeartbeats 2000000 in
theorem F_193_32 (d : Nat)   : ∀ (n : Nat) (v1 : Int32) (U : sU) (r : Int32) (U' : sU), f_193_32 n v1 U = some (r, U') → G (d + 2) sm_I193 32 [(0, .ref 280), (1, .int v1)] [] U (some (.int r)) U' := by
  intro n
  induction n with
  | zero => intro v1 U r U' h; cases h
  | succ n ih =>
    intro v1 U r U' h
    first | rw [f_193_32] at h | (rw [f_193_32.eq_def] at h; dsimp only at h)
    refine g_iload_n 33 rfl rfl rfl ?_
    refine g_iconst (v := 3) 34 rfl rfl rfl ?_
    refine g_icmp_ge 79 37 rfl rfl (fun c1 => ?_) (fun c1 => ?_)
    · rw [if_pos c1] at h
      refine g_iconst (v := 1) 80 rfl rfl rfl ?_
      cases h
      exact g_zret rfl rfl (Or.inr rfl)
    · rw [if_neg c1] at h
      refine g_aload_n 38 rfl rfl rfl ?_
      obtain ⟨q2, hq2, h⟩ := Option.bind_eq_some_iff.mp h
      have r3 := (F_192 d  hq2)
      refine g_callV (J := sm_I192) 41 rfl (Nat.le_of_ble_eq_true rfl) rfl rfl (Nat.le_of_ble_eq_true rfl) s_280 (Nat.le_of_ble_eq_true rfl) (Nat.le_of_ble_eq_true rfl) rfl rfl r3 ?_
      refine g_if_eq 79 44 rfl rfl (fun c4 => ?_) (fun c4 => ?_)
      · rw [if_pos c4] at h
        refine g_iconst (v := 1) 80 rfl rfl rfl ?_
        cases h
        exact g_zret rfl rfl (Or.inr rfl)
      · rw [if_neg c4] at h
        refine g_aload_n 45 rfl rfl rfl ?_
        refine g_bipush (v := 10) 47 rfl (by decide) rfl ?_
        refine g_aload_n 48 rfl rfl rfl ?_
        refine g_get 51 rfl s_280 (Nat.le_of_ble_eq_true rfl) rfl rfl ?_
        refine g_imul 52 rfl rfl ?_
        refine g_aload_n 53 rfl rfl rfl ?_
        obtain ⟨q5, hq5, h⟩ := Option.bind_eq_some_iff.mp h
        refine g_callV (J := sm_I190) 56 rfl (Nat.le_of_ble_eq_true rfl) rfl rfl (Nat.le_of_ble_eq_true rfl) s_280 (Nat.le_of_ble_eq_true rfl) (Nat.le_of_ble_eq_true rfl) rfl rfl (F_190 (d + 1)  hq5) ?_
        refine g_iadd 57 rfl rfl ?_
        refine g_bipush (v := 48) 59 rfl (by decide) rfl ?_
        refine g_isub 60 rfl rfl ?_
        refine g_putI 63 rfl s_280 (Nat.le_of_ble_eq_true rfl) (Nat.le_of_ble_eq_true rfl) rfl fs_10_28 rfl ?_
        refine g_aload_n 64 rfl rfl rfl ?_
        refine g_dup 65 rfl rfl rfl ?_
        refine g_get 68 rfl s_280 (Nat.le_of_ble_eq_true rfl) rfl rfl ?_
        refine g_iconst (v := 1) 69 rfl rfl rfl ?_
        refine g_iadd 70 rfl rfl ?_
        refine g_putI 73 rfl s_280 (Nat.le_of_ble_eq_true rfl) (Nat.le_of_ble_eq_true rfl) rfl fs_10_26 rfl ?_
        refine g_iinc (v := v1 + 1) 76 [(1, .int (v1 + 1)), (0, .ref 280)] rfl rfl (Nat.le_of_ble_eq_true rfl) rfl rfl rfl ?_
        refine g_goto 32 rfl ?_
        exact g_sub (Sc rfl (Sc rfl (Sn _))) (ih (v1 + 1) _ _ _ h)
def f_193  (U : sU) : Option (Int32 × sU) :=
  Option.bind (f_192 (sI (sI U 280 29 (U.1 280 26)) 280 28 0)) fun q6 =>
  if q6 = 0 then
    some (0, sI (sI (sI U 280 29 (U.1 280 26)) 280 28 0) 280 30 ((sI (sI U 280 29 (U.1 280 26)) 280 28 0).1 280 26))
  else
    f_193_32 FU 0 (sI (sI U 280 29 (U.1 280 26)) 280 28 0)
set_option maxRecDepth 10000 in
set_option maxHeartbeats 2000000 in
theorem F_193 (d : Nat)  {U : sU} {r : Int32} {U' : sU} (h : f_193  U = some (r, U')) : Rn (d + 2) sm_I193 [.ref 280] U (some (.int r)) U' := by
  refine Rn_of [(0, .ref 280)] (Nat.le_of_ble_eq_true rfl) (Sc rfl (Sn _)) ?_
  first | rw [f_193] at h | rw [f_193.eq_def] at h
  refine g_aload_n 1 rfl rfl rfl ?_
  refine g_aload_n 2 rfl rfl rfl ?_
  refine g_get 5 rfl s_280 (Nat.le_of_ble_eq_true rfl) rfl rfl ?_
  refine g_putI 8 rfl s_280 (Nat.le_of_ble_eq_true rfl) (Nat.le_of_ble_eq_true rfl) rfl fs_10_29 rfl ?_
  refine g_aload_n 9 rfl rfl rfl ?_
  refine g_iconst (v := 0) 10 rfl rfl rfl ?_
  refine g_putI 13 rfl s_280 (Nat.le_of_ble_eq_true rfl) (Nat.le_of_ble_eq_true rfl) rfl fs_10_28 rfl ?_
  refine g_aload_n 14 rfl rfl rfl ?_
  obtain ⟨q6, hq6, h⟩ := Option.bind_eq_some_iff.mp h
  have r7 := (F_192 d  hq6)
  refine g_callV (J := sm_I192) 17 rfl (Nat.le_of_ble_eq_true rfl) rfl rfl (Nat.le_of_ble_eq_true rfl) s_280 (Nat.le_of_ble_eq_true rfl) (Nat.le_of_ble_eq_true rfl) rfl rfl r7 ?_
  refine g_if_ne 30 20 rfl rfl (fun c8 => ?_) (fun c8 => ?_)
  · rw [if_neg c8] at h
    refine g_iconst (v := 0) 31 rfl rfl rfl ?_
    refine g_istore_n 32 [(1, .int 0), (0, .ref 280)] rfl (Nat.le_of_ble_eq_true rfl) rfl rfl ?_
    exact g_sub (Sc rfl (Sc rfl (Sn _))) (F_193_32 d _ 0 _ _ _ h)
  · rw [if_pos c8] at h
    refine g_aload_n 21 rfl rfl rfl ?_
    refine g_aload_n 22 rfl rfl rfl ?_
    refine g_get 25 rfl s_280 (Nat.le_of_ble_eq_true rfl) rfl rfl ?_
    refine g_putI 28 rfl s_280 (Nat.le_of_ble_eq_true rfl) (Nat.le_of_ble_eq_true rfl) rfl fs_10_30 rfl ?_
    refine g_iconst (v := 0) 29 rfl rfl rfl ?_
    cases h
    exact g_zret rfl rfl (Or.inl rfl)

def f_194 (x1 : Int32) (x2 : Int32) (U : sU) : Option (Int32 × sU) :=
  Option.bind (f_193 U) fun q1 =>
  if q1.1 = 0 then
    some (0, q1.2)
  else
    if ((q1.2).1 280 28) < x1 then
      some (0, sI q1.2 280 30 ((q1.2).1 280 29))
    else
      if ((q1.2).1 280 28) ≤ x2 then
        some (1, q1.2)
      else
        some (0, sI q1.2 280 30 ((q1.2).1 280 29))
set_option maxRecDepth 10000 in
set_option maxHeartbeats 2000000 in
theorem F_194 (d : Nat) (x1 : Int32) (x2 : Int32) {U : sU} {r : Int32} {U' : sU} (h : f_194 x1 x2 U = some (r, U')) : Rn (d + 3) sm_I194 [.ref 280, .int x1, .int x2] U (some (.int r)) U' := by
  refine Rn_of [(0, .ref 280), (1, .int x1), (2, .int x2)] (Nat.le_of_ble_eq_true rfl) (Sc rfl (Sc rfl (Sc rfl (Sn _)))) ?_
  first | rw [f_194] at h | rw [f_194.eq_def] at h
  refine g_aload_n 1 rfl rfl rfl ?_
  obtain ⟨q1, hq1, h⟩ := Option.bind_eq_some_iff.mp h
  have r2 := (F_193 d  hq1)
  refine g_callV (J := sm_I193) 4 rfl (Nat.le_of_ble_eq_true rfl) rfl rfl (Nat.le_of_ble_eq_true rfl) s_280 (Nat.le_of_ble_eq_true rfl) (Nat.le_of_ble_eq_true rfl) rfl rfl r2 ?_
  refine g_if_ne 9 7 rfl rfl (fun c3 => ?_) (fun c3 => ?_)
  · rw [if_neg c3] at h
    refine g_aload_n 10 rfl rfl rfl ?_
    refine g_get 13 rfl s_280 (Nat.le_of_ble_eq_true rfl) rfl rfl ?_
    refine g_iload_n 14 rfl rfl rfl ?_
    refine g_icmp_lt 25 17 rfl rfl (fun c4 => ?_) (fun c4 => ?_)
    · rw [if_pos c4] at h
      refine g_aload_n 26 rfl rfl rfl ?_
      refine g_aload_n 27 rfl rfl rfl ?_
      refine g_get 30 rfl s_280 (Nat.le_of_ble_eq_true rfl) rfl rfl ?_
      refine g_putI 33 rfl s_280 (Nat.le_of_ble_eq_true rfl) (Nat.le_of_ble_eq_true rfl) rfl fs_10_30 rfl ?_
      refine g_iconst (v := 0) 34 rfl rfl rfl ?_
      cases h
      exact g_zret rfl rfl (Or.inl rfl)
    · rw [if_neg c4] at h
      refine g_aload_n 18 rfl rfl rfl ?_
      refine g_get 21 rfl s_280 (Nat.le_of_ble_eq_true rfl) rfl rfl ?_
      refine g_iload_n 22 rfl rfl rfl ?_
      refine g_icmp_le 35 25 rfl rfl (fun c5 => ?_) (fun c5 => ?_)
      · rw [if_pos c5] at h
        refine g_iconst (v := 1) 36 rfl rfl rfl ?_
        cases h
        exact g_zret rfl rfl (Or.inr rfl)
      · rw [if_neg c5] at h
        refine g_aload_n 26 rfl rfl rfl ?_
        refine g_aload_n 27 rfl rfl rfl ?_
        refine g_get 30 rfl s_280 (Nat.le_of_ble_eq_true rfl) rfl rfl ?_
        refine g_putI 33 rfl s_280 (Nat.le_of_ble_eq_true rfl) (Nat.le_of_ble_eq_true rfl) rfl fs_10_30 rfl ?_
        refine g_iconst (v := 0) 34 rfl rfl rfl ?_
        cases h
        exact g_zret rfl rfl (Or.inl rfl)
  · rw [if_pos c3] at h
    refine g_iconst (v := 0) 8 rfl rfl rfl ?_
    cases h
    exact g_zret rfl rfl (Or.inl rfl)

def f_195_40 (v1 : Int32) (U : sU) : Option (Int32 × sU) :=
  Option.bind (f_194 0 500 U) fun q1 =>
  if q1.1 = 0 then
    some (0, q1.2)
  else
    if v1 = 0 then
      some (1, q1.2)
    else
      some (1, sI q1.2 280 28 (-((q1.2).1 280 28)))
set_option maxRecDepth 10000 in
set_option maxHeartbeats 2000000 in
theorem F_195_40 (d : Nat)   (v1 : Int32) {U : sU} {r : Int32} {U' : sU} (h : f_195_40 v1 U = some (r, U')) : G (d + 4) sm_I195 40 [(0, .ref 280), (1, .int v1)] [] U (some (.int r)) U' := by
  first | rw [f_195_40] at h | rw [f_195_40.eq_def] at h
  refine g_aload_n 41 rfl rfl rfl ?_
  refine g_iconst (v := 0) 42 rfl rfl rfl ?_
  refine g_sipush (v := 500) 45 rfl (by decide) rfl ?_
  obtain ⟨q1, hq1, h⟩ := Option.bind_eq_some_iff.mp h
  have r2 := (F_194 d 0 500 hq1)
  refine g_callV (J := sm_I194) 48 rfl (Nat.le_of_ble_eq_true rfl) rfl rfl (Nat.le_of_ble_eq_true rfl) s_280 (Nat.le_of_ble_eq_true rfl) (Nat.le_of_ble_eq_true rfl) rfl rfl r2 ?_
  refine g_if_ne 53 51 rfl rfl (fun c3 => ?_) (fun c3 => ?_)
  · rw [if_neg c3] at h
    refine g_iload_n 54 rfl rfl rfl ?_
    refine g_if_eq 66 57 rfl rfl (fun c4 => ?_) (fun c4 => ?_)
    · rw [if_pos c4] at h
      refine g_iconst (v := 1) 67 rfl rfl rfl ?_
      cases h
      exact g_zret rfl rfl (Or.inr rfl)
    · rw [if_neg c4] at h
      refine g_aload_n 58 rfl rfl rfl ?_
      refine g_aload_n 59 rfl rfl rfl ?_
      refine g_get 62 rfl s_280 (Nat.le_of_ble_eq_true rfl) rfl rfl ?_
      refine g_ineg 63 rfl rfl ?_
      refine g_putI 66 rfl s_280 (Nat.le_of_ble_eq_true rfl) (Nat.le_of_ble_eq_true rfl) rfl fs_10_28 rfl ?_
      refine g_iconst (v := 1) 67 rfl rfl rfl ?_
      cases h
      exact g_zret rfl rfl (Or.inr rfl)
  · rw [if_pos c3] at h
    refine g_iconst (v := 0) 52 rfl rfl rfl ?_
    cases h
    exact g_zret rfl rfl (Or.inl rfl)
def f_195_25 (z0 : Int32) (U : sU) : Option (Int32 × sU) :=
  if z0 = 0 then
    f_195_40 z0 U
  else
    f_195_40 z0 (sI U 280 26 ((U.1 280 26) + 1))
set_option maxRecDepth 10000 in
set_option maxHeartbeats 2000000 in
theorem F_195_25 (d : Nat)   (z0 : Int32) {U : sU} {r : Int32} {U' : sU} (h : f_195_25 z0 U = some (r, U')) : G (d + 4) sm_I195 25 [(0, .ref 280)] [.int z0] U (some (.int r)) U' := by
  first | rw [f_195_25] at h | rw [f_195_25.eq_def] at h
  refine g_istore_n 26 [(1, .int z0), (0, .ref 280)] rfl (Nat.le_of_ble_eq_true rfl) rfl rfl ?_
  refine g_iload_n 27 rfl rfl rfl ?_
  refine g_if_eq 40 30 rfl rfl (fun c5 => ?_) (fun c5 => ?_)
  · rw [if_pos c5] at h
    exact g_sub (Sc rfl (Sc rfl (Sn _))) (F_195_40 d z0 h)
  · rw [if_neg c5] at h
    refine g_aload_n 31 rfl rfl rfl ?_
    refine g_dup 32 rfl rfl rfl ?_
    refine g_get 35 rfl s_280 (Nat.le_of_ble_eq_true rfl) rfl rfl ?_
    refine g_iconst (v := 1) 36 rfl rfl rfl ?_
    refine g_iadd 37 rfl rfl ?_
    refine g_putI 40 rfl s_280 (Nat.le_of_ble_eq_true rfl) (Nat.le_of_ble_eq_true rfl) rfl fs_10_26 rfl ?_
    exact g_sub (Sc rfl (Sc rfl (Sn _))) (F_195_40 d z0 h)
def f_195_24  (U : sU) : Option (Int32 × sU) :=
  f_195_25 0 U
set_option maxRecDepth 10000 in
set_option maxHeartbeats 2000000 in
theorem F_195_24 (d : Nat)    {U : sU} {r : Int32} {U' : sU} (h : f_195_24  U = some (r, U')) : G (d + 4) sm_I195 24 [(0, .ref 280)] [] U (some (.int r)) U' := by
  first | rw [f_195_24] at h | rw [f_195_24.eq_def] at h
  refine g_iconst (v := 0) 25 rfl rfl rfl ?_
  exact g_sub (Sc rfl (Sn _)) (F_195_25 d 0 h)
def f_195  (U : sU) : Option (Int32 × sU) :=
  if (U.1 280 27) ≤ (U.1 280 26) then
    f_195_24  U
  else
    Option.bind (f_190 U) fun q7 =>
    if q7 = 45 then
      f_195_25 1 U
    else
      f_195_24  U
set_option maxRecDepth 10000 in
set_option maxHeartbeats 2000000 in
theorem F_195 (d : Nat)  {U : sU} {r : Int32} {U' : sU} (h : f_195  U = some (r, U')) : Rn (d + 4) sm_I195 [.ref 280] U (some (.int r)) U' := by
  refine Rn_of [(0, .ref 280)] (Nat.le_of_ble_eq_true rfl) (Sc rfl (Sn _)) ?_
  first | rw [f_195] at h | rw [f_195.eq_def] at h
  refine g_aload_n 1 rfl rfl rfl ?_
  refine g_get 4 rfl s_280 (Nat.le_of_ble_eq_true rfl) rfl rfl ?_
  refine g_aload_n 5 rfl rfl rfl ?_
  refine g_get 8 rfl s_280 (Nat.le_of_ble_eq_true rfl) rfl rfl ?_
  refine g_icmp_ge 24 11 rfl rfl (fun c6 => ?_) (fun c6 => ?_)
  · rw [if_pos c6] at h
    exact g_sub (Sc rfl (Sn _)) (F_195_24 d  h)
  · rw [if_neg c6] at h
    refine g_aload_n 12 rfl rfl rfl ?_
    obtain ⟨q7, hq7, h⟩ := Option.bind_eq_some_iff.mp h
    refine g_callV (J := sm_I190) 15 rfl (Nat.le_of_ble_eq_true rfl) rfl rfl (Nat.le_of_ble_eq_true rfl) s_280 (Nat.le_of_ble_eq_true rfl) (Nat.le_of_ble_eq_true rfl) rfl rfl (F_190 (d + 3)  hq7) ?_
    refine g_bipush (v := 45) 17 rfl (by decide) rfl ?_
    refine g_icmp_ne 24 20 rfl rfl (fun c8 => ?_) (fun c8 => ?_)
    · rw [if_neg c8] at h
      exact g_sub (Sc rfl (Sn _)) (F_195_24 d  h)
    · rw [if_pos c8] at h
      refine g_iconst (v := 1) 21 rfl rfl rfl ?_
      refine g_goto 25 rfl ?_
      exact g_sub (Sc rfl (Sn _)) (F_195_25 d 1 h)

def f_196_44  (U : sU) : Option (Int32 × sU) :=
  if ib (U.1 280 31) 12 then
  if ib ((sI U 303 (U.1 280 31).toNatClampNeg (U.1 280 28)).1 280 31) 12 then
  if ((sI (sI U 303 (U.1 280 31).toNatClampNeg (U.1 280 28)) 304 ((sI U 303 (U.1 280 31).toNatClampNeg (U.1 280 28)).1 280 31).toNatClampNeg 1).1 280 27) ≤ ((sI (sI U 303 (U.1 280 31).toNatClampNeg (U.1 280 28)) 304 ((sI U 303 (U.1 280 31).toNatClampNeg (U.1 280 28)).1 280 31).toNatClampNeg 1).1 280 26) then
    some (1, sI (sI (sI U 303 (U.1 280 31).toNatClampNeg (U.1 280 28)) 304 ((sI U 303 (U.1 280 31).toNatClampNeg (U.1 280 28)).1 280 31).toNatClampNeg 1) 280 31 (((sI (sI U 303 (U.1 280 31).toNatClampNeg (U.1 280 28)) 304 ((sI U 303 (U.1 280 31).toNatClampNeg (U.1 280 28)).1 280 31).toNatClampNeg 1).1 280 31) + 1))
  else
    Option.bind (f_190 (sI (sI U 303 (U.1 280 31).toNatClampNeg (U.1 280 28)) 304 ((sI U 303 (U.1 280 31).toNatClampNeg (U.1 280 28)).1 280 31).toNatClampNeg 1)) fun q4 =>
    if q4 = 42 then
      Option.bind (f_194 1 99 (sI (sI (sI U 303 (U.1 280 31).toNatClampNeg (U.1 280 28)) 304 ((sI U 303 (U.1 280 31).toNatClampNeg (U.1 280 28)).1 280 31).toNatClampNeg 1) 280 26 (((sI (sI U 303 (U.1 280 31).toNatClampNeg (U.1 280 28)) 304 ((sI U 303 (U.1 280 31).toNatClampNeg (U.1 280 28)).1 280 31).toNatClampNeg 1).1 280 26) + 1))) fun q6 =>
      if q6.1 = 0 then
        some (0, q6.2)
      else
        if ib ((q6.2).1 280 31) 12 then
        some (1, sI (sI q6.2 304 ((q6.2).1 280 31).toNatClampNeg ((q6.2).1 280 28)) 280 31 (((sI q6.2 304 ((q6.2).1 280 31).toNatClampNeg ((q6.2).1 280 28)).1 280 31) + 1))
        else none
    else
      some (1, sI (sI (sI U 303 (U.1 280 31).toNatClampNeg (U.1 280 28)) 304 ((sI U 303 (U.1 280 31).toNatClampNeg (U.1 280 28)).1 280 31).toNatClampNeg 1) 280 31 (((sI (sI U 303 (U.1 280 31).toNatClampNeg (U.1 280 28)) 304 ((sI U 303 (U.1 280 31).toNatClampNeg (U.1 280 28)).1 280 31).toNatClampNeg 1).1 280 31) + 1))
  else none
  else none
set_option maxRecDepth 10000 in
set_option maxHeartbeats 2000000 in
theorem F_196_44 (d : Nat)    {U : sU} {r : Int32} {U' : sU} (h : f_196_44  U = some (r, U')) : G (d + 4) sm_I196 44 [(0, .ref 280)] [] U (some (.int r)) U' := by
  first | rw [f_196_44] at h | rw [f_196_44.eq_def] at h
  refine g_aload_n 45 rfl rfl rfl ?_
  refine g_get 48 rfl s_280 (Nat.le_of_ble_eq_true rfl) rfl rfl ?_
  refine g_aload_n 49 rfl rfl rfl ?_
  refine g_get 52 rfl s_280 (Nat.le_of_ble_eq_true rfl) rfl rfl ?_
  refine g_aload_n 53 rfl rfl rfl ?_
  refine g_get 56 rfl s_280 (Nat.le_of_ble_eq_true rfl) rfl rfl ?_
  by_cases i1 : ib (U.1 280 31) 12
  case neg => rw [if_neg i1] at h; cases h
  rw [if_pos i1] at h
  refine g_iast 57 rfl s_303 l_303 i1 rfl ?_
  refine g_aload_n 58 rfl rfl rfl ?_
  refine g_get 61 rfl s_280 (Nat.le_of_ble_eq_true rfl) rfl rfl ?_
  refine g_aload_n 62 rfl rfl rfl ?_
  refine g_get 65 rfl s_280 (Nat.le_of_ble_eq_true rfl) rfl rfl ?_
  refine g_iconst (v := 1) 66 rfl rfl rfl ?_
  by_cases i2 : ib ((sI U 303 (U.1 280 31).toNatClampNeg (U.1 280 28)).1 280 31) 12
  case neg => rw [if_neg i2] at h; cases h
  rw [if_pos i2] at h
  refine g_iast 67 rfl s_304 l_304 i2 rfl ?_
  refine g_aload_n 68 rfl rfl rfl ?_
  refine g_get 71 rfl s_280 (Nat.le_of_ble_eq_true rfl) rfl rfl ?_
  refine g_aload_n 72 rfl rfl rfl ?_
  refine g_get 75 rfl s_280 (Nat.le_of_ble_eq_true rfl) rfl rfl ?_
  refine g_icmp_ge 122 78 rfl rfl (fun c3 => ?_) (fun c3 => ?_)
  · rw [if_pos c3] at h
    refine g_aload_n 123 rfl rfl rfl ?_
    refine g_dup 124 rfl rfl rfl ?_
    refine g_get 127 rfl s_280 (Nat.le_of_ble_eq_true rfl) rfl rfl ?_
    refine g_iconst (v := 1) 128 rfl rfl rfl ?_
    refine g_iadd 129 rfl rfl ?_
    refine g_putI 132 rfl s_280 (Nat.le_of_ble_eq_true rfl) (Nat.le_of_ble_eq_true rfl) rfl fs_10_31 rfl ?_
    refine g_iconst (v := 1) 133 rfl rfl rfl ?_
    cases h
    exact g_zret rfl rfl (Or.inr rfl)
  · rw [if_neg c3] at h
    refine g_aload_n 79 rfl rfl rfl ?_
    obtain ⟨q4, hq4, h⟩ := Option.bind_eq_some_iff.mp h
    refine g_callV (J := sm_I190) 82 rfl (Nat.le_of_ble_eq_true rfl) rfl rfl (Nat.le_of_ble_eq_true rfl) s_280 (Nat.le_of_ble_eq_true rfl) (Nat.le_of_ble_eq_true rfl) rfl rfl (F_190 (d + 3)  hq4) ?_
    refine g_bipush (v := 42) 84 rfl (by decide) rfl ?_
    refine g_icmp_ne 122 87 rfl rfl (fun c5 => ?_) (fun c5 => ?_)
    · rw [if_neg c5] at h
      refine g_aload_n 123 rfl rfl rfl ?_
      refine g_dup 124 rfl rfl rfl ?_
      refine g_get 127 rfl s_280 (Nat.le_of_ble_eq_true rfl) rfl rfl ?_
      refine g_iconst (v := 1) 128 rfl rfl rfl ?_
      refine g_iadd 129 rfl rfl ?_
      refine g_putI 132 rfl s_280 (Nat.le_of_ble_eq_true rfl) (Nat.le_of_ble_eq_true rfl) rfl fs_10_31 rfl ?_
      refine g_iconst (v := 1) 133 rfl rfl rfl ?_
      cases h
      exact g_zret rfl rfl (Or.inr rfl)
    · rw [if_pos c5] at h
      refine g_aload_n 88 rfl rfl rfl ?_
      refine g_dup 89 rfl rfl rfl ?_
      refine g_get 92 rfl s_280 (Nat.le_of_ble_eq_true rfl) rfl rfl ?_
      refine g_iconst (v := 1) 93 rfl rfl rfl ?_
      refine g_iadd 94 rfl rfl ?_
      refine g_putI 97 rfl s_280 (Nat.le_of_ble_eq_true rfl) (Nat.le_of_ble_eq_true rfl) rfl fs_10_26 rfl ?_
      refine g_aload_n 98 rfl rfl rfl ?_
      refine g_iconst (v := 1) 99 rfl rfl rfl ?_
      refine g_bipush (v := 99) 101 rfl (by decide) rfl ?_
      obtain ⟨q6, hq6, h⟩ := Option.bind_eq_some_iff.mp h
      have r7 := (F_194 d 1 99 hq6)
      refine g_callV (J := sm_I194) 104 rfl (Nat.le_of_ble_eq_true rfl) rfl rfl (Nat.le_of_ble_eq_true rfl) s_280 (Nat.le_of_ble_eq_true rfl) (Nat.le_of_ble_eq_true rfl) rfl rfl r7 ?_
      refine g_if_ne 109 107 rfl rfl (fun c8 => ?_) (fun c8 => ?_)
      · rw [if_neg c8] at h
        refine g_aload_n 110 rfl rfl rfl ?_
        refine g_get 113 rfl s_280 (Nat.le_of_ble_eq_true rfl) rfl rfl ?_
        refine g_aload_n 114 rfl rfl rfl ?_
        refine g_get 117 rfl s_280 (Nat.le_of_ble_eq_true rfl) rfl rfl ?_
        refine g_aload_n 118 rfl rfl rfl ?_
        refine g_get 121 rfl s_280 (Nat.le_of_ble_eq_true rfl) rfl rfl ?_
        by_cases i9 : ib ((q6.2).1 280 31) 12
        case neg => rw [if_neg i9] at h; cases h
        rw [if_pos i9] at h
        refine g_iast 122 rfl s_304 l_304 i9 rfl ?_
        refine g_aload_n 123 rfl rfl rfl ?_
        refine g_dup 124 rfl rfl rfl ?_
        refine g_get 127 rfl s_280 (Nat.le_of_ble_eq_true rfl) rfl rfl ?_
        refine g_iconst (v := 1) 128 rfl rfl rfl ?_
        refine g_iadd 129 rfl rfl ?_
        refine g_putI 132 rfl s_280 (Nat.le_of_ble_eq_true rfl) (Nat.le_of_ble_eq_true rfl) rfl fs_10_31 rfl ?_
        refine g_iconst (v := 1) 133 rfl rfl rfl ?_
        cases h
        exact g_zret rfl rfl (Or.inr rfl)
      · rw [if_pos c8] at h
        refine g_iconst (v := 0) 108 rfl rfl rfl ?_
        cases h
        exact g_zret rfl rfl (Or.inl rfl)
def f_196  (U : sU) : Option (Int32 × sU) :=
  Option.bind (f_193 U) fun q10 =>
  if q10.1 = 0 then
    some (0, q10.2)
  else
    if ((q10.2).1 280 31) ≤ 0 then
      f_196_44  q10.2
    else
      if ib (((q10.2).1 280 31) - 1) 12 then
      if (q10.2.1 303 (((q10.2).1 280 31) - 1).toNatClampNeg) < ((q10.2).1 280 28) then
        f_196_44  q10.2
      else
        some (0, sI q10.2 280 30 ((q10.2).1 280 29))
      else none
set_option maxRecDepth 10000 in
set_option maxHeartbeats 2000000 in
theorem F_196 (d : Nat)  {U : sU} {r : Int32} {U' : sU} (h : f_196  U = some (r, U')) : Rn (d + 4) sm_I196 [.ref 280] U (some (.int r)) U' := by
  refine Rn_of [(0, .ref 280)] (Nat.le_of_ble_eq_true rfl) (Sc rfl (Sn _)) ?_
  first | rw [f_196] at h | rw [f_196.eq_def] at h
  refine g_aload_n 1 rfl rfl rfl ?_
  obtain ⟨q10, hq10, h⟩ := Option.bind_eq_some_iff.mp h
  have r11 := (F_193 (d + 1)  hq10)
  refine g_callV (J := sm_I193) 4 rfl (Nat.le_of_ble_eq_true rfl) rfl rfl (Nat.le_of_ble_eq_true rfl) s_280 (Nat.le_of_ble_eq_true rfl) (Nat.le_of_ble_eq_true rfl) rfl rfl r11 ?_
  refine g_if_ne 9 7 rfl rfl (fun c12 => ?_) (fun c12 => ?_)
  · rw [if_neg c12] at h
    refine g_aload_n 10 rfl rfl rfl ?_
    refine g_get 13 rfl s_280 (Nat.le_of_ble_eq_true rfl) rfl rfl ?_
    refine g_if_le 44 16 rfl rfl (fun c13 => ?_) (fun c13 => ?_)
    · rw [if_pos c13] at h
      exact g_sub (Sc rfl (Sn _)) (F_196_44 d  h)
    · rw [if_neg c13] at h
      refine g_aload_n 17 rfl rfl rfl ?_
      refine g_get 20 rfl s_280 (Nat.le_of_ble_eq_true rfl) rfl rfl ?_
      refine g_aload_n 21 rfl rfl rfl ?_
      refine g_get 24 rfl s_280 (Nat.le_of_ble_eq_true rfl) rfl rfl ?_
      refine g_aload_n 25 rfl rfl rfl ?_
      refine g_get 28 rfl s_280 (Nat.le_of_ble_eq_true rfl) rfl rfl ?_
      refine g_iconst (v := 1) 29 rfl rfl rfl ?_
      refine g_isub 30 rfl rfl ?_
      by_cases i14 : ib (((q10.2).1 280 31) - 1) 12
      case neg => rw [if_neg i14] at h; cases h
      rw [if_pos i14] at h
      refine g_iald 31 rfl s_303 l_303 i14 rfl ?_
      refine g_icmp_gt 44 34 rfl rfl (fun c15 => ?_) (fun c15 => ?_)
      · rw [if_pos c15] at h
        exact g_sub (Sc rfl (Sn _)) (F_196_44 d  h)
      · rw [if_neg c15] at h
        refine g_aload_n 35 rfl rfl rfl ?_
        refine g_aload_n 36 rfl rfl rfl ?_
        refine g_get 39 rfl s_280 (Nat.le_of_ble_eq_true rfl) rfl rfl ?_
        refine g_putI 42 rfl s_280 (Nat.le_of_ble_eq_true rfl) (Nat.le_of_ble_eq_true rfl) rfl fs_10_30 rfl ?_
        refine g_iconst (v := 0) 43 rfl rfl rfl ?_
        cases h
        exact g_zret rfl rfl (Or.inl rfl)
  · rw [if_pos c12] at h
    refine g_iconst (v := 0) 8 rfl rfl rfl ?_
    cases h
    exact g_zret rfl rfl (Or.inl rfl)

def f_197  (U : sU) : Option (Int32 × sU) :=
  Option.bind (f_191 115 U) fun q1 =>
  if q1.1 = 0 then
    some (0, q1.2)
  else
    Option.bind (f_191 104 q1.2) fun q4 =>
    if q4.1 = 0 then
      some (0, q4.2)
    else
      Option.bind (f_191 32 q4.2) fun q7 =>
      if q7.1 = 0 then
        some (0, q7.2)
      else
        Option.bind (f_195 q7.2) fun q10 =>
        if q10.1 = 0 then
          some (0, q10.2)
        else
          some (1, sI q10.2 280 32 ((q10.2).1 280 28))
set_option maxRecDepth 10000 in
set_option maxHeartbeats 2000000 in
theorem F_197 (d : Nat)  {U : sU} {r : Int32} {U' : sU} (h : f_197  U = some (r, U')) : Rn (d + 5) sm_I197 [.ref 280] U (some (.int r)) U' := by
  refine Rn_of [(0, .ref 280)] (Nat.le_of_ble_eq_true rfl) (Sc rfl (Sn _)) ?_
  first | rw [f_197] at h | rw [f_197.eq_def] at h
  refine g_aload_n 1 rfl rfl rfl ?_
  refine g_bipush (v := 115) 3 rfl (by decide) rfl ?_
  obtain ⟨q1, hq1, h⟩ := Option.bind_eq_some_iff.mp h
  have r2 := (F_191 (d + 3) 115 hq1)
  refine g_callV (J := sm_I191) 6 rfl (Nat.le_of_ble_eq_true rfl) rfl rfl (Nat.le_of_ble_eq_true rfl) s_280 (Nat.le_of_ble_eq_true rfl) (Nat.le_of_ble_eq_true rfl) rfl rfl r2 ?_
  refine g_if_eq 34 9 rfl rfl (fun c3 => ?_) (fun c3 => ?_)
  · rw [if_pos c3] at h
    refine g_iconst (v := 0) 35 rfl rfl rfl ?_
    cases h
    exact g_zret rfl rfl (Or.inl rfl)
  · rw [if_neg c3] at h
    refine g_aload_n 10 rfl rfl rfl ?_
    refine g_bipush (v := 104) 12 rfl (by decide) rfl ?_
    obtain ⟨q4, hq4, h⟩ := Option.bind_eq_some_iff.mp h
    have r5 := (F_191 (d + 3) 104 hq4)
    refine g_callV (J := sm_I191) 15 rfl (Nat.le_of_ble_eq_true rfl) rfl rfl (Nat.le_of_ble_eq_true rfl) s_280 (Nat.le_of_ble_eq_true rfl) (Nat.le_of_ble_eq_true rfl) rfl rfl r5 ?_
    refine g_if_eq 34 18 rfl rfl (fun c6 => ?_) (fun c6 => ?_)
    · rw [if_pos c6] at h
      refine g_iconst (v := 0) 35 rfl rfl rfl ?_
      cases h
      exact g_zret rfl rfl (Or.inl rfl)
    · rw [if_neg c6] at h
      refine g_aload_n 19 rfl rfl rfl ?_
      refine g_bipush (v := 32) 21 rfl (by decide) rfl ?_
      obtain ⟨q7, hq7, h⟩ := Option.bind_eq_some_iff.mp h
      have r8 := (F_191 (d + 3) 32 hq7)
      refine g_callV (J := sm_I191) 24 rfl (Nat.le_of_ble_eq_true rfl) rfl rfl (Nat.le_of_ble_eq_true rfl) s_280 (Nat.le_of_ble_eq_true rfl) (Nat.le_of_ble_eq_true rfl) rfl rfl r8 ?_
      refine g_if_eq 34 27 rfl rfl (fun c9 => ?_) (fun c9 => ?_)
      · rw [if_pos c9] at h
        refine g_iconst (v := 0) 35 rfl rfl rfl ?_
        cases h
        exact g_zret rfl rfl (Or.inl rfl)
      · rw [if_neg c9] at h
        refine g_aload_n 28 rfl rfl rfl ?_
        obtain ⟨q10, hq10, h⟩ := Option.bind_eq_some_iff.mp h
        have r11 := (F_195 d  hq10)
        refine g_callV (J := sm_I195) 31 rfl (Nat.le_of_ble_eq_true rfl) rfl rfl (Nat.le_of_ble_eq_true rfl) s_280 (Nat.le_of_ble_eq_true rfl) (Nat.le_of_ble_eq_true rfl) rfl rfl r11 ?_
        refine g_if_ne 36 34 rfl rfl (fun c12 => ?_) (fun c12 => ?_)
        · rw [if_neg c12] at h
          refine g_aload_n 37 rfl rfl rfl ?_
          refine g_aload_n 38 rfl rfl rfl ?_
          refine g_get 41 rfl s_280 (Nat.le_of_ble_eq_true rfl) rfl rfl ?_
          refine g_putI 44 rfl s_280 (Nat.le_of_ble_eq_true rfl) (Nat.le_of_ble_eq_true rfl) rfl fs_10_32 rfl ?_
          refine g_iconst (v := 1) 45 rfl rfl rfl ?_
          cases h
          exact g_zret rfl rfl (Or.inr rfl)
        · rw [if_pos c12] at h
          refine g_iconst (v := 0) 35 rfl rfl rfl ?_
          cases h
          exact g_zret rfl rfl (Or.inl rfl)
