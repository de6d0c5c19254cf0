/-! methods turned -/
def f_198  (U : sU) : Option (Int32 × sU) :=
  Option.bind (f_191 114 U) fun q1 =>
  if q1.1 = 0 then
    some (0, q1.2)
  else
    Option.bind (f_191 100 q1.2) fun q4 =>
    if q4.1 = 0 then
      some (0, q4.2)
    else
      Option.bind (f_191 115 q4.2) fun q7 =>
      if q7.1 = 0 then
        some (0, q7.2)
      else
        Option.bind (f_191 32 q7.2) fun q10 =>
        if q10.1 = 0 then
          some (0, q10.2)
        else
          Option.bind (f_194 1 12 q10.2) fun q13 =>
          if q13.1 = 0 then
            some (0, q13.2)
          else
            some (1, sI q13.2 280 34 ((q13.2).1 280 28))
set_option maxRecDepth 10000 in
set_option maxHeartbeats 2000000 in
theorem F_198 (d : Nat)  {U : sU} {r : Int32} {U' : sU} (h : f_198  U = some (r, U')) : Rn (d + 4) sm_I198 [.ref 280] U (some (.int r)) U' := by
  refine Rn_of [(0, .ref 280)] (Nat.le_of_ble_eq_true rfl) (Sc rfl (Sn _)) ?_
  first | rw [f_198] at h | rw [f_198.eq_def] at h
  refine g_aload_n 1 rfl rfl rfl ?_
  refine g_bipush (v := 114) 3 rfl (by decide) rfl ?_
  obtain ⟨q1, hq1, h⟩ := Option.bind_eq_some_iff.mp h
  have r2 := (F_191 (d + 2) 114 hq1)
  refine g_callV (J := sm_I191) 6 rfl (Nat.le_of_ble_eq_true rfl) rfl rfl (Nat.le_of_ble_eq_true rfl) s_280 (Nat.le_of_ble_eq_true rfl) (Nat.le_of_ble_eq_true rfl) rfl rfl r2 ?_
  refine g_if_eq 46 9 rfl rfl (fun c3 => ?_) (fun c3 => ?_)
  · rw [if_pos c3] at h
    refine g_iconst (v := 0) 47 rfl rfl rfl ?_
    cases h
    exact g_zret rfl rfl (Or.inl rfl)
  · rw [if_neg c3] at h
    refine g_aload_n 10 rfl rfl rfl ?_
    refine g_bipush (v := 100) 12 rfl (by decide) rfl ?_
    obtain ⟨q4, hq4, h⟩ := Option.bind_eq_some_iff.mp h
    have r5 := (F_191 (d + 2) 100 hq4)
    refine g_callV (J := sm_I191) 15 rfl (Nat.le_of_ble_eq_true rfl) rfl rfl (Nat.le_of_ble_eq_true rfl) s_280 (Nat.le_of_ble_eq_true rfl) (Nat.le_of_ble_eq_true rfl) rfl rfl r5 ?_
    refine g_if_eq 46 18 rfl rfl (fun c6 => ?_) (fun c6 => ?_)
    · rw [if_pos c6] at h
      refine g_iconst (v := 0) 47 rfl rfl rfl ?_
      cases h
      exact g_zret rfl rfl (Or.inl rfl)
    · rw [if_neg c6] at h
      refine g_aload_n 19 rfl rfl rfl ?_
      refine g_bipush (v := 115) 21 rfl (by decide) rfl ?_
      obtain ⟨q7, hq7, h⟩ := Option.bind_eq_some_iff.mp h
      have r8 := (F_191 (d + 2) 115 hq7)
      refine g_callV (J := sm_I191) 24 rfl (Nat.le_of_ble_eq_true rfl) rfl rfl (Nat.le_of_ble_eq_true rfl) s_280 (Nat.le_of_ble_eq_true rfl) (Nat.le_of_ble_eq_true rfl) rfl rfl r8 ?_
      refine g_if_eq 46 27 rfl rfl (fun c9 => ?_) (fun c9 => ?_)
      · rw [if_pos c9] at h
        refine g_iconst (v := 0) 47 rfl rfl rfl ?_
        cases h
        exact g_zret rfl rfl (Or.inl rfl)
      · rw [if_neg c9] at h
        refine g_aload_n 28 rfl rfl rfl ?_
        refine g_bipush (v := 32) 30 rfl (by decide) rfl ?_
        obtain ⟨q10, hq10, h⟩ := Option.bind_eq_some_iff.mp h
        have r11 := (F_191 (d + 2) 32 hq10)
        refine g_callV (J := sm_I191) 33 rfl (Nat.le_of_ble_eq_true rfl) rfl rfl (Nat.le_of_ble_eq_true rfl) s_280 (Nat.le_of_ble_eq_true rfl) (Nat.le_of_ble_eq_true rfl) rfl rfl r11 ?_
        refine g_if_eq 46 36 rfl rfl (fun c12 => ?_) (fun c12 => ?_)
        · rw [if_pos c12] at h
          refine g_iconst (v := 0) 47 rfl rfl rfl ?_
          cases h
          exact g_zret rfl rfl (Or.inl rfl)
        · rw [if_neg c12] at h
          refine g_aload_n 37 rfl rfl rfl ?_
          refine g_iconst (v := 1) 38 rfl rfl rfl ?_
          refine g_bipush (v := 12) 40 rfl (by decide) rfl ?_
          obtain ⟨q13, hq13, h⟩ := Option.bind_eq_some_iff.mp h
          have r14 := (F_194 d 1 12 hq13)
          refine g_callV (J := sm_I194) 43 rfl (Nat.le_of_ble_eq_true rfl) rfl rfl (Nat.le_of_ble_eq_true rfl) s_280 (Nat.le_of_ble_eq_true rfl) (Nat.le_of_ble_eq_true rfl) rfl rfl r14 ?_
          refine g_if_ne 48 46 rfl rfl (fun c15 => ?_) (fun c15 => ?_)
          · rw [if_neg c15] at h
            refine g_aload_n 49 rfl rfl rfl ?_
            refine g_aload_n 50 rfl rfl rfl ?_
            refine g_get 53 rfl s_280 (Nat.le_of_ble_eq_true rfl) rfl rfl ?_
            refine g_putI 56 rfl s_280 (Nat.le_of_ble_eq_true rfl) (Nat.le_of_ble_eq_true rfl) rfl fs_10_34 rfl ?_
            refine g_iconst (v := 1) 57 rfl rfl rfl ?_
            cases h
            exact g_zret rfl rfl (Or.inr rfl)
          · rw [if_pos c15] at h
            refine g_iconst (v := 0) 47 rfl rfl rfl ?_
            cases h
            exact g_zret rfl rfl (Or.inl rfl)

def f_199  (U : sU) : Option (Int32 × sU) :=
  Option.bind (f_191 97 U) fun q1 =>
  if q1.1 = 0 then
    some (0, q1.2)
  else
    Option.bind (f_191 110 q1.2) fun q4 =>
    if q4.1 = 0 then
      some (0, q4.2)
    else
      Option.bind (f_191 32 q4.2) fun q7 =>
      if q7.1 = 0 then
        some (0, q7.2)
      else
        Option.bind (f_195 q7.2) fun q10 =>
        if q10.1 = 0 then
          some (0, q10.2)
        else
          some (1, sI q10.2 280 33 ((q10.2).1 280 28))
set_option maxRecDepth 10000 in
set_option maxHeartbeats 2000000 in
theorem F_199 (d : Nat)  {U : sU} {r : Int32} {U' : sU} (h : f_199  U = some (r, U')) : Rn (d + 5) sm_I199 [.ref 280] U (some (.int r)) U' := by
  refine Rn_of [(0, .ref 280)] (Nat.le_of_ble_eq_true rfl) (Sc rfl (Sn _)) ?_
  first | rw [f_199] at h | rw [f_199.eq_def] at h
  refine g_aload_n 1 rfl rfl rfl ?_
  refine g_bipush (v := 97) 3 rfl (by decide) rfl ?_
  obtain ⟨q1, hq1, h⟩ := Option.bind_eq_some_iff.mp h
  have r2 := (F_191 (d + 3) 97 hq1)
  refine g_callV (J := sm_I191) 6 rfl (Nat.le_of_ble_eq_true rfl) rfl rfl (Nat.le_of_ble_eq_true rfl) s_280 (Nat.le_of_ble_eq_true rfl) (Nat.le_of_ble_eq_true rfl) rfl rfl r2 ?_
  refine g_if_eq 34 9 rfl rfl (fun c3 => ?_) (fun c3 => ?_)
  · rw [if_pos c3] at h
    refine g_iconst (v := 0) 35 rfl rfl rfl ?_
    cases h
    exact g_zret rfl rfl (Or.inl rfl)
  · rw [if_neg c3] at h
    refine g_aload_n 10 rfl rfl rfl ?_
    refine g_bipush (v := 110) 12 rfl (by decide) rfl ?_
    obtain ⟨q4, hq4, h⟩ := Option.bind_eq_some_iff.mp h
    have r5 := (F_191 (d + 3) 110 hq4)
    refine g_callV (J := sm_I191) 15 rfl (Nat.le_of_ble_eq_true rfl) rfl rfl (Nat.le_of_ble_eq_true rfl) s_280 (Nat.le_of_ble_eq_true rfl) (Nat.le_of_ble_eq_true rfl) rfl rfl r5 ?_
    refine g_if_eq 34 18 rfl rfl (fun c6 => ?_) (fun c6 => ?_)
    · rw [if_pos c6] at h
      refine g_iconst (v := 0) 35 rfl rfl rfl ?_
      cases h
      exact g_zret rfl rfl (Or.inl rfl)
    · rw [if_neg c6] at h
      refine g_aload_n 19 rfl rfl rfl ?_
      refine g_bipush (v := 32) 21 rfl (by decide) rfl ?_
      obtain ⟨q7, hq7, h⟩ := Option.bind_eq_some_iff.mp h
      have r8 := (F_191 (d + 3) 32 hq7)
      refine g_callV (J := sm_I191) 24 rfl (Nat.le_of_ble_eq_true rfl) rfl rfl (Nat.le_of_ble_eq_true rfl) s_280 (Nat.le_of_ble_eq_true rfl) (Nat.le_of_ble_eq_true rfl) rfl rfl r8 ?_
      refine g_if_eq 34 27 rfl rfl (fun c9 => ?_) (fun c9 => ?_)
      · rw [if_pos c9] at h
        refine g_iconst (v := 0) 35 rfl rfl rfl ?_
        cases h
        exact g_zret rfl rfl (Or.inl rfl)
      · rw [if_neg c9] at h
        refine g_aload_n 28 rfl rfl rfl ?_
        obtain ⟨q10, hq10, h⟩ := Option.bind_eq_some_iff.mp h
        have r11 := (F_195 d  hq10)
        refine g_callV (J := sm_I195) 31 rfl (Nat.le_of_ble_eq_true rfl) rfl rfl (Nat.le_of_ble_eq_true rfl) s_280 (Nat.le_of_ble_eq_true rfl) (Nat.le_of_ble_eq_true rfl) rfl rfl r11 ?_
        refine g_if_ne 36 34 rfl rfl (fun c12 => ?_) (fun c12 => ?_)
        · rw [if_neg c12] at h
          refine g_aload_n 37 rfl rfl rfl ?_
          refine g_aload_n 38 rfl rfl rfl ?_
          refine g_get 41 rfl s_280 (Nat.le_of_ble_eq_true rfl) rfl rfl ?_
          refine g_putI 44 rfl s_280 (Nat.le_of_ble_eq_true rfl) (Nat.le_of_ble_eq_true rfl) rfl fs_10_33 rfl ?_
          refine g_iconst (v := 1) 45 rfl rfl rfl ?_
          cases h
          exact g_zret rfl rfl (Or.inr rfl)
        · rw [if_pos c12] at h
          refine g_iconst (v := 0) 35 rfl rfl rfl ?_
          cases h
          exact g_zret rfl rfl (Or.inl rfl)

def f_200_58  (U : sU) : Option (Int32 × sU) :=
  Option.bind (f_190 U) fun q1 =>
  if q1 = 97 then
    some (1, sI (sI U 280 35 1) 280 26 (((sI U 280 35 1).1 280 26) + 1))
  else
    some (1, sI (sI U 280 35 0) 280 26 (((sI U 280 35 0).1 280 26) + 1))
set_option maxRecDepth 10000 in
set_option maxHeartbeats 2000000 in
theorem F_200_58 (d : Nat)    {U : sU} {r : Int32} {U' : sU} (h : f_200_58  U = some (r, U')) : G (d + 2) sm_I200 58 [(0, .ref 280)] [] U (some (.int r)) U' := by
  first | rw [f_200_58] at h | rw [f_200_58.eq_def] at h
  refine g_aload_n 59 rfl rfl rfl ?_
  refine g_aload_n 60 rfl rfl rfl ?_
  obtain ⟨q1, hq1, h⟩ := Option.bind_eq_some_iff.mp h
  refine g_callV (J := sm_I190) 63 rfl (Nat.le_of_ble_eq_true rfl) rfl rfl (Nat.le_of_ble_eq_true rfl) s_280 (Nat.le_of_ble_eq_true rfl) (Nat.le_of_ble_eq_true rfl) rfl rfl (F_190 (d + 1)  hq1) ?_
  refine g_bipush (v := 97) 65 rfl (by decide) rfl ?_
  refine g_icmp_ne 72 68 rfl rfl (fun c2 => ?_) (fun c2 => ?_)
  · rw [if_neg c2] at h
    refine g_iconst (v := 0) 73 rfl rfl rfl ?_
    refine g_putI 76 rfl s_280 (Nat.le_of_ble_eq_true rfl) (Nat.le_of_ble_eq_true rfl) rfl fs_10_35 rfl ?_
    refine g_aload_n 77 rfl rfl rfl ?_
    refine g_dup 78 rfl rfl rfl ?_
    refine g_get 81 rfl s_280 (Nat.le_of_ble_eq_true rfl) rfl rfl ?_
    refine g_iconst (v := 1) 82 rfl rfl rfl ?_
    refine g_iadd 83 rfl rfl ?_
    refine g_putI 86 rfl s_280 (Nat.le_of_ble_eq_true rfl) (Nat.le_of_ble_eq_true rfl) rfl fs_10_26 rfl ?_
    refine g_iconst (v := 1) 87 rfl rfl rfl ?_
    cases h
    exact g_zret rfl rfl (Or.inr rfl)
  · rw [if_pos c2] at h
    refine g_iconst (v := 1) 69 rfl rfl rfl ?_
    refine g_goto 73 rfl ?_
    refine g_putI 76 rfl s_280 (Nat.le_of_ble_eq_true rfl) (Nat.le_of_ble_eq_true rfl) rfl fs_10_35 rfl ?_
    refine g_aload_n 77 rfl rfl rfl ?_
    refine g_dup 78 rfl rfl rfl ?_
    refine g_get 81 rfl s_280 (Nat.le_of_ble_eq_true rfl) rfl rfl ?_
    refine g_iconst (v := 1) 82 rfl rfl rfl ?_
    refine g_iadd 83 rfl rfl ?_
    refine g_putI 86 rfl s_280 (Nat.le_of_ble_eq_true rfl) (Nat.le_of_ble_eq_true rfl) rfl fs_10_26 rfl ?_
    refine g_iconst (v := 1) 87 rfl rfl rfl ?_
    cases h
    exact g_zret rfl rfl (Or.inr rfl)
def f_200  (U : sU) : Option (Int32 × sU) :=
  Option.bind (f_191 115 U) fun q3 =>
  if q3.1 = 0 then
    some (0, q3.2)
  else
    Option.bind (f_191 115 q3.2) fun q6 =>
    if q6.1 = 0 then
      some (0, q6.2)
    else
      Option.bind (f_191 32 q6.2) fun q9 =>
      if q9.1 = 0 then
        some (0, q9.2)
      else
        if ((q9.2).1 280 27) ≤ ((q9.2).1 280 26) then
          some (0, sI q9.2 280 30 ((q9.2).1 280 26))
        else
          Option.bind (f_190 q9.2) fun q13 =>
          if q13 = 115 then
            f_200_58  q9.2
          else
            Option.bind (f_190 q9.2) fun q15 =>
            if q15 = 97 then
              f_200_58  q9.2
            else
              some (0, sI q9.2 280 30 ((q9.2).1 280 26))
set_option maxRecDepth 10000 in
set_option maxHeartbeats 2000000 in
theorem F_200 (d : Nat)  {U : sU} {r : Int32} {U' : sU} (h : f_200  U = some (r, U')) : Rn (d + 2) sm_I200 [.ref 280] U (some (.int r)) U' := by
  refine Rn_of [(0, .ref 280)] (Nat.le_of_ble_eq_true rfl) (Sc rfl (Sn _)) ?_
  first | rw [f_200] at h | rw [f_200.eq_def] at h
  refine g_aload_n 1 rfl rfl rfl ?_
  refine g_bipush (v := 115) 3 rfl (by decide) rfl ?_
  obtain ⟨q3, hq3, h⟩ := Option.bind_eq_some_iff.mp h
  have r4 := (F_191 d 115 hq3)
  refine g_callV (J := sm_I191) 6 rfl (Nat.le_of_ble_eq_true rfl) rfl rfl (Nat.le_of_ble_eq_true rfl) s_280 (Nat.le_of_ble_eq_true rfl) (Nat.le_of_ble_eq_true rfl) rfl rfl r4 ?_
  refine g_if_eq 27 9 rfl rfl (fun c5 => ?_) (fun c5 => ?_)
  · rw [if_pos c5] at h
    refine g_iconst (v := 0) 28 rfl rfl rfl ?_
    cases h
    exact g_zret rfl rfl (Or.inl rfl)
  · rw [if_neg c5] at h
    refine g_aload_n 10 rfl rfl rfl ?_
    refine g_bipush (v := 115) 12 rfl (by decide) rfl ?_
    obtain ⟨q6, hq6, h⟩ := Option.bind_eq_some_iff.mp h
    have r7 := (F_191 d 115 hq6)
    refine g_callV (J := sm_I191) 15 rfl (Nat.le_of_ble_eq_true rfl) rfl rfl (Nat.le_of_ble_eq_true rfl) s_280 (Nat.le_of_ble_eq_true rfl) (Nat.le_of_ble_eq_true rfl) rfl rfl r7 ?_
    refine g_if_eq 27 18 rfl rfl (fun c8 => ?_) (fun c8 => ?_)
    · rw [if_pos c8] at h
      refine g_iconst (v := 0) 28 rfl rfl rfl ?_
      cases h
      exact g_zret rfl rfl (Or.inl rfl)
    · rw [if_neg c8] at h
      refine g_aload_n 19 rfl rfl rfl ?_
      refine g_bipush (v := 32) 21 rfl (by decide) rfl ?_
      obtain ⟨q9, hq9, h⟩ := Option.bind_eq_some_iff.mp h
      have r10 := (F_191 d 32 hq9)
      refine g_callV (J := sm_I191) 24 rfl (Nat.le_of_ble_eq_true rfl) rfl rfl (Nat.le_of_ble_eq_true rfl) s_280 (Nat.le_of_ble_eq_true rfl) (Nat.le_of_ble_eq_true rfl) rfl rfl r10 ?_
      refine g_if_ne 29 27 rfl rfl (fun c11 => ?_) (fun c11 => ?_)
      · rw [if_neg c11] at h
        refine g_aload_n 30 rfl rfl rfl ?_
        refine g_get 33 rfl s_280 (Nat.le_of_ble_eq_true rfl) rfl rfl ?_
        refine g_aload_n 34 rfl rfl rfl ?_
        refine g_get 37 rfl s_280 (Nat.le_of_ble_eq_true rfl) rfl rfl ?_
        refine g_icmp_ge 88 40 rfl rfl (fun c12 => ?_) (fun c12 => ?_)
        · rw [if_pos c12] at h
          refine g_aload_n 89 rfl rfl rfl ?_
          refine g_aload_n 90 rfl rfl rfl ?_
          refine g_get 93 rfl s_280 (Nat.le_of_ble_eq_true rfl) rfl rfl ?_
          refine g_putI 96 rfl s_280 (Nat.le_of_ble_eq_true rfl) (Nat.le_of_ble_eq_true rfl) rfl fs_10_30 rfl ?_
          refine g_iconst (v := 0) 97 rfl rfl rfl ?_
          cases h
          exact g_zret rfl rfl (Or.inl rfl)
        · rw [if_neg c12] at h
          refine g_aload_n 41 rfl rfl rfl ?_
          obtain ⟨q13, hq13, h⟩ := Option.bind_eq_some_iff.mp h
          refine g_callV (J := sm_I190) 44 rfl (Nat.le_of_ble_eq_true rfl) rfl rfl (Nat.le_of_ble_eq_true rfl) s_280 (Nat.le_of_ble_eq_true rfl) (Nat.le_of_ble_eq_true rfl) rfl rfl (F_190 (d + 1)  hq13) ?_
          refine g_bipush (v := 115) 46 rfl (by decide) rfl ?_
          refine g_icmp_eq 58 49 rfl rfl (fun c14 => ?_) (fun c14 => ?_)
          · rw [if_pos c14] at h
            exact g_sub (Sc rfl (Sn _)) (F_200_58 d  h)
          · rw [if_neg c14] at h
            refine g_aload_n 50 rfl rfl rfl ?_
            obtain ⟨q15, hq15, h⟩ := Option.bind_eq_some_iff.mp h
            refine g_callV (J := sm_I190) 53 rfl (Nat.le_of_ble_eq_true rfl) rfl rfl (Nat.le_of_ble_eq_true rfl) s_280 (Nat.le_of_ble_eq_true rfl) (Nat.le_of_ble_eq_true rfl) rfl rfl (F_190 (d + 1)  hq15) ?_
            refine g_bipush (v := 97) 55 rfl (by decide) rfl ?_
            refine g_icmp_ne 88 58 rfl rfl (fun c16 => ?_) (fun c16 => ?_)
            · rw [if_neg c16] at h
              refine g_aload_n 89 rfl rfl rfl ?_
              refine g_aload_n 90 rfl rfl rfl ?_
              refine g_get 93 rfl s_280 (Nat.le_of_ble_eq_true rfl) rfl rfl ?_
              refine g_putI 96 rfl s_280 (Nat.le_of_ble_eq_true rfl) (Nat.le_of_ble_eq_true rfl) rfl fs_10_30 rfl ?_
              refine g_iconst (v := 0) 97 rfl rfl rfl ?_
              cases h
              exact g_zret rfl rfl (Or.inl rfl)
            · rw [if_pos c16] at h
              exact g_sub (Sc rfl (Sn _)) (F_200_58 d  h)
      · rw [if_pos c11] at h
        refine g_iconst (v := 0) 28 rfl rfl rfl ?_
        cases h
        exact g_zret rfl rfl (Or.inl rfl)

def f_201  (U : sU) : Option (Int32 × sU) :=
  Option.bind (f_191 119 U) fun q1 =>
  if q1.1 = 0 then
    some (0, q1.2)
  else
    Option.bind (f_191 111 q1.2) fun q4 =>
    if q4.1 = 0 then
      some (0, q4.2)
    else
      Option.bind (f_191 32 q4.2) fun q7 =>
      if q7.1 = 0 then
        some (0, q7.2)
      else
        Option.bind (f_195 q7.2) fun q10 =>
        if q10.1 = 0 then
          some (0, q10.2)
        else
          Option.bind (f_191 32 q10.2) fun q13 =>
          if q13.1 = 0 then
            some (0, q13.2)
          else
            Option.bind (f_195 q13.2) fun q16 =>
            if q16.1 = 0 then
              some (0, q16.2)
            else
              some (1, sI (sI (sI q16.2 280 36 1) 280 37 ((q10.2).1 280 28)) 280 38 ((sI (sI q16.2 280 36 1) 280 37 ((q10.2).1 280 28)).1 280 28))
set_option maxRecDepth 10000 in
set_option maxHeartbeats 2000000 in
theorem F_201 (d : Nat)  {U : sU} {r : Int32} {U' : sU} (h : f_201  U = some (r, U')) : Rn (d + 5) sm_I201 [.ref 280] U (some (.int r)) U' := by
  refine Rn_of [(0, .ref 280)] (Nat.le_of_ble_eq_true rfl) (Sc rfl (Sn _)) ?_
  first | rw [f_201] at h | rw [f_201.eq_def] at h
  refine g_aload_n 1 rfl rfl rfl ?_
  refine g_bipush (v := 119) 3 rfl (by decide) rfl ?_
  obtain ⟨q1, hq1, h⟩ := Option.bind_eq_some_iff.mp h
  have r2 := (F_191 (d + 3) 119 hq1)
  refine g_callV (J := sm_I191) 6 rfl (Nat.le_of_ble_eq_true rfl) rfl rfl (Nat.le_of_ble_eq_true rfl) s_280 (Nat.le_of_ble_eq_true rfl) (Nat.le_of_ble_eq_true rfl) rfl rfl r2 ?_
  refine g_if_eq 34 9 rfl rfl (fun c3 => ?_) (fun c3 => ?_)
  · rw [if_pos c3] at h
    refine g_iconst (v := 0) 35 rfl rfl rfl ?_
    cases h
    exact g_zret rfl rfl (Or.inl rfl)
  · rw [if_neg c3] at h
    refine g_aload_n 10 rfl rfl rfl ?_
    refine g_bipush (v := 111) 12 rfl (by decide) rfl ?_
    obtain ⟨q4, hq4, h⟩ := Option.bind_eq_some_iff.mp h
    have r5 := (F_191 (d + 3) 111 hq4)
    refine g_callV (J := sm_I191) 15 rfl (Nat.le_of_ble_eq_true rfl) rfl rfl (Nat.le_of_ble_eq_true rfl) s_280 (Nat.le_of_ble_eq_true rfl) (Nat.le_of_ble_eq_true rfl) rfl rfl r5 ?_
    refine g_if_eq 34 18 rfl rfl (fun c6 => ?_) (fun c6 => ?_)
    · rw [if_pos c6] at h
      refine g_iconst (v := 0) 35 rfl rfl rfl ?_
      cases h
      exact g_zret rfl rfl (Or.inl rfl)
    · rw [if_neg c6] at h
      refine g_aload_n 19 rfl rfl rfl ?_
      refine g_bipush (v := 32) 21 rfl (by decide) rfl ?_
      obtain ⟨q7, hq7, h⟩ := Option.bind_eq_some_iff.mp h
      have r8 := (F_191 (d + 3) 32 hq7)
      refine g_callV (J := sm_I191) 24 rfl (Nat.le_of_ble_eq_true rfl) rfl rfl (Nat.le_of_ble_eq_true rfl) s_280 (Nat.le_of_ble_eq_true rfl) (Nat.le_of_ble_eq_true rfl) rfl rfl r8 ?_
      refine g_if_eq 34 27 rfl rfl (fun c9 => ?_) (fun c9 => ?_)
      · rw [if_pos c9] at h
        refine g_iconst (v := 0) 35 rfl rfl rfl ?_
        cases h
        exact g_zret rfl rfl (Or.inl rfl)
      · rw [if_neg c9] at h
        refine g_aload_n 28 rfl rfl rfl ?_
        obtain ⟨q10, hq10, h⟩ := Option.bind_eq_some_iff.mp h
        have r11 := (F_195 d  hq10)
        refine g_callV (J := sm_I195) 31 rfl (Nat.le_of_ble_eq_true rfl) rfl rfl (Nat.le_of_ble_eq_true rfl) s_280 (Nat.le_of_ble_eq_true rfl) (Nat.le_of_ble_eq_true rfl) rfl rfl r11 ?_
        refine g_if_ne 36 34 rfl rfl (fun c12 => ?_) (fun c12 => ?_)
        · rw [if_neg c12] at h
          refine g_aload_n 37 rfl rfl rfl ?_
          refine g_get 40 rfl s_280 (Nat.le_of_ble_eq_true rfl) rfl rfl ?_
          refine g_istore_n 41 [(1, .int ((q10.2).1 280 28)), (0, .ref 280)] rfl (Nat.le_of_ble_eq_true rfl) rfl rfl ?_
          refine g_aload_n 42 rfl rfl rfl ?_
          refine g_bipush (v := 32) 44 rfl (by decide) rfl ?_
          obtain ⟨q13, hq13, h⟩ := Option.bind_eq_some_iff.mp h
          have r14 := (F_191 (d + 3) 32 hq13)
          refine g_callV (J := sm_I191) 47 rfl (Nat.le_of_ble_eq_true rfl) rfl rfl (Nat.le_of_ble_eq_true rfl) s_280 (Nat.le_of_ble_eq_true rfl) (Nat.le_of_ble_eq_true rfl) rfl rfl r14 ?_
          refine g_if_eq 57 50 rfl rfl (fun c15 => ?_) (fun c15 => ?_)
          · rw [if_pos c15] at h
            refine g_iconst (v := 0) 58 rfl rfl rfl ?_
            cases h
            exact g_zret rfl rfl (Or.inl rfl)
          · rw [if_neg c15] at h
            refine g_aload_n 51 rfl rfl rfl ?_
            obtain ⟨q16, hq16, h⟩ := Option.bind_eq_some_iff.mp h
            have r17 := (F_195 d  hq16)
            refine g_callV (J := sm_I195) 54 rfl (Nat.le_of_ble_eq_true rfl) rfl rfl (Nat.le_of_ble_eq_true rfl) s_280 (Nat.le_of_ble_eq_true rfl) (Nat.le_of_ble_eq_true rfl) rfl rfl r17 ?_
            refine g_if_ne 59 57 rfl rfl (fun c18 => ?_) (fun c18 => ?_)
            · rw [if_neg c18] at h
              refine g_aload_n 60 rfl rfl rfl ?_
              refine g_iconst (v := 1) 61 rfl rfl rfl ?_
              refine g_putI 64 rfl s_280 (Nat.le_of_ble_eq_true rfl) (Nat.le_of_ble_eq_true rfl) rfl fs_10_36 rfl ?_
              refine g_aload_n 65 rfl rfl rfl ?_
              refine g_iload_n 66 rfl rfl rfl ?_
              refine g_putI 69 rfl s_280 (Nat.le_of_ble_eq_true rfl) (Nat.le_of_ble_eq_true rfl) rfl fs_10_37 rfl ?_
              refine g_aload_n 70 rfl rfl rfl ?_
              refine g_aload_n 71 rfl rfl rfl ?_
              refine g_get 74 rfl s_280 (Nat.le_of_ble_eq_true rfl) rfl rfl ?_
              refine g_putI 77 rfl s_280 (Nat.le_of_ble_eq_true rfl) (Nat.le_of_ble_eq_true rfl) rfl fs_10_38 rfl ?_
              refine g_iconst (v := 1) 78 rfl rfl rfl ?_
              cases h
              exact g_zret rfl rfl (Or.inr rfl)
            · rw [if_pos c18] at h
              refine g_iconst (v := 0) 58 rfl rfl rfl ?_
              cases h
              exact g_zret rfl rfl (Or.inl rfl)
        · rw [if_pos c12] at h
          refine g_iconst (v := 0) 35 rfl rfl rfl ?_
          cases h
          exact g_zret rfl rfl (Or.inl rfl)

def f_202_99  (U : sU) : Option (Int32 × sU) :=
  Option.bind (f_191 111 U) fun q1 =>
  if q1.1 = 0 then
    some (0, q1.2)
  else
    Option.bind (f_198 q1.2) fun q4 =>
    if q4.1 = 0 then
      some (0, q4.2)
    else
      some (1, q4.2)
set_option maxRecDepth 10000 in
set_option maxHeartbeats 2000000 in
theorem F_202_99 (d : Nat)    {U : sU} {r : Int32} {U' : sU} (h : f_202_99  U = some (r, U')) : G (d + 6) sm_I202 99 [(0, .ref 280)] [] U (some (.int r)) U' := by
  first | rw [f_202_99] at h | rw [f_202_99.eq_def] at h
  refine g_aload_n 100 rfl rfl rfl ?_
  refine g_bipush (v := 111) 102 rfl (by decide) rfl ?_
  obtain ⟨q1, hq1, h⟩ := Option.bind_eq_some_iff.mp h
  have r2 := (F_191 (d + 4) 111 hq1)
  refine g_callV (J := sm_I191) 105 rfl (Nat.le_of_ble_eq_true rfl) rfl rfl (Nat.le_of_ble_eq_true rfl) s_280 (Nat.le_of_ble_eq_true rfl) (Nat.le_of_ble_eq_true rfl) rfl rfl r2 ?_
  refine g_if_eq 119 108 rfl rfl (fun c3 => ?_) (fun c3 => ?_)
  · rw [if_pos c3] at h
    refine g_iconst (v := 0) 120 rfl rfl rfl ?_
    cases h
    exact g_zret rfl rfl (Or.inl rfl)
  · rw [if_neg c3] at h
    refine g_aload_n 109 rfl rfl rfl ?_
    obtain ⟨q4, hq4, h⟩ := Option.bind_eq_some_iff.mp h
    have r5 := (F_198 (d + 1)  hq4)
    refine g_callV (J := sm_I198) 112 rfl (Nat.le_of_ble_eq_true rfl) rfl rfl (Nat.le_of_ble_eq_true rfl) s_280 (Nat.le_of_ble_eq_true rfl) (Nat.le_of_ble_eq_true rfl) rfl rfl r5 ?_
    refine g_if_eq 119 115 rfl rfl (fun c6 => ?_) (fun c6 => ?_)
    · rw [if_pos c6] at h
      refine g_iconst (v := 0) 120 rfl rfl rfl ?_
      cases h
      exact g_zret rfl rfl (Or.inl rfl)
    · rw [if_neg c6] at h
      refine g_iconst (v := 1) 116 rfl rfl rfl ?_
      refine g_goto 120 rfl ?_
      cases h
      exact g_zret rfl rfl (Or.inr rfl)
def f_202_183  (U : sU) : Option (Int32 × sU) :=
  Option.bind (f_191 111 U) fun q7 =>
  if q7.1 = 0 then
    some (0, q7.2)
  else
    Option.bind (f_200 q7.2) fun q10 =>
    if q10.1 = 0 then
      some (0, q10.2)
    else
      some (1, q10.2)
set_option maxRecDepth 10000 in
set_option maxHeartbeats 2000000 in
theorem F_202_183 (d : Nat)    {U : sU} {r : Int32} {U' : sU} (h : f_202_183  U = some (r, U')) : G (d + 6) sm_I202 183 [(0, .ref 280)] [] U (some (.int r)) U' := by
  first | rw [f_202_183] at h | rw [f_202_183.eq_def] at h
  refine g_aload_n 184 rfl rfl rfl ?_
  refine g_bipush (v := 111) 186 rfl (by decide) rfl ?_
  obtain ⟨q7, hq7, h⟩ := Option.bind_eq_some_iff.mp h
  have r8 := (F_191 (d + 4) 111 hq7)
  refine g_callV (J := sm_I191) 189 rfl (Nat.le_of_ble_eq_true rfl) rfl rfl (Nat.le_of_ble_eq_true rfl) s_280 (Nat.le_of_ble_eq_true rfl) (Nat.le_of_ble_eq_true rfl) rfl rfl r8 ?_
  refine g_if_eq 203 192 rfl rfl (fun c9 => ?_) (fun c9 => ?_)
  · rw [if_pos c9] at h
    refine g_iconst (v := 0) 204 rfl rfl rfl ?_
    cases h
    exact g_zret rfl rfl (Or.inl rfl)
  · rw [if_neg c9] at h
    refine g_aload_n 193 rfl rfl rfl ?_
    obtain ⟨q10, hq10, h⟩ := Option.bind_eq_some_iff.mp h
    have r11 := (F_200 (d + 3)  hq10)
    refine g_callV (J := sm_I200) 196 rfl (Nat.le_of_ble_eq_true rfl) rfl rfl (Nat.le_of_ble_eq_true rfl) s_280 (Nat.le_of_ble_eq_true rfl) (Nat.le_of_ble_eq_true rfl) rfl rfl r11 ?_
    refine g_if_eq 203 199 rfl rfl (fun c12 => ?_) (fun c12 => ?_)
    · rw [if_pos c12] at h
      refine g_iconst (v := 0) 204 rfl rfl rfl ?_
      cases h
      exact g_zret rfl rfl (Or.inl rfl)
    · rw [if_neg c12] at h
      refine g_iconst (v := 1) 200 rfl rfl rfl ?_
      refine g_goto 204 rfl ?_
      cases h
      exact g_zret rfl rfl (Or.inr rfl)
def f_202_121 (v1 : Int32) (U : sU) : Option (Int32 × sU) :=
  if (U.1 280 27) ≤ (U.1 280 26) then
    some (0, sI U 280 30 (U.1 280 26))
  else
    if v1 = 108 then
      if ((sI U 280 26 ((U.1 280 26) + 1)).1 280 27) ≤ ((sI U 280 26 ((U.1 280 26) + 1)).1 280 26) then
        f_202_183  (sI U 280 26 ((U.1 280 26) + 1))
      else
        Option.bind (f_190 (sI U 280 26 ((U.1 280 26) + 1))) fun q16 =>
        if q16 = 101 then
          Option.bind (f_199 (sI (sI U 280 26 ((U.1 280 26) + 1)) 280 26 (((sI U 280 26 ((U.1 280 26) + 1)).1 280 26) + 1))) fun q18 =>
          some (q18.1, q18.2)
        else
          f_202_183  (sI U 280 26 ((U.1 280 26) + 1))
    else
      some (0, sI U 280 30 (U.1 280 26))
set_option maxRecDepth 10000 in
set_option maxHeartbeats 2000000 in
theorem F_202_121 (d : Nat)   (v1 : Int32) {U : sU} {r : Int32} {U' : sU} (h : f_202_121 v1 U = some (r, U')) : G (d + 6) sm_I202 121 [(0, .ref 280), (1, .int v1)] [] U (some (.int r)) U' := by
  first | rw [f_202_121] at h | rw [f_202_121.eq_def] at h
  refine g_aload_n 122 rfl rfl rfl ?_
  refine g_get 125 rfl s_280 (Nat.le_of_ble_eq_true rfl) rfl rfl ?_
  refine g_aload_n 126 rfl rfl rfl ?_
  refine g_get 129 rfl s_280 (Nat.le_of_ble_eq_true rfl) rfl rfl ?_
  refine g_icmp_ge 205 132 rfl rfl (fun c13 => ?_) (fun c13 => ?_)
  · rw [if_pos c13] at h
    refine g_aload_n 206 rfl rfl rfl ?_
    refine g_aload_n 207 rfl rfl rfl ?_
    refine g_get 210 rfl s_280 (Nat.le_of_ble_eq_true rfl) rfl rfl ?_
    refine g_putI 213 rfl s_280 (Nat.le_of_ble_eq_true rfl) (Nat.le_of_ble_eq_true rfl) rfl fs_10_30 rfl ?_
    refine g_iconst (v := 0) 214 rfl rfl rfl ?_
    cases h
    exact g_zret rfl rfl (Or.inl rfl)
  · rw [if_neg c13] at h
    refine g_iload_n 133 rfl rfl rfl ?_
    refine g_bipush (v := 108) 135 rfl (by decide) rfl ?_
    refine g_icmp_ne 205 138 rfl rfl (fun c14 => ?_) (fun c14 => ?_)
    · rw [if_neg c14] at h
      refine g_aload_n 206 rfl rfl rfl ?_
      refine g_aload_n 207 rfl rfl rfl ?_
      refine g_get 210 rfl s_280 (Nat.le_of_ble_eq_true rfl) rfl rfl ?_
      refine g_putI 213 rfl s_280 (Nat.le_of_ble_eq_true rfl) (Nat.le_of_ble_eq_true rfl) rfl fs_10_30 rfl ?_
      refine g_iconst (v := 0) 214 rfl rfl rfl ?_
      cases h
      exact g_zret rfl rfl (Or.inl rfl)
    · rw [if_pos c14] at h
      refine g_aload_n 139 rfl rfl rfl ?_
      refine g_dup 140 rfl rfl rfl ?_
      refine g_get 143 rfl s_280 (Nat.le_of_ble_eq_true rfl) rfl rfl ?_
      refine g_iconst (v := 1) 144 rfl rfl rfl ?_
      refine g_iadd 145 rfl rfl ?_
      refine g_putI 148 rfl s_280 (Nat.le_of_ble_eq_true rfl) (Nat.le_of_ble_eq_true rfl) rfl fs_10_26 rfl ?_
      refine g_aload_n 149 rfl rfl rfl ?_
      refine g_get 152 rfl s_280 (Nat.le_of_ble_eq_true rfl) rfl rfl ?_
      refine g_aload_n 153 rfl rfl rfl ?_
      refine g_get 156 rfl s_280 (Nat.le_of_ble_eq_true rfl) rfl rfl ?_
      refine g_icmp_ge 183 159 rfl rfl (fun c15 => ?_) (fun c15 => ?_)
      · rw [if_pos c15] at h
        exact g_sub (Sc rfl (Sn _)) (F_202_183 d  h)
      · rw [if_neg c15] at h
        refine g_aload_n 160 rfl rfl rfl ?_
        obtain ⟨q16, hq16, h⟩ := Option.bind_eq_some_iff.mp h
        refine g_callV (J := sm_I190) 163 rfl (Nat.le_of_ble_eq_true rfl) rfl rfl (Nat.le_of_ble_eq_true rfl) s_280 (Nat.le_of_ble_eq_true rfl) (Nat.le_of_ble_eq_true rfl) rfl rfl (F_190 (d + 5)  hq16) ?_
        refine g_bipush (v := 101) 165 rfl (by decide) rfl ?_
        refine g_icmp_ne 183 168 rfl rfl (fun c17 => ?_) (fun c17 => ?_)
        · rw [if_neg c17] at h
          exact g_sub (Sc rfl (Sn _)) (F_202_183 d  h)
        · rw [if_pos c17] at h
          refine g_aload_n 169 rfl rfl rfl ?_
          refine g_dup 170 rfl rfl rfl ?_
          refine g_get 173 rfl s_280 (Nat.le_of_ble_eq_true rfl) rfl rfl ?_
          refine g_iconst (v := 1) 174 rfl rfl rfl ?_
          refine g_iadd 175 rfl rfl ?_
          refine g_putI 178 rfl s_280 (Nat.le_of_ble_eq_true rfl) (Nat.le_of_ble_eq_true rfl) rfl fs_10_26 rfl ?_
          refine g_aload_n 179 rfl rfl rfl ?_
          obtain ⟨q18, hq18, h⟩ := Option.bind_eq_some_iff.mp h
          have r19 := (F_199 d  hq18)
          refine g_callV (J := sm_I199) 182 rfl (Nat.le_of_ble_eq_true rfl) rfl rfl (Nat.le_of_ble_eq_true rfl) s_280 (Nat.le_of_ble_eq_true rfl) (Nat.le_of_ble_eq_true rfl) rfl rfl r19 ?_
          cases h
          exact g_zret rfl rfl (Rn_z rfl r19)
def f_202_37 (v1 : Int32) (U : sU) : Option (Int32 × sU) :=
  if (U.1 280 27) ≤ (U.1 280 26) then
    f_202_121 v1 U
  else
    if v1 = 119 then
      if ((sI U 280 26 ((U.1 280 26) + 1)).1 280 27) ≤ ((sI U 280 26 ((U.1 280 26) + 1)).1 280 26) then
        f_202_99  (sI U 280 26 ((U.1 280 26) + 1))
      else
        Option.bind (f_190 (sI U 280 26 ((U.1 280 26) + 1))) fun q23 =>
        if q23 = 105 then
          Option.bind (f_197 (sI (sI U 280 26 ((U.1 280 26) + 1)) 280 26 (((sI U 280 26 ((U.1 280 26) + 1)).1 280 26) + 1))) fun q25 =>
          some (q25.1, q25.2)
        else
          f_202_99  (sI U 280 26 ((U.1 280 26) + 1))
    else
      f_202_121 v1 U
set_option maxRecDepth 10000 in
set_option maxHeartbeats 2000000 in
theorem F_202_37 (d : Nat)   (v1 : Int32) {U : sU} {r : Int32} {U' : sU} (h : f_202_37 v1 U = some (r, U')) : G (d + 6) sm_I202 37 [(0, .ref 280), (1, .int v1)] [] U (some (.int r)) U' := by
  first | rw [f_202_37] at h | rw [f_202_37.eq_def] at h
  refine g_aload_n 38 rfl rfl rfl ?_
  refine g_get 41 rfl s_280 (Nat.le_of_ble_eq_true rfl) rfl rfl ?_
  refine g_aload_n 42 rfl rfl rfl ?_
  refine g_get 45 rfl s_280 (Nat.le_of_ble_eq_true rfl) rfl rfl ?_
  refine g_icmp_ge 121 48 rfl rfl (fun c20 => ?_) (fun c20 => ?_)
  · rw [if_pos c20] at h
    exact g_sub (Sc rfl (Sc rfl (Sn _))) (F_202_121 d v1 h)
  · rw [if_neg c20] at h
    refine g_iload_n 49 rfl rfl rfl ?_
    refine g_bipush (v := 119) 51 rfl (by decide) rfl ?_
    refine g_icmp_ne 121 54 rfl rfl (fun c21 => ?_) (fun c21 => ?_)
    · rw [if_neg c21] at h
      exact g_sub (Sc rfl (Sc rfl (Sn _))) (F_202_121 d v1 h)
    · rw [if_pos c21] at h
      refine g_aload_n 55 rfl rfl rfl ?_
      refine g_dup 56 rfl rfl rfl ?_
      refine g_get 59 rfl s_280 (Nat.le_of_ble_eq_true rfl) rfl rfl ?_
      refine g_iconst (v := 1) 60 rfl rfl rfl ?_
      refine g_iadd 61 rfl rfl ?_
      refine g_putI 64 rfl s_280 (Nat.le_of_ble_eq_true rfl) (Nat.le_of_ble_eq_true rfl) rfl fs_10_26 rfl ?_
      refine g_aload_n 65 rfl rfl rfl ?_
      refine g_get 68 rfl s_280 (Nat.le_of_ble_eq_true rfl) rfl rfl ?_
      refine g_aload_n 69 rfl rfl rfl ?_
      refine g_get 72 rfl s_280 (Nat.le_of_ble_eq_true rfl) rfl rfl ?_
      refine g_icmp_ge 99 75 rfl rfl (fun c22 => ?_) (fun c22 => ?_)
      · rw [if_pos c22] at h
        exact g_sub (Sc rfl (Sn _)) (F_202_99 d  h)
      · rw [if_neg c22] at h
        refine g_aload_n 76 rfl rfl rfl ?_
        obtain ⟨q23, hq23, h⟩ := Option.bind_eq_some_iff.mp h
        refine g_callV (J := sm_I190) 79 rfl (Nat.le_of_ble_eq_true rfl) rfl rfl (Nat.le_of_ble_eq_true rfl) s_280 (Nat.le_of_ble_eq_true rfl) (Nat.le_of_ble_eq_true rfl) rfl rfl (F_190 (d + 5)  hq23) ?_
        refine g_bipush (v := 105) 81 rfl (by decide) rfl ?_
        refine g_icmp_ne 99 84 rfl rfl (fun c24 => ?_) (fun c24 => ?_)
        · rw [if_neg c24] at h
          exact g_sub (Sc rfl (Sn _)) (F_202_99 d  h)
        · rw [if_pos c24] at h
          refine g_aload_n 85 rfl rfl rfl ?_
          refine g_dup 86 rfl rfl rfl ?_
          refine g_get 89 rfl s_280 (Nat.le_of_ble_eq_true rfl) rfl rfl ?_
          refine g_iconst (v := 1) 90 rfl rfl rfl ?_
          refine g_iadd 91 rfl rfl ?_
          refine g_putI 94 rfl s_280 (Nat.le_of_ble_eq_true rfl) (Nat.le_of_ble_eq_true rfl) rfl fs_10_26 rfl ?_
          refine g_aload_n 95 rfl rfl rfl ?_
          obtain ⟨q25, hq25, h⟩ := Option.bind_eq_some_iff.mp h
          have r26 := (F_197 d  hq25)
          refine g_callV (J := sm_I197) 98 rfl (Nat.le_of_ble_eq_true rfl) rfl rfl (Nat.le_of_ble_eq_true rfl) s_280 (Nat.le_of_ble_eq_true rfl) (Nat.le_of_ble_eq_true rfl) rfl rfl r26 ?_
          cases h
          exact g_zret rfl rfl (Rn_z rfl r26)
def f_202  (U : sU) : Option (Int32 × sU) :=
  Option.bind (f_190 U) fun q27 =>
  if (U.1 280 27) ≤ (U.1 280 26) then
    f_202_37 q27 U
  else
    if q27 = 116 then
      Option.bind (f_201 (sI U 280 26 ((U.1 280 26) + 1))) fun q30 =>
      some (q30.1, q30.2)
    else
      f_202_37 q27 U
set_option maxRecDepth 10000 in
set_option maxHeartbeats 2000000 in
theorem F_202 (d : Nat)  {U : sU} {r : Int32} {U' : sU} (h : f_202  U = some (r, U')) : Rn (d + 6) sm_I202 [.ref 280] U (some (.int r)) U' := by
  refine Rn_of [(0, .ref 280)] (Nat.le_of_ble_eq_true rfl) (Sc rfl (Sn _)) ?_
  first | rw [f_202] at h | rw [f_202.eq_def] at h
  refine g_aload_n 1 rfl rfl rfl ?_
  obtain ⟨q27, hq27, h⟩ := Option.bind_eq_some_iff.mp h
  refine g_callV (J := sm_I190) 4 rfl (Nat.le_of_ble_eq_true rfl) rfl rfl (Nat.le_of_ble_eq_true rfl) s_280 (Nat.le_of_ble_eq_true rfl) (Nat.le_of_ble_eq_true rfl) rfl rfl (F_190 (d + 5)  hq27) ?_
  refine g_istore_n 5 [(1, .int q27), (0, .ref 280)] rfl (Nat.le_of_ble_eq_true rfl) rfl rfl ?_
  refine g_aload_n 6 rfl rfl rfl ?_
  refine g_get 9 rfl s_280 (Nat.le_of_ble_eq_true rfl) rfl rfl ?_
  refine g_aload_n 10 rfl rfl rfl ?_
  refine g_get 13 rfl s_280 (Nat.le_of_ble_eq_true rfl) rfl rfl ?_
  refine g_icmp_ge 37 16 rfl rfl (fun c28 => ?_) (fun c28 => ?_)
  · rw [if_pos c28] at h
    exact g_sub (Sc rfl (Sc rfl (Sn _))) (F_202_37 d q27 h)
  · rw [if_neg c28] at h
    refine g_iload_n 17 rfl rfl rfl ?_
    refine g_bipush (v := 116) 19 rfl (by decide) rfl ?_
    refine g_icmp_ne 37 22 rfl rfl (fun c29 => ?_) (fun c29 => ?_)
    · rw [if_neg c29] at h
      exact g_sub (Sc rfl (Sc rfl (Sn _))) (F_202_37 d q27 h)
    · rw [if_pos c29] at h
      refine g_aload_n 23 rfl rfl rfl ?_
      refine g_dup 24 rfl rfl rfl ?_
      refine g_get 27 rfl s_280 (Nat.le_of_ble_eq_true rfl) rfl rfl ?_
      refine g_iconst (v := 1) 28 rfl rfl rfl ?_
      refine g_iadd 29 rfl rfl ?_
      refine g_putI 32 rfl s_280 (Nat.le_of_ble_eq_true rfl) (Nat.le_of_ble_eq_true rfl) rfl fs_10_26 rfl ?_
      refine g_aload_n 33 rfl rfl rfl ?_
      obtain ⟨q30, hq30, h⟩ := Option.bind_eq_some_iff.mp h
      have r31 := (F_201 d  hq30)
      refine g_callV (J := sm_I201) 36 rfl (Nat.le_of_ble_eq_true rfl) rfl rfl (Nat.le_of_ble_eq_true rfl) s_280 (Nat.le_of_ble_eq_true rfl) (Nat.le_of_ble_eq_true rfl) rfl rfl r31 ?_
      cases h
      exact g_zret rfl rfl (Rn_z rfl r31)

def f_203_125 : Nat → sU → Option (Int32 × sU)
  | 0, _ => none
  | n + 1, U =>
    if (U.1 280 27) ≤ (U.1 280 26) then
      some (1, U)
    else
      Option.bind (f_191 59 U) fun q2 =>
      if q2.1 = 0 then
        some (0, q2.2)
      else
        Option.bind (f_202 q2.2) fun q5 =>
        if q5.1 = 0 then
          some (0, q5.2)
        else
          f_203_125 n  q5.2
set_option maxRecDepth 10000 in
set_option maxHeartbeats 2000000 in
theorem F_203_125 (d : Nat)   : ∀ (n : Nat)  (U : sU) (r : Int32) (U' : sU), f_203_125 n  U = some (r, U') → G (d + 7) sm_I203 125 [(0, .ref 280)] [] U (some (.int r)) U' := by
  intro n
  induction n with
  | zero => intro  U r U' h; cases h
  | succ n ih =>
    intro  U r U' h
    first | rw [f_203_125] at h | (rw [f_203_125.eq_def] at h; dsimp only at h)
    refine g_aload_n 126 rfl rfl rfl ?_
    refine g_get 129 rfl s_280 (Nat.le_of_ble_eq_true rfl) rfl rfl ?_
    refine g_aload_n 130 rfl rfl rfl ?_
    refine g_get 133 rfl s_280 (Nat.le_of_ble_eq_true rfl) rfl rfl ?_
    refine g_icmp_ge 154 136 rfl rfl (fun c1 => ?_) (fun c1 => ?_)
    · rw [if_pos c1] at h
      refine g_iconst (v := 1) 155 rfl rfl rfl ?_
      cases h
      exact g_zret rfl rfl (Or.inr rfl)
    · rw [if_neg c1] at h
      refine g_aload_n 137 rfl rfl rfl ?_
      refine g_bipush (v := 59) 139 rfl (by decide) rfl ?_
      obtain ⟨q2, hq2, h⟩ := Option.bind_eq_some_iff.mp h
      have r3 := (F_191 (d + 5) 59 hq2)
      refine g_callV (J := sm_I191) 142 rfl (Nat.le_of_ble_eq_true rfl) rfl rfl (Nat.le_of_ble_eq_true rfl) s_280 (Nat.le_of_ble_eq_true rfl) (Nat.le_of_ble_eq_true rfl) rfl rfl r3 ?_
      refine g_if_eq 152 145 rfl rfl (fun c4 => ?_) (fun c4 => ?_)
      · rw [if_pos c4] at h
        refine g_iconst (v := 0) 153 rfl rfl rfl ?_
        cases h
        exact g_zret rfl rfl (Or.inl rfl)
      · rw [if_neg c4] at h
        refine g_aload_n 146 rfl rfl rfl ?_
        obtain ⟨q5, hq5, h⟩ := Option.bind_eq_some_iff.mp h
        have r6 := (F_202 d  hq5)
        refine g_callV (J := sm_I202) 149 rfl (Nat.le_of_ble_eq_true rfl) rfl rfl (Nat.le_of_ble_eq_true rfl) s_280 (Nat.le_of_ble_eq_true rfl) (Nat.le_of_ble_eq_true rfl) rfl rfl r6 ?_
        refine g_if_ne 125 152 rfl rfl (fun c7 => ?_) (fun c7 => ?_)
        · rw [if_neg c7] at h
          exact g_sub (Sc rfl (Sn _)) (ih  _ _ _ h)
        · rw [if_pos c7] at h
          refine g_iconst (v := 0) 153 rfl rfl rfl ?_
          cases h
          exact g_zret rfl rfl (Or.inl rfl)
def f_203_77 : Nat → sU → Option (Int32 × sU)
  | 0, _ => none
  | n + 1, U =>
    if 12 ≤ (U.1 280 31) then
      f_203_125 FU  U
    else
      if (U.1 280 27) ≤ (U.1 280 26) then
        f_203_125 FU  U
      else
        Option.bind (f_190 U) fun q10 =>
        if q10 = 44 then
          Option.bind (f_196 (sI U 280 26 ((U.1 280 26) + 1))) fun q12 =>
          if q12.1 = 0 then
            some (0, q12.2)
          else
            f_203_77 n  q12.2
        else
          f_203_125 FU  U
set_option maxRecDepth 10000 in
set_option maxHeartbeats 2000000 in
theorem F_203_77 (d : Nat)   : ∀ (n : Nat)  (U : sU) (r : Int32) (U' : sU), f_203_77 n  U = some (r, U') → G (d + 7) sm_I203 77 [(0, .ref 280)] [] U (some (.int r)) U' := by
  intro n
  induction n with
  | zero => intro  U r U' h; cases h
  | succ n ih =>
    intro  U r U' h
    first | rw [f_203_77] at h | (rw [f_203_77.eq_def] at h; dsimp only at h)
    refine g_aload_n 78 rfl rfl rfl ?_
    refine g_get 81 rfl s_280 (Nat.le_of_ble_eq_true rfl) rfl rfl ?_
    refine g_bipush (v := 12) 83 rfl (by decide) rfl ?_
    refine g_icmp_ge 125 86 rfl rfl (fun c8 => ?_) (fun c8 => ?_)
    · rw [if_pos c8] at h
      exact g_sub (Sc rfl (Sn _)) (F_203_125 d _  _ _ _ h)
    · rw [if_neg c8] at h
      refine g_aload_n 87 rfl rfl rfl ?_
      refine g_get 90 rfl s_280 (Nat.le_of_ble_eq_true rfl) rfl rfl ?_
      refine g_aload_n 91 rfl rfl rfl ?_
      refine g_get 94 rfl s_280 (Nat.le_of_ble_eq_true rfl) rfl rfl ?_
      refine g_icmp_ge 125 97 rfl rfl (fun c9 => ?_) (fun c9 => ?_)
      · rw [if_pos c9] at h
        exact g_sub (Sc rfl (Sn _)) (F_203_125 d _  _ _ _ h)
      · rw [if_neg c9] at h
        refine g_aload_n 98 rfl rfl rfl ?_
        obtain ⟨q10, hq10, h⟩ := Option.bind_eq_some_iff.mp h
        refine g_callV (J := sm_I190) 101 rfl (Nat.le_of_ble_eq_true rfl) rfl rfl (Nat.le_of_ble_eq_true rfl) s_280 (Nat.le_of_ble_eq_true rfl) (Nat.le_of_ble_eq_true rfl) rfl rfl (F_190 (d + 6)  hq10) ?_
        refine g_bipush (v := 44) 103 rfl (by decide) rfl ?_
        refine g_icmp_ne 125 106 rfl rfl (fun c11 => ?_) (fun c11 => ?_)
        · rw [if_neg c11] at h
          exact g_sub (Sc rfl (Sn _)) (F_203_125 d _  _ _ _ h)
        · rw [if_pos c11] at h
          refine g_aload_n 107 rfl rfl rfl ?_
          refine g_dup 108 rfl rfl rfl ?_
          refine g_get 111 rfl s_280 (Nat.le_of_ble_eq_true rfl) rfl rfl ?_
          refine g_iconst (v := 1) 112 rfl rfl rfl ?_
          refine g_iadd 113 rfl rfl ?_
          refine g_putI 116 rfl s_280 (Nat.le_of_ble_eq_true rfl) (Nat.le_of_ble_eq_true rfl) rfl fs_10_26 rfl ?_
          refine g_aload_n 117 rfl rfl rfl ?_
          obtain ⟨q12, hq12, h⟩ := Option.bind_eq_some_iff.mp h
          have r13 := (F_196 (d + 2)  hq12)
          refine g_callV (J := sm_I196) 120 rfl (Nat.le_of_ble_eq_true rfl) rfl rfl (Nat.le_of_ble_eq_true rfl) s_280 (Nat.le_of_ble_eq_true rfl) (Nat.le_of_ble_eq_true rfl) rfl rfl r13 ?_
          refine g_if_ne 77 123 rfl rfl (fun c14 => ?_) (fun c14 => ?_)
          · rw [if_neg c14] at h
            exact g_sub (Sc rfl (Sn _)) (ih  _ _ _ h)
          · rw [if_pos c14] at h
            refine g_iconst (v := 0) 124 rfl rfl rfl ?_
            cases h
            exact g_zret rfl rfl (Or.inl rfl)
def f_203  (U : sU) : Option (Int32 × sU) :=
  Option.bind (f_191 115 (sI (sI (sI (sI (sI (sI (sI (sI U 280 31 0) 280 32 0) 280 33 0) 280 34 12) 280 35 0) 280 36 0) 280 37 0) 280 38 0)) fun q15 =>
  if q15.1 = 0 then
    some (0, q15.2)
  else
    Option.bind (f_191 111 q15.2) fun q18 =>
    if q18.1 = 0 then
      some (0, q18.2)
    else
      Option.bind (f_191 32 q18.2) fun q21 =>
      if q21.1 = 0 then
        some (0, q21.2)
      else
        Option.bind (f_196 q21.2) fun q24 =>
        if q24.1 = 0 then
          some (0, q24.2)
        else
          f_203_77 FU  q24.2
set_option maxRecDepth 10000 in
set_option maxHeartbeats 2000000 in
theorem F_203 (d : Nat)  {U : sU} {r : Int32} {U' : sU} (h : f_203  U = some (r, U')) : Rn (d + 7) sm_I203 [.ref 280] U (some (.int r)) U' := by
  refine Rn_of [(0, .ref 280)] (Nat.le_of_ble_eq_true rfl) (Sc rfl (Sn _)) ?_
  first | rw [f_203] at h | rw [f_203.eq_def] at h
  refine g_aload_n 1 rfl rfl rfl ?_
  refine g_iconst (v := 0) 2 rfl rfl rfl ?_
  refine g_putI 5 rfl s_280 (Nat.le_of_ble_eq_true rfl) (Nat.le_of_ble_eq_true rfl) rfl fs_10_31 rfl ?_
  refine g_aload_n 6 rfl rfl rfl ?_
  refine g_iconst (v := 0) 7 rfl rfl rfl ?_
  refine g_putI 10 rfl s_280 (Nat.le_of_ble_eq_true rfl) (Nat.le_of_ble_eq_true rfl) rfl fs_10_32 rfl ?_
  refine g_aload_n 11 rfl rfl rfl ?_
  refine g_iconst (v := 0) 12 rfl rfl rfl ?_
  refine g_putI 15 rfl s_280 (Nat.le_of_ble_eq_true rfl) (Nat.le_of_ble_eq_true rfl) rfl fs_10_33 rfl ?_
  refine g_aload_n 16 rfl rfl rfl ?_
  refine g_bipush (v := 12) 18 rfl (by decide) rfl ?_
  refine g_putI 21 rfl s_280 (Nat.le_of_ble_eq_true rfl) (Nat.le_of_ble_eq_true rfl) rfl fs_10_34 rfl ?_
  refine g_aload_n 22 rfl rfl rfl ?_
  refine g_iconst (v := 0) 23 rfl rfl rfl ?_
  refine g_putI 26 rfl s_280 (Nat.le_of_ble_eq_true rfl) (Nat.le_of_ble_eq_true rfl) rfl fs_10_35 rfl ?_
  refine g_aload_n 27 rfl rfl rfl ?_
  refine g_iconst (v := 0) 28 rfl rfl rfl ?_
  refine g_putI 31 rfl s_280 (Nat.le_of_ble_eq_true rfl) (Nat.le_of_ble_eq_true rfl) rfl fs_10_36 rfl ?_
  refine g_aload_n 32 rfl rfl rfl ?_
  refine g_iconst (v := 0) 33 rfl rfl rfl ?_
  refine g_putI 36 rfl s_280 (Nat.le_of_ble_eq_true rfl) (Nat.le_of_ble_eq_true rfl) rfl fs_10_37 rfl ?_
  refine g_aload_n 37 rfl rfl rfl ?_
  refine g_iconst (v := 0) 38 rfl rfl rfl ?_
  refine g_putI 41 rfl s_280 (Nat.le_of_ble_eq_true rfl) (Nat.le_of_ble_eq_true rfl) rfl fs_10_38 rfl ?_
  refine g_aload_n 42 rfl rfl rfl ?_
  refine g_bipush (v := 115) 44 rfl (by decide) rfl ?_
  obtain ⟨q15, hq15, h⟩ := Option.bind_eq_some_iff.mp h
  have r16 := (F_191 (d + 5) 115 hq15)
  refine g_callV (J := sm_I191) 47 rfl (Nat.le_of_ble_eq_true rfl) rfl rfl (Nat.le_of_ble_eq_true rfl) s_280 (Nat.le_of_ble_eq_true rfl) (Nat.le_of_ble_eq_true rfl) rfl rfl r16 ?_
  refine g_if_eq 75 50 rfl rfl (fun c17 => ?_) (fun c17 => ?_)
  · rw [if_pos c17] at h
    refine g_iconst (v := 0) 76 rfl rfl rfl ?_
    cases h
    exact g_zret rfl rfl (Or.inl rfl)
  · rw [if_neg c17] at h
    refine g_aload_n 51 rfl rfl rfl ?_
    refine g_bipush (v := 111) 53 rfl (by decide) rfl ?_
    obtain ⟨q18, hq18, h⟩ := Option.bind_eq_some_iff.mp h
    have r19 := (F_191 (d + 5) 111 hq18)
    refine g_callV (J := sm_I191) 56 rfl (Nat.le_of_ble_eq_true rfl) rfl rfl (Nat.le_of_ble_eq_true rfl) s_280 (Nat.le_of_ble_eq_true rfl) (Nat.le_of_ble_eq_true rfl) rfl rfl r19 ?_
    refine g_if_eq 75 59 rfl rfl (fun c20 => ?_) (fun c20 => ?_)
    · rw [if_pos c20] at h
      refine g_iconst (v := 0) 76 rfl rfl rfl ?_
      cases h
      exact g_zret rfl rfl (Or.inl rfl)
    · rw [if_neg c20] at h
      refine g_aload_n 60 rfl rfl rfl ?_
      refine g_bipush (v := 32) 62 rfl (by decide) rfl ?_
      obtain ⟨q21, hq21, h⟩ := Option.bind_eq_some_iff.mp h
      have r22 := (F_191 (d + 5) 32 hq21)
      refine g_callV (J := sm_I191) 65 rfl (Nat.le_of_ble_eq_true rfl) rfl rfl (Nat.le_of_ble_eq_true rfl) s_280 (Nat.le_of_ble_eq_true rfl) (Nat.le_of_ble_eq_true rfl) rfl rfl r22 ?_
      refine g_if_eq 75 68 rfl rfl (fun c23 => ?_) (fun c23 => ?_)
      · rw [if_pos c23] at h
        refine g_iconst (v := 0) 76 rfl rfl rfl ?_
        cases h
        exact g_zret rfl rfl (Or.inl rfl)
      · rw [if_neg c23] at h
        refine g_aload_n 69 rfl rfl rfl ?_
        obtain ⟨q24, hq24, h⟩ := Option.bind_eq_some_iff.mp h
        have r25 := (F_196 (d + 2)  hq24)
        refine g_callV (J := sm_I196) 72 rfl (Nat.le_of_ble_eq_true rfl) rfl rfl (Nat.le_of_ble_eq_true rfl) s_280 (Nat.le_of_ble_eq_true rfl) (Nat.le_of_ble_eq_true rfl) rfl rfl r25 ?_
        refine g_if_ne 77 75 rfl rfl (fun c26 => ?_) (fun c26 => ?_)
        · rw [if_neg c26] at h
          exact g_sub (Sc rfl (Sn _)) (F_203_77 d _  _ _ _ h)
        · rw [if_pos c26] at h
          refine g_iconst (v := 0) 76 rfl rfl rfl ?_
          cases h
          exact g_zret rfl rfl (Or.inl rfl)

def f_204_177 : Nat → Int32 → Int32 → sU → Option (Int32 × sU)
  | 0, _, _, _ => none
  | n + 1, v3, v4, U =>
    if (U.1 280 31) ≤ v4 then
      some (v3, U)
    else
      if ib v4 12 then
      if ib ((12 * v3) + v4) 96 then
      if ib v4 12 then
      if ib ((12 * v3) + v4) 96 then
      f_204_177 n v3 (v4 + 1) (sI (sI U 296 ((12 * v3) + v4).toNatClampNeg (U.1 303 v4.toNatClampNeg)) 297 ((12 * v3) + v4).toNatClampNeg ((sI U 296 ((12 * v3) + v4).toNatClampNeg (U.1 303 v4.toNatClampNeg)).1 304 v4.toNatClampNeg))
      else none
      else none
      else none
      else none
set_option maxRecDepth 10000 in
set_option maxHeartbeats 2000000 in
theorem F_204_177 (d : Nat)   : ∀ (n : Nat) (v3 : Int32) (v4 : Int32) (U : sU) (r : Int32) (U' : sU), f_204_177 n v3 v4 U = some (r, U') → G (d + 8) sm_I204 177 [(0, .ref 280), (3, .int v3), (4, .int v4)] [] U (some (.int r)) U' := by
  intro n
  induction n with
  | zero => intro v3 v4 U r U' h; cases h
  | succ n ih =>
    intro v3 v4 U r U' h
    first | rw [f_204_177] at h | (rw [f_204_177.eq_def] at h; dsimp only at h)
    refine g_iload 179 rfl rfl rfl ?_
    refine g_aload_n 180 rfl rfl rfl ?_
    refine g_get 183 rfl s_280 (Nat.le_of_ble_eq_true rfl) rfl rfl ?_
    refine g_icmp_ge 230 186 rfl rfl (fun c1 => ?_) (fun c1 => ?_)
    · rw [if_pos c1] at h
      refine g_iload_n 231 rfl rfl rfl ?_
      cases h
      exact g_iret rfl rfl
    · rw [if_neg c1] at h
      refine g_aload_n 187 rfl rfl rfl ?_
      refine g_get 190 rfl s_280 (Nat.le_of_ble_eq_true rfl) rfl rfl ?_
      refine g_bipush (v := 12) 192 rfl (by decide) rfl ?_
      refine g_iload_n 193 rfl rfl rfl ?_
      refine g_imul 194 rfl rfl ?_
      refine g_iload 196 rfl rfl rfl ?_
      refine g_iadd 197 rfl rfl ?_
      refine g_aload_n 198 rfl rfl rfl ?_
      refine g_get 201 rfl s_280 (Nat.le_of_ble_eq_true rfl) rfl rfl ?_
      refine g_iload 203 rfl rfl rfl ?_
      by_cases i2 : ib v4 12
      case neg => rw [if_neg i2] at h; cases h
      rw [if_pos i2] at h
      refine g_iald 204 rfl s_303 l_303 i2 rfl ?_
      by_cases i3 : ib ((12 * v3) + v4) 96
      case neg => rw [if_neg i3] at h; cases h
      rw [if_pos i3] at h
      refine g_iast 205 rfl s_296 l_296 i3 rfl ?_
      refine g_aload_n 206 rfl rfl rfl ?_
      refine g_get 209 rfl s_280 (Nat.le_of_ble_eq_true rfl) rfl rfl ?_
      refine g_bipush (v := 12) 211 rfl (by decide) rfl ?_
      refine g_iload_n 212 rfl rfl rfl ?_
      refine g_imul 213 rfl rfl ?_
      refine g_iload 215 rfl rfl rfl ?_
      refine g_iadd 216 rfl rfl ?_
      refine g_aload_n 217 rfl rfl rfl ?_
      refine g_get 220 rfl s_280 (Nat.le_of_ble_eq_true rfl) rfl rfl ?_
      refine g_iload 222 rfl rfl rfl ?_
      by_cases i4 : ib v4 12
      case neg => rw [if_neg i4] at h; cases h
      rw [if_pos i4] at h
      refine g_iald 223 rfl s_304 l_304 i4 rfl ?_
      by_cases i5 : ib ((12 * v3) + v4) 96
      case neg => rw [if_neg i5] at h; cases h
      rw [if_pos i5] at h
      refine g_iast 224 rfl s_297 l_297 i5 rfl ?_
      refine g_iinc (v := v4 + 1) 227 [(4, .int (v4 + 1)), (0, .ref 280), (3, .int v3)] rfl rfl (Nat.le_of_ble_eq_true rfl) rfl rfl rfl ?_
      refine g_goto 177 rfl ?_
      exact g_sub (Sc rfl (Sc rfl (Sc rfl (Sn _)))) (ih v3 (v4 + 1) _ _ _ h)
def f_204 (x1 : Int32) (U : sU) : Option (Int32 × sU) :=
  Option.bind (f_189 x1 U) fun q6 =>
  if q6 = 0 then
    if ib x1 8 then
    Option.bind (f_203 (sI (sI (sI (sI U 280 25 (64 * x1)) 280 26 0) 280 27 ((sI (sI U 280 25 (64 * x1)) 280 26 0).1 284 x1.toNatClampNeg)) 280 2 ((-1)))) fun q9 =>
    if q9.1 = 0 then
      Option.bind (f_174 ((-6)) (sI q9.2 280 2 ((q9.2).1 280 30))) fun q22 =>
      some (q22.1, q22.2)
    else
      if ((q9.2).1 280 0) = 8 then
        Option.bind (f_174 ((-7)) q9.2) fun q21 =>
        some (q21.1, q21.2)
      else
        if ib ((q9.2).1 280 0) 8 then
        if ib ((q9.2).1 280 0) 8 then
        if ib ((q9.2).1 280 0) 8 then
        if ib ((q9.2).1 280 0) 8 then
        if ib ((q9.2).1 280 0) 8 then
        if ib ((q9.2).1 280 0) 8 then
        if ib ((q9.2).1 280 0) 8 then
        if ib ((q9.2).1 280 0) 8 then
        f_204_177 FU ((q9.2).1 280 0) 0 (sI (sI (sI (sI (sI (sI (sI (sI (sI q9.2 280 0 (((q9.2).1 280 0) + 1)) 288 ((q9.2).1 280 0).toNatClampNeg ((sI q9.2 280 0 (((q9.2).1 280 0) + 1)).1 280 31)) 289 ((q9.2).1 280 0).toNatClampNeg ((sI (sI q9.2 280 0 (((q9.2).1 280 0) + 1)) 288 ((q9.2).1 280 0).toNatClampNeg ((sI q9.2 280 0 (((q9.2).1 280 0) + 1)).1 280 31)).1 280 32)) 290 ((q9.2).1 280 0).toNatClampNeg ((sI (sI (sI q9.2 280 0 (((q9.2).1 280 0) + 1)) 288 ((q9.2).1 280 0).toNatClampNeg ((sI q9.2 280 0 (((q9.2).1 280 0) + 1)).1 280 31)) 289 ((q9.2).1 280 0).toNatClampNeg ((sI (sI q9.2 280 0 (((q9.2).1 280 0) + 1)) 288 ((q9.2).1 280 0).toNatClampNeg ((sI q9.2 280 0 (((q9.2).1 280 0) + 1)).1 280 31)).1 280 32)).1 280 33)) 291 ((q9.2).1 280 0).toNatClampNeg ((sI (sI (sI (sI q9.2 280 0 (((q9.2).1 280 0) + 1)) 288 ((q9.2).1 280 0).toNatClampNeg ((sI q9.2 280 0 (((q9.2).1 280 0) + 1)).1 280 31)) 289 ((q9.2).1 280 0).toNatClampNeg ((sI (sI q9.2 280 0 (((q9.2).1 280 0) + 1)) 288 ((q9.2).1 280 0).toNatClampNeg ((sI q9.2 280 0 (((q9.2).1 280 0) + 1)).1 280 31)).1 280 32)) 290 ((q9.2).1 280 0).toNatClampNeg ((sI (sI (sI q9.2 280 0 (((q9.2).1 280 0) + 1)) 288 ((q9.2).1 280 0).toNatClampNeg ((sI q9.2 280 0 (((q9.2).1 280 0) + 1)).1 280 31)) 289 ((q9.2).1 280 0).toNatClampNeg ((sI (sI q9.2 280 0 (((q9.2).1 280 0) + 1)) 288 ((q9.2).1 280 0).toNatClampNeg ((sI q9.2 280 0 (((q9.2).1 280 0) + 1)).1 280 31)).1 280 32)).1 280 33)).1 280 34)) 292 ((q9.2).1 280 0).toNatClampNeg ((sI (sI (sI (sI (sI q9.2 280 0 (((q9.2).1 280 0) + 1)) 288 ((q9.2).1 280 0).toNatClampNeg ((sI q9.2 280 0 (((q9.2).1 280 0) + 1)).1 280 31)) 289 ((q9.2).1 280 0).toNatClampNeg ((sI (sI q9.2 280 0 (((q9.2).1 280 0) + 1)) 288 ((q9.2).1 280 0).toNatClampNeg ((sI q9.2 280 0 (((q9.2).1 280 0) + 1)).1 280 31)).1 280 32)) 290 ((q9.2).1 280 0).toNatClampNeg ((sI (sI (sI q9.2 280 0 (((q9.2).1 280 0) + 1)) 288 ((q9.2).1 280 0).toNatClampNeg ((sI q9.2 280 0 (((q9.2).1 280 0) + 1)).1 280 31)) 289 ((q9.2).1 280 0).toNatClampNeg ((sI (sI q9.2 280 0 (((q9.2).1 280 0) + 1)) 288 ((q9.2).1 280 0).toNatClampNeg ((sI q9.2 280 0 (((q9.2).1 280 0) + 1)).1 280 31)).1 280 32)).1 280 33)) 291 ((q9.2).1 280 0).toNatClampNeg ((sI (sI (sI (sI q9.2 280 0 (((q9.2).1 280 0) + 1)) 288 ((q9.2).1 280 0).toNatClampNeg ((sI q9.2 280 0 (((q9.2).1 280 0) + 1)).1 280 31)) 289 ((q9.2).1 280 0).toNatClampNeg ((sI (sI q9.2 280 0 (((q9.2).1 280 0) + 1)) 288 ((q9.2).1 280 0).toNatClampNeg ((sI q9.2 280 0 (((q9.2).1 280 0) + 1)).1 280 31)).1 280 32)) 290 ((q9.2).1 280 0).toNatClampNeg ((sI (sI (sI q9.2 280 0 (((q9.2).1 280 0) + 1)) 288 ((q9.2).1 280 0).toNatClampNeg ((sI q9.2 280 0 (((q9.2).1 280 0) + 1)).1 280 31)) 289 ((q9.2).1 280 0).toNatClampNeg ((sI (sI q9.2 280 0 (((q9.2).1 280 0) + 1)) 288 ((q9.2).1 280 0).toNatClampNeg ((sI q9.2 280 0 (((q9.2).1 280 0) + 1)).1 280 31)).1 280 32)).1 280 33)).1 280 34)).1 280 35)) 293 ((q9.2).1 280 0).toNatClampNeg ((sI (sI (sI (sI (sI (sI q9.2 280 0 (((q9.2).1 280 0) + 1)) 288 ((q9.2).1 280 0).toNatClampNeg ((sI q9.2 280 0 (((q9.2).1 280 0) + 1)).1 280 31)) 289 ((q9.2).1 280 0).toNatClampNeg ((sI (sI q9.2 280 0 (((q9.2).1 280 0) + 1)) 288 ((q9.2).1 280 0).toNatClampNeg ((sI q9.2 280 0 (((q9.2).1 280 0) + 1)).1 280 31)).1 280 32)) 290 ((q9.2).1 280 0).toNatClampNeg ((sI (sI (sI q9.2 280 0 (((q9.2).1 280 0) + 1)) 288 ((q9.2).1 280 0).toNatClampNeg ((sI q9.2 280 0 (((q9.2).1 280 0) + 1)).1 280 31)) 289 ((q9.2).1 280 0).toNatClampNeg ((sI (sI q9.2 280 0 (((q9.2).1 280 0) + 1)) 288 ((q9.2).1 280 0).toNatClampNeg ((sI q9.2 280 0 (((q9.2).1 280 0) + 1)).1 280 31)).1 280 32)).1 280 33)) 291 ((q9.2).1 280 0).toNatClampNeg ((sI (sI (sI (sI q9.2 280 0 (((q9.2).1 280 0) + 1)) 288 ((q9.2).1 280 0).toNatClampNeg ((sI q9.2 280 0 (((q9.2).1 280 0) + 1)).1 280 31)) 289 ((q9.2).1 280 0).toNatClampNeg ((sI (sI q9.2 280 0 (((q9.2).1 280 0) + 1)) 288 ((q9.2).1 280 0).toNatClampNeg ((sI q9.2 280 0 (((q9.2).1 280 0) + 1)).1 280 31)).1 280 32)) 290 ((q9.2).1 280 0).toNatClampNeg ((sI (sI (sI q9.2 280 0 (((q9.2).1 280 0) + 1)) 288 ((q9.2).1 280 0).toNatClampNeg ((sI q9.2 280 0 (((q9.2).1 280 0) + 1)).1 280 31)) 289 ((q9.2).1 280 0).toNatClampNeg ((sI (sI q9.2 280 0 (((q9.2).1 280 0) + 1)) 288 ((q9.2).1 280 0).toNatClampNeg ((sI q9.2 280 0 (((q9.2).1 280 0) + 1)).1 280 31)).1 280 32)).1 280 33)).1 280 34)) 292 ((q9.2).1 280 0).toNatClampNeg ((sI (sI (sI (sI (sI q9.2 280 0 (((q9.2).1 280 0) + 1)) 288 ((q9.2).1 280 0).toNatClampNeg ((sI q9.2 280 0 (((q9.2).1 280 0) + 1)).1 280 31)) 289 ((q9.2).1 280 0).toNatClampNeg ((sI (sI q9.2 280 0 (((q9.2).1 280 0) + 1)) 288 ((q9.2).1 280 0).toNatClampNeg ((sI q9.2 280 0 (((q9.2).1 280 0) + 1)).1 280 31)).1 280 32)) 290 ((q9.2).1 280 0).toNatClampNeg ((sI (sI (sI q9.2 280 0 (((q9.2).1 280 0) + 1)) 288 ((q9.2).1 280 0).toNatClampNeg ((sI q9.2 280 0 (((q9.2).1 280 0) + 1)).1 280 31)) 289 ((q9.2).1 280 0).toNatClampNeg ((sI (sI q9.2 280 0 (((q9.2).1 280 0) + 1)) 288 ((q9.2).1 280 0).toNatClampNeg ((sI q9.2 280 0 (((q9.2).1 280 0) + 1)).1 280 31)).1 280 32)).1 280 33)) 291 ((q9.2).1 280 0).toNatClampNeg ((sI (sI (sI (sI q9.2 280 0 (((q9.2).1 280 0) + 1)) 288 ((q9.2).1 280 0).toNatClampNeg ((sI q9.2 280 0 (((q9.2).1 280 0) + 1)).1 280 31)) 289 ((q9.2).1 280 0).toNatClampNeg ((sI (sI q9.2 280 0 (((q9.2).1 280 0) + 1)) 288 ((q9.2).1 280 0).toNatClampNeg ((sI q9.2 280 0 (((q9.2).1 280 0) + 1)).1 280 31)).1 280 32)) 290 ((q9.2).1 280 0).toNatClampNeg ((sI (sI (sI q9.2 280 0 (((q9.2).1 280 0) + 1)) 288 ((q9.2).1 280 0).toNatClampNeg ((sI q9.2 280 0 (((q9.2).1 280 0) + 1)).1 280 31)) 289 ((q9.2).1 280 0).toNatClampNeg ((sI (sI q9.2 280 0 (((q9.2).1 280 0) + 1)) 288 ((q9.2).1 280 0).toNatClampNeg ((sI q9.2 280 0 (((q9.2).1 280 0) + 1)).1 280 31)).1 280 32)).1 280 33)).1 280 34)).1 280 35)).1 280 36)) 294 ((q9.2).1 280 0).toNatClampNeg ((sI (sI (sI (sI (sI (sI (sI q9.2 280 0 (((q9.2).1 280 0) + 1)) 288 ((q9.2).1 280 0).toNatClampNeg ((sI q9.2 280 0 (((q9.2).1 280 0) + 1)).1 280 31)) 289 ((q9.2).1 280 0).toNatClampNeg ((sI (sI q9.2 280 0 (((q9.2).1 280 0) + 1)) 288 ((q9.2).1 280 0).toNatClampNeg ((sI q9.2 280 0 (((q9.2).1 280 0) + 1)).1 280 31)).1 280 32)) 290 ((q9.2).1 280 0).toNatClampNeg ((sI (sI (sI q9.2 280 0 (((q9.2).1 280 0) + 1)) 288 ((q9.2).1 280 0).toNatClampNeg ((sI q9.2 280 0 (((q9.2).1 280 0) + 1)).1 280 31)) 289 ((q9.2).1 280 0).toNatClampNeg ((sI (sI q9.2 280 0 (((q9.2).1 280 0) + 1)) 288 ((q9.2).1 280 0).toNatClampNeg ((sI q9.2 280 0 (((q9.2).1 280 0) + 1)).1 280 31)).1 280 32)).1 280 33)) 291 ((q9.2).1 280 0).toNatClampNeg ((sI (sI (sI (sI q9.2 280 0 (((q9.2).1 280 0) + 1)) 288 ((q9.2).1 280 0).toNatClampNeg ((sI q9.2 280 0 (((q9.2).1 280 0) + 1)).1 280 31)) 289 ((q9.2).1 280 0).toNatClampNeg ((sI (sI q9.2 280 0 (((q9.2).1 280 0) + 1)) 288 ((q9.2).1 280 0).toNatClampNeg ((sI q9.2 280 0 (((q9.2).1 280 0) + 1)).1 280 31)).1 280 32)) 290 ((q9.2).1 280 0).toNatClampNeg ((sI (sI (sI q9.2 280 0 (((q9.2).1 280 0) + 1)) 288 ((q9.2).1 280 0).toNatClampNeg ((sI q9.2 280 0 (((q9.2).1 280 0) + 1)).1 280 31)) 289 ((q9.2).1 280 0).toNatClampNeg ((sI (sI q9.2 280 0 (((q9.2).1 280 0) + 1)) 288 ((q9.2).1 280 0).toNatClampNeg ((sI q9.2 280 0 (((q9.2).1 280 0) + 1)).1 280 31)).1 280 32)).1 280 33)).1 280 34)) 292 ((q9.2).1 280 0).toNatClampNeg ((sI (sI (sI (sI (sI q9.2 280 0 (((q9.2).1 280 0) + 1)) 288 ((q9.2).1 280 0).toNatClampNeg ((sI q9.2 280 0 (((q9.2).1 280 0) + 1)).1 280 31)) 289 ((q9.2).1 280 0).toNatClampNeg ((sI (sI q9.2 280 0 (((q9.2).1 280 0) + 1)) 288 ((q9.2).1 280 0).toNatClampNeg ((sI q9.2 280 0 (((q9.2).1 280 0) + 1)).1 280 31)).1 280 32)) 290 ((q9.2).1 280 0).toNatClampNeg ((sI (sI (sI q9.2 280 0 (((q9.2).1 280 0) + 1)) 288 ((q9.2).1 280 0).toNatClampNeg ((sI q9.2 280 0 (((q9.2).1 280 0) + 1)).1 280 31)) 289 ((q9.2).1 280 0).toNatClampNeg ((sI (sI q9.2 280 0 (((q9.2).1 280 0) + 1)) 288 ((q9.2).1 280 0).toNatClampNeg ((sI q9.2 280 0 (((q9.2).1 280 0) + 1)).1 280 31)).1 280 32)).1 280 33)) 291 ((q9.2).1 280 0).toNatClampNeg ((sI (sI (sI (sI q9.2 280 0 (((q9.2).1 280 0) + 1)) 288 ((q9.2).1 280 0).toNatClampNeg ((sI q9.2 280 0 (((q9.2).1 280 0) + 1)).1 280 31)) 289 ((q9.2).1 280 0).toNatClampNeg ((sI (sI q9.2 280 0 (((q9.2).1 280 0) + 1)) 288 ((q9.2).1 280 0).toNatClampNeg ((sI q9.2 280 0 (((q9.2).1 280 0) + 1)).1 280 31)).1 280 32)) 290 ((q9.2).1 280 0).toNatClampNeg ((sI (sI (sI q9.2 280 0 (((q9.2).1 280 0) + 1)) 288 ((q9.2).1 280 0).toNatClampNeg ((sI q9.2 280 0 (((q9.2).1 280 0) + 1)).1 280 31)) 289 ((q9.2).1 280 0).toNatClampNeg ((sI (sI q9.2 280 0 (((q9.2).1 280 0) + 1)) 288 ((q9.2).1 280 0).toNatClampNeg ((sI q9.2 280 0 (((q9.2).1 280 0) + 1)).1 280 31)).1 280 32)).1 280 33)).1 280 34)).1 280 35)) 293 ((q9.2).1 280 0).toNatClampNeg ((sI (sI (sI (sI (sI (sI q9.2 280 0 (((q9.2).1 280 0) + 1)) 288 ((q9.2).1 280 0).toNatClampNeg ((sI q9.2 280 0 (((q9.2).1 280 0) + 1)).1 280 31)) 289 ((q9.2).1 280 0).toNatClampNeg ((sI (sI q9.2 280 0 (((q9.2).1 280 0) + 1)) 288 ((q9.2).1 280 0).toNatClampNeg ((sI q9.2 280 0 (((q9.2).1 280 0) + 1)).1 280 31)).1 280 32)) 290 ((q9.2).1 280 0).toNatClampNeg ((sI (sI (sI q9.2 280 0 (((q9.2).1 280 0) + 1)) 288 ((q9.2).1 280 0).toNatClampNeg ((sI q9.2 280 0 (((q9.2).1 280 0) + 1)).1 280 31)) 289 ((q9.2).1 280 0).toNatClampNeg ((sI (sI q9.2 280 0 (((q9.2).1 280 0) + 1)) 288 ((q9.2).1 280 0).toNatClampNeg ((sI q9.2 280 0 (((q9.2).1 280 0) + 1)).1 280 31)).1 280 32)).1 280 33)) 291 ((q9.2).1 280 0).toNatClampNeg ((sI (sI (sI (sI q9.2 280 0 (((q9.2).1 280 0) + 1)) 288 ((q9.2).1 280 0).toNatClampNeg ((sI q9.2 280 0 (((q9.2).1 280 0) + 1)).1 280 31)) 289 ((q9.2).1 280 0).toNatClampNeg ((sI (sI q9.2 280 0 (((q9.2).1 280 0) + 1)) 288 ((q9.2).1 280 0).toNatClampNeg ((sI q9.2 280 0 (((q9.2).1 280 0) + 1)).1 280 31)).1 280 32)) 290 ((q9.2).1 280 0).toNatClampNeg ((sI (sI (sI q9.2 280 0 (((q9.2).1 280 0) + 1)) 288 ((q9.2).1 280 0).toNatClampNeg ((sI q9.2 280 0 (((q9.2).1 280 0) + 1)).1 280 31)) 289 ((q9.2).1 280 0).toNatClampNeg ((sI (sI q9.2 280 0 (((q9.2).1 280 0) + 1)) 288 ((q9.2).1 280 0).toNatClampNeg ((sI q9.2 280 0 (((q9.2).1 280 0) + 1)).1 280 31)).1 280 32)).1 280 33)).1 280 34)) 292 ((q9.2).1 280 0).toNatClampNeg ((sI (sI (sI (sI (sI q9.2 280 0 (((q9.2).1 280 0) + 1)) 288 ((q9.2).1 280 0).toNatClampNeg ((sI q9.2 280 0 (((q9.2).1 280 0) + 1)).1 280 31)) 289 ((q9.2).1 280 0).toNatClampNeg ((sI (sI q9.2 280 0 (((q9.2).1 280 0) + 1)) 288 ((q9.2).1 280 0).toNatClampNeg ((sI q9.2 280 0 (((q9.2).1 280 0) + 1)).1 280 31)).1 280 32)) 290 ((q9.2).1 280 0).toNatClampNeg ((sI (sI (sI q9.2 280 0 (((q9.2).1 280 0) + 1)) 288 ((q9.2).1 280 0).toNatClampNeg ((sI q9.2 280 0 (((q9.2).1 280 0) + 1)).1 280 31)) 289 ((q9.2).1 280 0).toNatClampNeg ((sI (sI q9.2 280 0 (((q9.2).1 280 0) + 1)) 288 ((q9.2).1 280 0).toNatClampNeg ((sI q9.2 280 0 (((q9.2).1 280 0) + 1)).1 280 31)).1 280 32)).1 280 33)) 291 ((q9.2).1 280 0).toNatClampNeg ((sI (sI (sI (sI q9.2 280 0 (((q9.2).1 280 0) + 1)) 288 ((q9.2).1 280 0).toNatClampNeg ((sI q9.2 280 0 (((q9.2).1 280 0) + 1)).1 280 31)) 289 ((q9.2).1 280 0).toNatClampNeg ((sI (sI q9.2 280 0 (((q9.2).1 280 0) + 1)) 288 ((q9.2).1 280 0).toNatClampNeg ((sI q9.2 280 0 (((q9.2).1 280 0) + 1)).1 280 31)).1 280 32)) 290 ((q9.2).1 280 0).toNatClampNeg ((sI (sI (sI q9.2 280 0 (((q9.2).1 280 0) + 1)) 288 ((q9.2).1 280 0).toNatClampNeg ((sI q9.2 280 0 (((q9.2).1 280 0) + 1)).1 280 31)) 289 ((q9.2).1 280 0).toNatClampNeg ((sI (sI q9.2 280 0 (((q9.2).1 280 0) + 1)) 288 ((q9.2).1 280 0).toNatClampNeg ((sI q9.2 280 0 (((q9.2).1 280 0) + 1)).1 280 31)).1 280 32)).1 280 33)).1 280 34)).1 280 35)).1 280 36)).1 280 37)) 295 ((q9.2).1 280 0).toNatClampNeg ((sI (sI (sI (sI (sI (sI (sI (sI q9.2 280 0 (((q9.2).1 280 0) + 1)) 288 ((q9.2).1 280 0).toNatClampNeg ((sI q9.2 280 0 (((q9.2).1 280 0) + 1)).1 280 31)) 289 ((q9.2).1 280 0).toNatClampNeg ((sI (sI q9.2 280 0 (((q9.2).1 280 0) + 1)) 288 ((q9.2).1 280 0).toNatClampNeg ((sI q9.2 280 0 (((q9.2).1 280 0) + 1)).1 280 31)).1 280 32)) 290 ((q9.2).1 280 0).toNatClampNeg ((sI (sI (sI q9.2 280 0 (((q9.2).1 280 0) + 1)) 288 ((q9.2).1 280 0).toNatClampNeg ((sI q9.2 280 0 (((q9.2).1 280 0) + 1)).1 280 31)) 289 ((q9.2).1 280 0).toNatClampNeg ((sI (sI q9.2 280 0 (((q9.2).1 280 0) + 1)) 288 ((q9.2).1 280 0).toNatClampNeg ((sI q9.2 280 0 (((q9.2).1 280 0) + 1)).1 280 31)).1 280 32)).1 280 33)) 291 ((q9.2).1 280 0).toNatClampNeg ((sI (sI (sI (sI q9.2 280 0 (((q9.2).1 280 0) + 1)) 288 ((q9.2).1 280 0).toNatClampNeg ((sI q9.2 280 0 (((q9.2).1 280 0) + 1)).1 280 31)) 289 ((q9.2).1 280 0).toNatClampNeg ((sI (sI q9.2 280 0 (((q9.2).1 280 0) + 1)) 288 ((q9.2).1 280 0).toNatClampNeg ((sI q9.2 280 0 (((q9.2).1 280 0) + 1)).1 280 31)).1 280 32)) 290 ((q9.2).1 280 0).toNatClampNeg ((sI (sI (sI q9.2 280 0 (((q9.2).1 280 0) + 1)) 288 ((q9.2).1 280 0).toNatClampNeg ((sI q9.2 280 0 (((q9.2).1 280 0) + 1)).1 280 31)) 289 ((q9.2).1 280 0).toNatClampNeg ((sI (sI q9.2 280 0 (((q9.2).1 280 0) + 1)) 288 ((q9.2).1 280 0).toNatClampNeg ((sI q9.2 280 0 (((q9.2).1 280 0) + 1)).1 280 31)).1 280 32)).1 280 33)).1 280 34)) 292 ((q9.2).1 280 0).toNatClampNeg ((sI (sI (sI (sI (sI q9.2 280 0 (((q9.2).1 280 0) + 1)) 288 ((q9.2).1 280 0).toNatClampNeg ((sI q9.2 280 0 (((q9.2).1 280 0) + 1)).1 280 31)) 289 ((q9.2).1 280 0).toNatClampNeg ((sI (sI q9.2 280 0 (((q9.2).1 280 0) + 1)) 288 ((q9.2).1 280 0).toNatClampNeg ((sI q9.2 280 0 (((q9.2).1 280 0) + 1)).1 280 31)).1 280 32)) 290 ((q9.2).1 280 0).toNatClampNeg ((sI (sI (sI q9.2 280 0 (((q9.2).1 280 0) + 1)) 288 ((q9.2).1 280 0).toNatClampNeg ((sI q9.2 280 0 (((q9.2).1 280 0) + 1)).1 280 31)) 289 ((q9.2).1 280 0).toNatClampNeg ((sI (sI q9.2 280 0 (((q9.2).1 280 0) + 1)) 288 ((q9.2).1 280 0).toNatClampNeg ((sI q9.2 280 0 (((q9.2).1 280 0) + 1)).1 280 31)).1 280 32)).1 280 33)) 291 ((q9.2).1 280 0).toNatClampNeg ((sI (sI (sI (sI q9.2 280 0 (((q9.2).1 280 0) + 1)) 288 ((q9.2).1 280 0).toNatClampNeg ((sI q9.2 280 0 (((q9.2).1 280 0) + 1)).1 280 31)) 289 ((q9.2).1 280 0).toNatClampNeg ((sI (sI q9.2 280 0 (((q9.2).1 280 0) + 1)) 288 ((q9.2).1 280 0).toNatClampNeg ((sI q9.2 280 0 (((q9.2).1 280 0) + 1)).1 280 31)).1 280 32)) 290 ((q9.2).1 280 0).toNatClampNeg ((sI (sI (sI q9.2 280 0 (((q9.2).1 280 0) + 1)) 288 ((q9.2).1 280 0).toNatClampNeg ((sI q9.2 280 0 (((q9.2).1 280 0) + 1)).1 280 31)) 289 ((q9.2).1 280 0).toNatClampNeg ((sI (sI q9.2 280 0 (((q9.2).1 280 0) + 1)) 288 ((q9.2).1 280 0).toNatClampNeg ((sI q9.2 280 0 (((q9.2).1 280 0) + 1)).1 280 31)).1 280 32)).1 280 33)).1 280 34)).1 280 35)) 293 ((q9.2).1 280 0).toNatClampNeg ((sI (sI (sI (sI (sI (sI q9.2 280 0 (((q9.2).1 280 0) + 1)) 288 ((q9.2).1 280 0).toNatClampNeg ((sI q9.2 280 0 (((q9.2).1 280 0) + 1)).1 280 31)) 289 ((q9.2).1 280 0).toNatClampNeg ((sI (sI q9.2 280 0 (((q9.2).1 280 0) + 1)) 288 ((q9.2).1 280 0).toNatClampNeg ((sI q9.2 280 0 (((q9.2).1 280 0) + 1)).1 280 31)).1 280 32)) 290 ((q9.2).1 280 0).toNatClampNeg ((sI (sI (sI q9.2 280 0 (((q9.2).1 280 0) + 1)) 288 ((q9.2).1 280 0).toNatClampNeg ((sI q9.2 280 0 (((q9.2).1 280 0) + 1)).1 280 31)) 289 ((q9.2).1 280 0).toNatClampNeg ((sI (sI q9.2 280 0 (((q9.2).1 280 0) + 1)) 288 ((q9.2).1 280 0).toNatClampNeg ((sI q9.2 280 0 (((q9.2).1 280 0) + 1)).1 280 31)).1 280 32)).1 280 33)) 291 ((q9.2).1 280 0).toNatClampNeg ((sI (sI (sI (sI q9.2 280 0 (((q9.2).1 280 0) + 1)) 288 ((q9.2).1 280 0).toNatClampNeg ((sI q9.2 280 0 (((q9.2).1 280 0) + 1)).1 280 31)) 289 ((q9.2).1 280 0).toNatClampNeg ((sI (sI q9.2 280 0 (((q9.2).1 280 0) + 1)) 288 ((q9.2).1 280 0).toNatClampNeg ((sI q9.2 280 0 (((q9.2).1 280 0) + 1)).1 280 31)).1 280 32)) 290 ((q9.2).1 280 0).toNatClampNeg ((sI (sI (sI q9.2 280 0 (((q9.2).1 280 0) + 1)) 288 ((q9.2).1 280 0).toNatClampNeg ((sI q9.2 280 0 (((q9.2).1 280 0) + 1)).1 280 31)) 289 ((q9.2).1 280 0).toNatClampNeg ((sI (sI q9.2 280 0 (((q9.2).1 280 0) + 1)) 288 ((q9.2).1 280 0).toNatClampNeg ((sI q9.2 280 0 (((q9.2).1 280 0) + 1)).1 280 31)).1 280 32)).1 280 33)).1 280 34)) 292 ((q9.2).1 280 0).toNatClampNeg ((sI (sI (sI (sI (sI q9.2 280 0 (((q9.2).1 280 0) + 1)) 288 ((q9.2).1 280 0).toNatClampNeg ((sI q9.2 280 0 (((q9.2).1 280 0) + 1)).1 280 31)) 289 ((q9.2).1 280 0).toNatClampNeg ((sI (sI q9.2 280 0 (((q9.2).1 280 0) + 1)) 288 ((q9.2).1 280 0).toNatClampNeg ((sI q9.2 280 0 (((q9.2).1 280 0) + 1)).1 280 31)).1 280 32)) 290 ((q9.2).1 280 0).toNatClampNeg ((sI (sI (sI q9.2 280 0 (((q9.2).1 280 0) + 1)) 288 ((q9.2).1 280 0).toNatClampNeg ((sI q9.2 280 0 (((q9.2).1 280 0) + 1)).1 280 31)) 289 ((q9.2).1 280 0).toNatClampNeg ((sI (sI q9.2 280 0 (((q9.2).1 280 0) + 1)) 288 ((q9.2).1 280 0).toNatClampNeg ((sI q9.2 280 0 (((q9.2).1 280 0) + 1)).1 280 31)).1 280 32)).1 280 33)) 291 ((q9.2).1 280 0).toNatClampNeg ((sI (sI (sI (sI q9.2 280 0 (((q9.2).1 280 0) + 1)) 288 ((q9.2).1 280 0).toNatClampNeg ((sI q9.2 280 0 (((q9.2).1 280 0) + 1)).1 280 31)) 289 ((q9.2).1 280 0).toNatClampNeg ((sI (sI q9.2 280 0 (((q9.2).1 280 0) + 1)) 288 ((q9.2).1 280 0).toNatClampNeg ((sI q9.2 280 0 (((q9.2).1 280 0) + 1)).1 280 31)).1 280 32)) 290 ((q9.2).1 280 0).toNatClampNeg ((sI (sI (sI q9.2 280 0 (((q9.2).1 280 0) + 1)) 288 ((q9.2).1 280 0).toNatClampNeg ((sI q9.2 280 0 (((q9.2).1 280 0) + 1)).1 280 31)) 289 ((q9.2).1 280 0).toNatClampNeg ((sI (sI q9.2 280 0 (((q9.2).1 280 0) + 1)) 288 ((q9.2).1 280 0).toNatClampNeg ((sI q9.2 280 0 (((q9.2).1 280 0) + 1)).1 280 31)).1 280 32)).1 280 33)).1 280 34)).1 280 35)).1 280 36)) 294 ((q9.2).1 280 0).toNatClampNeg ((sI (sI (sI (sI (sI (sI (sI q9.2 280 0 (((q9.2).1 280 0) + 1)) 288 ((q9.2).1 280 0).toNatClampNeg ((sI q9.2 280 0 (((q9.2).1 280 0) + 1)).1 280 31)) 289 ((q9.2).1 280 0).toNatClampNeg ((sI (sI q9.2 280 0 (((q9.2).1 280 0) + 1)) 288 ((q9.2).1 280 0).toNatClampNeg ((sI q9.2 280 0 (((q9.2).1 280 0) + 1)).1 280 31)).1 280 32)) 290 ((q9.2).1 280 0).toNatClampNeg ((sI (sI (sI q9.2 280 0 (((q9.2).1 280 0) + 1)) 288 ((q9.2).1 280 0).toNatClampNeg ((sI q9.2 280 0 (((q9.2).1 280 0) + 1)).1 280 31)) 289 ((q9.2).1 280 0).toNatClampNeg ((sI (sI q9.2 280 0 (((q9.2).1 280 0) + 1)) 288 ((q9.2).1 280 0).toNatClampNeg ((sI q9.2 280 0 (((q9.2).1 280 0) + 1)).1 280 31)).1 280 32)).1 280 33)) 291 ((q9.2).1 280 0).toNatClampNeg ((sI (sI (sI (sI q9.2 280 0 (((q9.2).1 280 0) + 1)) 288 ((q9.2).1 280 0).toNatClampNeg ((sI q9.2 280 0 (((q9.2).1 280 0) + 1)).1 280 31)) 289 ((q9.2).1 280 0).toNatClampNeg ((sI (sI q9.2 280 0 (((q9.2).1 280 0) + 1)) 288 ((q9.2).1 280 0).toNatClampNeg ((sI q9.2 280 0 (((q9.2).1 280 0) + 1)).1 280 31)).1 280 32)) 290 ((q9.2).1 280 0).toNatClampNeg ((sI (sI (sI q9.2 280 0 (((q9.2).1 280 0) + 1)) 288 ((q9.2).1 280 0).toNatClampNeg ((sI q9.2 280 0 (((q9.2).1 280 0) + 1)).1 280 31)) 289 ((q9.2).1 280 0).toNatClampNeg ((sI (sI q9.2 280 0 (((q9.2).1 280 0) + 1)) 288 ((q9.2).1 280 0).toNatClampNeg ((sI q9.2 280 0 (((q9.2).1 280 0) + 1)).1 280 31)).1 280 32)).1 280 33)).1 280 34)) 292 ((q9.2).1 280 0).toNatClampNeg ((sI (sI (sI (sI (sI q9.2 280 0 (((q9.2).1 280 0) + 1)) 288 ((q9.2).1 280 0).toNatClampNeg ((sI q9.2 280 0 (((q9.2).1 280 0) + 1)).1 280 31)) 289 ((q9.2).1 280 0).toNatClampNeg ((sI (sI q9.2 280 0 (((q9.2).1 280 0) + 1)) 288 ((q9.2).1 280 0).toNatClampNeg ((sI q9.2 280 0 (((q9.2).1 280 0) + 1)).1 280 31)).1 280 32)) 290 ((q9.2).1 280 0).toNatClampNeg ((sI (sI (sI q9.2 280 0 (((q9.2).1 280 0) + 1)) 288 ((q9.2).1 280 0).toNatClampNeg ((sI q9.2 280 0 (((q9.2).1 280 0) + 1)).1 280 31)) 289 ((q9.2).1 280 0).toNatClampNeg ((sI (sI q9.2 280 0 (((q9.2).1 280 0) + 1)) 288 ((q9.2).1 280 0).toNatClampNeg ((sI q9.2 280 0 (((q9.2).1 280 0) + 1)).1 280 31)).1 280 32)).1 280 33)) 291 ((q9.2).1 280 0).toNatClampNeg ((sI (sI (sI (sI q9.2 280 0 (((q9.2).1 280 0) + 1)) 288 ((q9.2).1 280 0).toNatClampNeg ((sI q9.2 280 0 (((q9.2).1 280 0) + 1)).1 280 31)) 289 ((q9.2).1 280 0).toNatClampNeg ((sI (sI q9.2 280 0 (((q9.2).1 280 0) + 1)) 288 ((q9.2).1 280 0).toNatClampNeg ((sI q9.2 280 0 (((q9.2).1 280 0) + 1)).1 280 31)).1 280 32)) 290 ((q9.2).1 280 0).toNatClampNeg ((sI (sI (sI q9.2 280 0 (((q9.2).1 280 0) + 1)) 288 ((q9.2).1 280 0).toNatClampNeg ((sI q9.2 280 0 (((q9.2).1 280 0) + 1)).1 280 31)) 289 ((q9.2).1 280 0).toNatClampNeg ((sI (sI q9.2 280 0 (((q9.2).1 280 0) + 1)) 288 ((q9.2).1 280 0).toNatClampNeg ((sI q9.2 280 0 (((q9.2).1 280 0) + 1)).1 280 31)).1 280 32)).1 280 33)).1 280 34)).1 280 35)) 293 ((q9.2).1 280 0).toNatClampNeg ((sI (sI (sI (sI (sI (sI q9.2 280 0 (((q9.2).1 280 0) + 1)) 288 ((q9.2).1 280 0).toNatClampNeg ((sI q9.2 280 0 (((q9.2).1 280 0) + 1)).1 280 31)) 289 ((q9.2).1 280 0).toNatClampNeg ((sI (sI q9.2 280 0 (((q9.2).1 280 0) + 1)) 288 ((q9.2).1 280 0).toNatClampNeg ((sI q9.2 280 0 (((q9.2).1 280 0) + 1)).1 280 31)).1 280 32)) 290 ((q9.2).1 280 0).toNatClampNeg ((sI (sI (sI q9.2 280 0 (((q9.2).1 280 0) + 1)) 288 ((q9.2).1 280 0).toNatClampNeg ((sI q9.2 280 0 (((q9.2).1 280 0) + 1)).1 280 31)) 289 ((q9.2).1 280 0).toNatClampNeg ((sI (sI q9.2 280 0 (((q9.2).1 280 0) + 1)) 288 ((q9.2).1 280 0).toNatClampNeg ((sI q9.2 280 0 (((q9.2).1 280 0) + 1)).1 280 31)).1 280 32)).1 280 33)) 291 ((q9.2).1 280 0).toNatClampNeg ((sI (sI (sI (sI q9.2 280 0 (((q9.2).1 280 0) + 1)) 288 ((q9.2).1 280 0).toNatClampNeg ((sI q9.2 280 0 (((q9.2).1 280 0) + 1)).1 280 31)) 289 ((q9.2).1 280 0).toNatClampNeg ((sI (sI q9.2 280 0 (((q9.2).1 280 0) + 1)) 288 ((q9.2).1 280 0).toNatClampNeg ((sI q9.2 280 0 (((q9.2).1 280 0) + 1)).1 280 31)).1 280 32)) 290 ((q9.2).1 280 0).toNatClampNeg ((sI (sI (sI q9.2 280 0 (((q9.2).1 280 0) + 1)) 288 ((q9.2).1 280 0).toNatClampNeg ((sI q9.2 280 0 (((q9.2).1 280 0) + 1)).1 280 31)) 289 ((q9.2).1 280 0).toNatClampNeg ((sI (sI q9.2 280 0 (((q9.2).1 280 0) + 1)) 288 ((q9.2).1 280 0).toNatClampNeg ((sI q9.2 280 0 (((q9.2).1 280 0) + 1)).1 280 31)).1 280 32)).1 280 33)).1 280 34)) 292 ((q9.2).1 280 0).toNatClampNeg ((sI (sI (sI (sI (sI q9.2 280 0 (((q9.2).1 280 0) + 1)) 288 ((q9.2).1 280 0).toNatClampNeg ((sI q9.2 280 0 (((q9.2).1 280 0) + 1)).1 280 31)) 289 ((q9.2).1 280 0).toNatClampNeg ((sI (sI q9.2 280 0 (((q9.2).1 280 0) + 1)) 288 ((q9.2).1 280 0).toNatClampNeg ((sI q9.2 280 0 (((q9.2).1 280 0) + 1)).1 280 31)).1 280 32)) 290 ((q9.2).1 280 0).toNatClampNeg ((sI (sI (sI q9.2 280 0 (((q9.2).1 280 0) + 1)) 288 ((q9.2).1 280 0).toNatClampNeg ((sI q9.2 280 0 (((q9.2).1 280 0) + 1)).1 280 31)) 289 ((q9.2).1 280 0).toNatClampNeg ((sI (sI q9.2 280 0 (((q9.2).1 280 0) + 1)) 288 ((q9.2).1 280 0).toNatClampNeg ((sI q9.2 280 0 (((q9.2).1 280 0) + 1)).1 280 31)).1 280 32)).1 280 33)) 291 ((q9.2).1 280 0).toNatClampNeg ((sI (sI (sI (sI q9.2 280 0 (((q9.2).1 280 0) + 1)) 288 ((q9.2).1 280 0).toNatClampNeg ((sI q9.2 280 0 (((q9.2).1 280 0) + 1)).1 280 31)) 289 ((q9.2).1 280 0).toNatClampNeg ((sI (sI q9.2 280 0 (((q9.2).1 280 0) + 1)) 288 ((q9.2).1 280 0).toNatClampNeg ((sI q9.2 280 0 (((q9.2).1 280 0) + 1)).1 280 31)).1 280 32)) 290 ((q9.2).1 280 0).toNatClampNeg ((sI (sI (sI q9.2 280 0 (((q9.2).1 280 0) + 1)) 288 ((q9.2).1 280 0).toNatClampNeg ((sI q9.2 280 0 (((q9.2).1 280 0) + 1)).1 280 31)) 289 ((q9.2).1 280 0).toNatClampNeg ((sI (sI q9.2 280 0 (((q9.2).1 280 0) + 1)) 288 ((q9.2).1 280 0).toNatClampNeg ((sI q9.2 280 0 (((q9.2).1 280 0) + 1)).1 280 31)).1 280 32)).1 280 33)).1 280 34)).1 280 35)).1 280 36)).1 280 37)).1 280 38))
        else none
        else none
        else none
        else none
        else none
        else none
        else none
        else none
    else none
  else
    Option.bind (f_174 q6 U) fun q23 =>
    some (q23.1, q23.2)
set_option maxRecDepth 10000 in
set_option maxHeartbeats 2000000 in
theorem F_204 (d : Nat) (x1 : Int32) {U : sU} {r : Int32} {U' : sU} (h : f_204 x1 U = some (r, U')) : Rn (d + 8) sm_I204 [.ref 280, .int x1] U (some (.int r)) U' := by
  refine Rn_of [(0, .ref 280), (1, .int x1)] (Nat.le_of_ble_eq_true rfl) (Sc rfl (Sc rfl (Sn _))) ?_
  first | rw [f_204] at h | rw [f_204.eq_def] at h
  refine g_aload_n 1 rfl rfl rfl ?_
  refine g_iload_n 2 rfl rfl rfl ?_
  obtain ⟨q6, hq6, h⟩ := Option.bind_eq_some_iff.mp h
  refine g_callV (J := sm_I189) 5 rfl (Nat.le_of_ble_eq_true rfl) rfl rfl (Nat.le_of_ble_eq_true rfl) s_280 (Nat.le_of_ble_eq_true rfl) (Nat.le_of_ble_eq_true rfl) rfl rfl (F_189 (d + 6) x1 hq6) ?_
  refine g_istore_n 6 [(2, .int q6), (0, .ref 280), (1, .int x1)] rfl (Nat.le_of_ble_eq_true rfl) rfl rfl ?_
  refine g_iload_n 7 rfl rfl rfl ?_
  refine g_if_eq 16 10 rfl rfl (fun c7 => ?_) (fun c7 => ?_)
  · rw [if_pos c7] at h
    refine g_aload_n 17 rfl rfl rfl ?_
    refine g_bipush (v := 64) 19 rfl (by decide) rfl ?_
    refine g_iload_n 20 rfl rfl rfl ?_
    refine g_imul 21 rfl rfl ?_
    refine g_putI 24 rfl s_280 (Nat.le_of_ble_eq_true rfl) (Nat.le_of_ble_eq_true rfl) rfl fs_10_25 rfl ?_
    refine g_aload_n 25 rfl rfl rfl ?_
    refine g_iconst (v := 0) 26 rfl rfl rfl ?_
    refine g_putI 29 rfl s_280 (Nat.le_of_ble_eq_true rfl) (Nat.le_of_ble_eq_true rfl) rfl fs_10_26 rfl ?_
    refine g_aload_n 30 rfl rfl rfl ?_
    refine g_aload_n 31 rfl rfl rfl ?_
    refine g_get 34 rfl s_280 (Nat.le_of_ble_eq_true rfl) rfl rfl ?_
    refine g_iload_n 35 rfl rfl rfl ?_
    by_cases i8 : ib x1 8
    case neg => rw [if_neg i8] at h; cases h
    rw [if_pos i8] at h
    refine g_iald 36 rfl s_284 l_284 i8 rfl ?_
    refine g_putI 39 rfl s_280 (Nat.le_of_ble_eq_true rfl) (Nat.le_of_ble_eq_true rfl) rfl fs_10_27 rfl ?_
    refine g_aload_n 40 rfl rfl rfl ?_
    refine g_iconst (v := (-1)) 41 rfl rfl rfl ?_
    refine g_putI 44 rfl s_280 (Nat.le_of_ble_eq_true rfl) (Nat.le_of_ble_eq_true rfl) rfl fs_10_2 rfl ?_
    refine g_aload_n 45 rfl rfl rfl ?_
    obtain ⟨q9, hq9, h⟩ := Option.bind_eq_some_iff.mp h
    have r10 := (F_203 d  hq9)
    refine g_callV (J := sm_I203) 48 rfl (Nat.le_of_ble_eq_true rfl) rfl rfl (Nat.le_of_ble_eq_true rfl) s_280 (Nat.le_of_ble_eq_true rfl) (Nat.le_of_ble_eq_true rfl) rfl rfl r10 ?_
    refine g_if_ne 66 51 rfl rfl (fun c11 => ?_) (fun c11 => ?_)
    · rw [if_neg c11] at h
      refine g_aload_n 67 rfl rfl rfl ?_
      refine g_get 70 rfl s_280 (Nat.le_of_ble_eq_true rfl) rfl rfl ?_
      refine g_bipush (v := 8) 72 rfl (by decide) rfl ?_
      refine g_icmp_ne 82 75 rfl rfl (fun c12 => ?_) (fun c12 => ?_)
      · rw [if_neg c12] at h
        refine g_aload_n 83 rfl rfl rfl ?_
        refine g_dup 84 rfl rfl rfl ?_
        refine g_get 87 rfl s_280 (Nat.le_of_ble_eq_true rfl) rfl rfl ?_
        refine g_dup_x1 88 rfl rfl rfl rfl ?_
        refine g_iconst (v := 1) 89 rfl rfl rfl ?_
        refine g_iadd 90 rfl rfl ?_
        refine g_putI 93 rfl s_280 (Nat.le_of_ble_eq_true rfl) (Nat.le_of_ble_eq_true rfl) rfl fs_10_0 rfl ?_
        refine g_istore_n 94 [(3, .int ((q9.2).1 280 0)), (2, .int q6), (0, .ref 280), (1, .int x1)] rfl (Nat.le_of_ble_eq_true rfl) rfl rfl ?_
        refine g_aload_n 95 rfl rfl rfl ?_
        refine g_get 98 rfl s_280 (Nat.le_of_ble_eq_true rfl) rfl rfl ?_
        refine g_iload_n 99 rfl rfl rfl ?_
        refine g_aload_n 100 rfl rfl rfl ?_
        refine g_get 103 rfl s_280 (Nat.le_of_ble_eq_true rfl) rfl rfl ?_
        by_cases i13 : ib ((q9.2).1 280 0) 8
        case neg => rw [if_neg i13] at h; cases h
        rw [if_pos i13] at h
        refine g_iast 104 rfl s_288 l_288 i13 rfl ?_
        refine g_aload_n 105 rfl rfl rfl ?_
        refine g_get 108 rfl s_280 (Nat.le_of_ble_eq_true rfl) rfl rfl ?_
        refine g_iload_n 109 rfl rfl rfl ?_
        refine g_aload_n 110 rfl rfl rfl ?_
        refine g_get 113 rfl s_280 (Nat.le_of_ble_eq_true rfl) rfl rfl ?_
        by_cases i14 : ib ((q9.2).1 280 0) 8
        case neg => rw [if_neg i14] at h; cases h
        rw [if_pos i14] at h
        refine g_iast 114 rfl s_289 l_289 i14 rfl ?_
        refine g_aload_n 115 rfl rfl rfl ?_
        refine g_get 118 rfl s_280 (Nat.le_of_ble_eq_true rfl) rfl rfl ?_
        refine g_iload_n 119 rfl rfl rfl ?_
        refine g_aload_n 120 rfl rfl rfl ?_
        refine g_get 123 rfl s_280 (Nat.le_of_ble_eq_true rfl) rfl rfl ?_
        by_cases i15 : ib ((q9.2).1 280 0) 8
        case neg => rw [if_neg i15] at h; cases h
        rw [if_pos i15] at h
        refine g_iast 124 rfl s_290 l_290 i15 rfl ?_
        refine g_aload_n 125 rfl rfl rfl ?_
        refine g_get 128 rfl s_280 (Nat.le_of_ble_eq_true rfl) rfl rfl ?_
        refine g_iload_n 129 rfl rfl rfl ?_
        refine g_aload_n 130 rfl rfl rfl ?_
        refine g_get 133 rfl s_280 (Nat.le_of_ble_eq_true rfl) rfl rfl ?_
        by_cases i16 : ib ((q9.2).1 280 0) 8
        case neg => rw [if_neg i16] at h; cases h
        rw [if_pos i16] at h
        refine g_iast 134 rfl s_291 l_291 i16 rfl ?_
        refine g_aload_n 135 rfl rfl rfl ?_
        refine g_get 138 rfl s_280 (Nat.le_of_ble_eq_true rfl) rfl rfl ?_
        refine g_iload_n 139 rfl rfl rfl ?_
        refine g_aload_n 140 rfl rfl rfl ?_
        refine g_get 143 rfl s_280 (Nat.le_of_ble_eq_true rfl) rfl rfl ?_
        by_cases i17 : ib ((q9.2).1 280 0) 8
        case neg => rw [if_neg i17] at h; cases h
        rw [if_pos i17] at h
        refine g_iast 144 rfl s_292 l_292 i17 rfl ?_
        refine g_aload_n 145 rfl rfl rfl ?_
        refine g_get 148 rfl s_280 (Nat.le_of_ble_eq_true rfl) rfl rfl ?_
        refine g_iload_n 149 rfl rfl rfl ?_
        refine g_aload_n 150 rfl rfl rfl ?_
        refine g_get 153 rfl s_280 (Nat.le_of_ble_eq_true rfl) rfl rfl ?_
        by_cases i18 : ib ((q9.2).1 280 0) 8
        case neg => rw [if_neg i18] at h; cases h
        rw [if_pos i18] at h
        refine g_iast 154 rfl s_293 l_293 i18 rfl ?_
        refine g_aload_n 155 rfl rfl rfl ?_
        refine g_get 158 rfl s_280 (Nat.le_of_ble_eq_true rfl) rfl rfl ?_
        refine g_iload_n 159 rfl rfl rfl ?_
        refine g_aload_n 160 rfl rfl rfl ?_
        refine g_get 163 rfl s_280 (Nat.le_of_ble_eq_true rfl) rfl rfl ?_
        by_cases i19 : ib ((q9.2).1 280 0) 8
        case neg => rw [if_neg i19] at h; cases h
        rw [if_pos i19] at h
        refine g_iast 164 rfl s_294 l_294 i19 rfl ?_
        refine g_aload_n 165 rfl rfl rfl ?_
        refine g_get 168 rfl s_280 (Nat.le_of_ble_eq_true rfl) rfl rfl ?_
        refine g_iload_n 169 rfl rfl rfl ?_
        refine g_aload_n 170 rfl rfl rfl ?_
        refine g_get 173 rfl s_280 (Nat.le_of_ble_eq_true rfl) rfl rfl ?_
        by_cases i20 : ib ((q9.2).1 280 0) 8
        case neg => rw [if_neg i20] at h; cases h
        rw [if_pos i20] at h
        refine g_iast 174 rfl s_295 l_295 i20 rfl ?_
        refine g_iconst (v := 0) 175 rfl rfl rfl ?_
        refine g_istore 177 [(4, .int 0), (3, .int ((q9.2).1 280 0)), (2, .int q6), (0, .ref 280), (1, .int x1)] rfl (Nat.le_of_ble_eq_true rfl) rfl rfl ?_
        exact g_sub (Sc rfl (Sc rfl (Sc rfl (Sn _)))) (F_204_177 d _ ((q9.2).1 280 0) 0 _ _ _ h)
      · rw [if_pos c12] at h
        refine g_aload_n 76 rfl rfl rfl ?_
        refine g_bipush (v := (-7)) 78 rfl (by decide) rfl ?_
        obtain ⟨q21, hq21, h⟩ := Option.bind_eq_some_iff.mp h
        refine g_callV (J := sm_I174) 81 rfl (Nat.le_of_ble_eq_true rfl) rfl rfl (Nat.le_of_ble_eq_true rfl) s_280 (Nat.le_of_ble_eq_true rfl) (Nat.le_of_ble_eq_true rfl) rfl rfl (F_174 (d + 7) ((-7)) hq21) ?_
        cases h
        exact g_iret rfl rfl
    · rw [if_pos c11] at h
      refine g_aload_n 52 rfl rfl rfl ?_
      refine g_aload_n 53 rfl rfl rfl ?_
      refine g_get 56 rfl s_280 (Nat.le_of_ble_eq_true rfl) rfl rfl ?_
      refine g_putI 59 rfl s_280 (Nat.le_of_ble_eq_true rfl) (Nat.le_of_ble_eq_true rfl) rfl fs_10_2 rfl ?_
      refine g_aload_n 60 rfl rfl rfl ?_
      refine g_bipush (v := (-6)) 62 rfl (by decide) rfl ?_
      obtain ⟨q22, hq22, h⟩ := Option.bind_eq_some_iff.mp h
      refine g_callV (J := sm_I174) 65 rfl (Nat.le_of_ble_eq_true rfl) rfl rfl (Nat.le_of_ble_eq_true rfl) s_280 (Nat.le_of_ble_eq_true rfl) (Nat.le_of_ble_eq_true rfl) rfl rfl (F_174 (d + 7) ((-6)) hq22) ?_
      cases h
      exact g_iret rfl rfl
  · rw [if_neg c7] at h
    refine g_aload_n 11 rfl rfl rfl ?_
    refine g_iload_n 12 rfl rfl rfl ?_
    obtain ⟨q23, hq23, h⟩ := Option.bind_eq_some_iff.mp h
    refine g_callV (J := sm_I174) 15 rfl (Nat.le_of_ble_eq_true rfl) rfl rfl (Nat.le_of_ble_eq_true rfl) s_280 (Nat.le_of_ble_eq_true rfl) (Nat.le_of_ble_eq_true rfl) rfl rfl (F_174 (d + 7) q6 hq23) ?_
    cases h
    exact g_iret rfl rfl

def f_205  (U : sU) : Int32 :=
  U.1 280 2
set_option maxRecDepth 10000 in
set_option maxHeartbeats 2000000 in
theorem F_205 (d : Nat)  (U : sU) : Rn (d + 0) sm_I205 [.ref 280] U (some (.int (f_205  U))) U := by
  refine Rn_of [(0, .ref 280)] (Nat.le_of_ble_eq_true rfl) (Sc rfl (Sn _)) ?_
  generalize h : f_205  U = r
  first | rw [f_205] at h | rw [f_205.eq_def] at h
  refine g_aload_n 1 rfl rfl rfl ?_
  refine g_get 4 rfl s_280 (Nat.le_of_ble_eq_true rfl) rfl rfl ?_
  subst h
  exact g_iret rfl rfl

def f_206 (x1 : Int32) (x2 : Int32) (U : sU) : Option (Int32 × sU) :=
  if (f_178 x1 U) = 0 then
    Option.bind (f_175 ((-5)) U) fun q3 =>
    some (q3.1, q3.2)
  else
    if x2 < 0 then
      Option.bind (f_175 ((-5)) U) fun q5 =>
      some (q5.1, q5.2)
    else
      if x2 ≤ 7 then
        if x2 = 0 then
          if ib x1 8 then
          some (U.1 288 x1.toNatClampNeg, U)
          else none
        else
        if x2 = 1 then
          if ib x1 8 then
          some (U.1 289 x1.toNatClampNeg, U)
          else none
        else
        if x2 = 2 then
          if ib x1 8 then
          some (U.1 290 x1.toNatClampNeg, U)
          else none
        else
        if x2 = 3 then
          if ib x1 8 then
          some (U.1 291 x1.toNatClampNeg, U)
          else none
        else
        if x2 = 4 then
          if ib x1 8 then
          some (U.1 292 x1.toNatClampNeg, U)
          else none
        else
        if x2 = 5 then
          if ib x1 8 then
          some (U.1 293 x1.toNatClampNeg, U)
          else none
        else
        if x2 = 6 then
          if ib x1 8 then
          some (U.1 294 x1.toNatClampNeg, U)
          else none
        else
        if ib x1 8 then
        some (U.1 295 x1.toNatClampNeg, U)
        else none
      else
        Option.bind (f_175 ((-5)) U) fun q22 =>
        some (q22.1, q22.2)
set_option maxRecDepth 10000 in
set_option maxHeartbeats 2000000 in
theorem F_206 (d : Nat) (x1 : Int32) (x2 : Int32) {U : sU} {r : Int32} {U' : sU} (h : f_206 x1 x2 U = some (r, U')) : Rn (d + 1) sm_I206 [.ref 280, .int x1, .int x2] U (some (.int r)) U' := by
  refine Rn_of [(0, .ref 280), (1, .int x1), (2, .int x2)] (Nat.le_of_ble_eq_true rfl) (Sc rfl (Sc rfl (Sc rfl (Sn _)))) ?_
  first | rw [f_206] at h | rw [f_206.eq_def] at h
  refine g_aload_n 1 rfl rfl rfl ?_
  refine g_iload_n 2 rfl rfl rfl ?_
  have r1 := F_178 d x1 U
  refine g_callV (J := sm_I178) 5 rfl (Nat.le_of_ble_eq_true rfl) rfl rfl (Nat.le_of_ble_eq_true rfl) s_280 (Nat.le_of_ble_eq_true rfl) (Nat.le_of_ble_eq_true rfl) rfl rfl r1 ?_
  refine g_if_eq 18 8 rfl rfl (fun c2 => ?_) (fun c2 => ?_)
  · rw [if_pos c2] at h
    refine g_aload_n 19 rfl rfl rfl ?_
    refine g_bipush (v := (-5)) 21 rfl (by decide) rfl ?_
    obtain ⟨q3, hq3, h⟩ := Option.bind_eq_some_iff.mp h
    refine g_callV (J := sm_I175) 24 rfl (Nat.le_of_ble_eq_true rfl) rfl rfl (Nat.le_of_ble_eq_true rfl) s_280 (Nat.le_of_ble_eq_true rfl) (Nat.le_of_ble_eq_true rfl) rfl rfl (F_175 d ((-5)) hq3) ?_
    cases h
    exact g_iret rfl rfl
  · rw [if_neg c2] at h
    refine g_iload_n 9 rfl rfl rfl ?_
    refine g_if_lt 18 12 rfl rfl (fun c4 => ?_) (fun c4 => ?_)
    · rw [if_pos c4] at h
      refine g_aload_n 19 rfl rfl rfl ?_
      refine g_bipush (v := (-5)) 21 rfl (by decide) rfl ?_
      obtain ⟨q5, hq5, h⟩ := Option.bind_eq_some_iff.mp h
      refine g_callV (J := sm_I175) 24 rfl (Nat.le_of_ble_eq_true rfl) rfl rfl (Nat.le_of_ble_eq_true rfl) s_280 (Nat.le_of_ble_eq_true rfl) (Nat.le_of_ble_eq_true rfl) rfl rfl (F_175 d ((-5)) hq5) ?_
      cases h
      exact g_iret rfl rfl
    · rw [if_neg c4] at h
      refine g_iload_n 13 rfl rfl rfl ?_
      refine g_bipush (v := 7) 15 rfl (by decide) rfl ?_
      refine g_icmp_le 25 18 rfl rfl (fun c6 => ?_) (fun c6 => ?_)
      · rw [if_pos c6] at h
        refine g_iload_n 26 rfl rfl rfl ?_
        by_cases w7 : x2 = 0
        case pos =>
          rw [if_pos w7] at h
          refine g_tsw 68 rfl (by rw [w7]; rfl) ?_
          refine g_aload_n 69 rfl rfl rfl ?_
          refine g_get 72 rfl s_280 (Nat.le_of_ble_eq_true rfl) rfl rfl ?_
          refine g_iload_n 73 rfl rfl rfl ?_
          by_cases i8 : ib x1 8
          case neg => rw [if_neg i8] at h; cases h
          rw [if_pos i8] at h
          refine g_iald 74 rfl s_288 l_288 i8 rfl ?_
          cases h
          exact g_iret rfl rfl
        rw [if_neg w7] at h
        by_cases w9 : x2 = 1
        case pos =>
          rw [if_pos w9] at h
          refine g_tsw 75 rfl (by rw [w9]; rfl) ?_
          refine g_aload_n 76 rfl rfl rfl ?_
          refine g_get 79 rfl s_280 (Nat.le_of_ble_eq_true rfl) rfl rfl ?_
          refine g_iload_n 80 rfl rfl rfl ?_
          by_cases i10 : ib x1 8
          case neg => rw [if_neg i10] at h; cases h
          rw [if_pos i10] at h
          refine g_iald 81 rfl s_289 l_289 i10 rfl ?_
          cases h
          exact g_iret rfl rfl
        rw [if_neg w9] at h
        by_cases w11 : x2 = 2
        case pos =>
          rw [if_pos w11] at h
          refine g_tsw 82 rfl (by rw [w11]; rfl) ?_
          refine g_aload_n 83 rfl rfl rfl ?_
          refine g_get 86 rfl s_280 (Nat.le_of_ble_eq_true rfl) rfl rfl ?_
          refine g_iload_n 87 rfl rfl rfl ?_
          by_cases i12 : ib x1 8
          case neg => rw [if_neg i12] at h; cases h
          rw [if_pos i12] at h
          refine g_iald 88 rfl s_290 l_290 i12 rfl ?_
          cases h
          exact g_iret rfl rfl
        rw [if_neg w11] at h
        by_cases w13 : x2 = 3
        case pos =>
          rw [if_pos w13] at h
          refine g_tsw 89 rfl (by rw [w13]; rfl) ?_
          refine g_aload_n 90 rfl rfl rfl ?_
          refine g_get 93 rfl s_280 (Nat.le_of_ble_eq_true rfl) rfl rfl ?_
          refine g_iload_n 94 rfl rfl rfl ?_
          by_cases i14 : ib x1 8
          case neg => rw [if_neg i14] at h; cases h
          rw [if_pos i14] at h
          refine g_iald 95 rfl s_291 l_291 i14 rfl ?_
          cases h
          exact g_iret rfl rfl
        rw [if_neg w13] at h
        by_cases w15 : x2 = 4
        case pos =>
          rw [if_pos w15] at h
          refine g_tsw 96 rfl (by rw [w15]; rfl) ?_
          refine g_aload_n 97 rfl rfl rfl ?_
          refine g_get 100 rfl s_280 (Nat.le_of_ble_eq_true rfl) rfl rfl ?_
          refine g_iload_n 101 rfl rfl rfl ?_
          by_cases i16 : ib x1 8
          case neg => rw [if_neg i16] at h; cases h
          rw [if_pos i16] at h
          refine g_iald 102 rfl s_292 l_292 i16 rfl ?_
          cases h
          exact g_iret rfl rfl
        rw [if_neg w15] at h
        by_cases w17 : x2 = 5
        case pos =>
          rw [if_pos w17] at h
          refine g_tsw 103 rfl (by rw [w17]; rfl) ?_
          refine g_aload_n 104 rfl rfl rfl ?_
          refine g_get 107 rfl s_280 (Nat.le_of_ble_eq_true rfl) rfl rfl ?_
          refine g_iload_n 108 rfl rfl rfl ?_
          by_cases i18 : ib x1 8
          case neg => rw [if_neg i18] at h; cases h
          rw [if_pos i18] at h
          refine g_iald 109 rfl s_293 l_293 i18 rfl ?_
          cases h
          exact g_iret rfl rfl
        rw [if_neg w17] at h
        by_cases w19 : x2 = 6
        case pos =>
          rw [if_pos w19] at h
          refine g_tsw 110 rfl (by rw [w19]; rfl) ?_
          refine g_aload_n 111 rfl rfl rfl ?_
          refine g_get 114 rfl s_280 (Nat.le_of_ble_eq_true rfl) rfl rfl ?_
          refine g_iload_n 115 rfl rfl rfl ?_
          by_cases i20 : ib x1 8
          case neg => rw [if_neg i20] at h; cases h
          rw [if_pos i20] at h
          refine g_iald 116 rfl s_294 l_294 i20 rfl ?_
          cases h
          exact g_iret rfl rfl
        rw [if_neg w19] at h
        refine g_tsw 117 rfl (by
          have hX : x2.toInt < 0 ∨ 6 < x2.toInt := by
            have e := fun (k : Int32) (hk : ¬ x2 = k) => (fun (z : x2.toInt = k.toInt) => hk (Int32.toInt_inj.mp z))
            have gw7 : ¬ x2.toInt = 0 := e 0 w7
            have gw9 : ¬ x2.toInt = 1 := e 1 w9
            have gw11 : ¬ x2.toInt = 2 := e 2 w11
            have gw13 : ¬ x2.toInt = 3 := e 3 w13
            have gw15 : ¬ x2.toInt = 4 := e 4 w15
            have gw17 : ¬ x2.toInt = 5 := e 5 w17
            have gw19 : ¬ x2.toInt = 6 := e 6 w19
            omega
          rw [if_pos hX]; rfl) ?_
        refine g_aload_n 118 rfl rfl rfl ?_
        refine g_get 121 rfl s_280 (Nat.le_of_ble_eq_true rfl) rfl rfl ?_
        refine g_iload_n 122 rfl rfl rfl ?_
        by_cases i21 : ib x1 8
        case neg => rw [if_neg i21] at h; cases h
        rw [if_pos i21] at h
        refine g_iald 123 rfl s_295 l_295 i21 rfl ?_
        cases h
        exact g_iret rfl rfl
      · rw [if_neg c6] at h
        refine g_aload_n 19 rfl rfl rfl ?_
        refine g_bipush (v := (-5)) 21 rfl (by decide) rfl ?_
        obtain ⟨q22, hq22, h⟩ := Option.bind_eq_some_iff.mp h
        refine g_callV (J := sm_I175) 24 rfl (Nat.le_of_ble_eq_true rfl) rfl rfl (Nat.le_of_ble_eq_true rfl) s_280 (Nat.le_of_ble_eq_true rfl) (Nat.le_of_ble_eq_true rfl) rfl rfl (F_175 d ((-5)) hq22) ?_
        cases h
        exact g_iret rfl rfl

def f_207 (x1 : Int32) (x2 : Int32) (x3 : Int32) (U : sU) : Option (Int32 × sU) :=
  Option.bind (f_179 x1 x2 U) fun q1 =>
  if q1 = 0 then
    Option.bind (f_174 ((-5)) U) fun q4 =>
    some (q4.1, q4.2)
  else
    if x3 < 0 then
      Option.bind (f_174 ((-5)) U) fun q6 =>
      some (q6.1, q6.2)
    else
      if x3 ≤ 1 then
        if x3 = 0 then
          if ib ((12 * x1) + x2) 96 then
          some (U.1 296 ((12 * x1) + x2).toNatClampNeg, U)
          else none
        else
          if ib ((12 * x1) + x2) 96 then
          some (U.1 297 ((12 * x1) + x2).toNatClampNeg, U)
          else none
      else
        Option.bind (f_174 ((-5)) U) fun q11 =>
        some (q11.1, q11.2)
set_option maxRecDepth 10000 in
set_option maxHeartbeats 2000000 in
theorem F_207 (d : Nat) (x1 : Int32) (x2 : Int32) (x3 : Int32) {U : sU} {r : Int32} {U' : sU} (h : f_207 x1 x2 x3 U = some (r, U')) : Rn (d + 2) sm_I207 [.ref 280, .int x1, .int x2, .int x3] U (some (.int r)) U' := by
  refine Rn_of [(0, .ref 280), (1, .int x1), (2, .int x2), (3, .int x3)] (Nat.le_of_ble_eq_true rfl) (Sc rfl (Sc rfl (Sc rfl (Sc rfl (Sn _))))) ?_
  first | rw [f_207] at h | rw [f_207.eq_def] at h
  refine g_aload_n 1 rfl rfl rfl ?_
  refine g_iload_n 2 rfl rfl rfl ?_
  refine g_iload_n 3 rfl rfl rfl ?_
  obtain ⟨q1, hq1, h⟩ := Option.bind_eq_some_iff.mp h
  have r2 := (F_179 d x1 x2 hq1)
  refine g_callV (J := sm_I179) 6 rfl (Nat.le_of_ble_eq_true rfl) rfl rfl (Nat.le_of_ble_eq_true rfl) s_280 (Nat.le_of_ble_eq_true rfl) (Nat.le_of_ble_eq_true rfl) rfl rfl r2 ?_
  refine g_if_eq 18 9 rfl rfl (fun c3 => ?_) (fun c3 => ?_)
  · rw [if_pos c3] at h
    refine g_aload_n 19 rfl rfl rfl ?_
    refine g_bipush (v := (-5)) 21 rfl (by decide) rfl ?_
    obtain ⟨q4, hq4, h⟩ := Option.bind_eq_some_iff.mp h
    refine g_callV (J := sm_I174) 24 rfl (Nat.le_of_ble_eq_true rfl) rfl rfl (Nat.le_of_ble_eq_true rfl) s_280 (Nat.le_of_ble_eq_true rfl) (Nat.le_of_ble_eq_true rfl) rfl rfl (F_174 (d + 1) ((-5)) hq4) ?_
    cases h
    exact g_iret rfl rfl
  · rw [if_neg c3] at h
    refine g_iload_n 10 rfl rfl rfl ?_
    refine g_if_lt 18 13 rfl rfl (fun c5 => ?_) (fun c5 => ?_)
    · rw [if_pos c5] at h
      refine g_aload_n 19 rfl rfl rfl ?_
      refine g_bipush (v := (-5)) 21 rfl (by decide) rfl ?_
      obtain ⟨q6, hq6, h⟩ := Option.bind_eq_some_iff.mp h
      refine g_callV (J := sm_I174) 24 rfl (Nat.le_of_ble_eq_true rfl) rfl rfl (Nat.le_of_ble_eq_true rfl) s_280 (Nat.le_of_ble_eq_true rfl) (Nat.le_of_ble_eq_true rfl) rfl rfl (F_174 (d + 1) ((-5)) hq6) ?_
      cases h
      exact g_iret rfl rfl
    · rw [if_neg c5] at h
      refine g_iload_n 14 rfl rfl rfl ?_
      refine g_iconst (v := 1) 15 rfl rfl rfl ?_
      refine g_icmp_le 25 18 rfl rfl (fun c7 => ?_) (fun c7 => ?_)
      · rw [if_pos c7] at h
        refine g_iload_n 26 rfl rfl rfl ?_
        refine g_if_ne 43 29 rfl rfl (fun c8 => ?_) (fun c8 => ?_)
        · rw [if_neg c8] at h
          refine g_aload_n 44 rfl rfl rfl ?_
          refine g_get 47 rfl s_280 (Nat.le_of_ble_eq_true rfl) rfl rfl ?_
          refine g_bipush (v := 12) 49 rfl (by decide) rfl ?_
          refine g_iload_n 50 rfl rfl rfl ?_
          refine g_imul 51 rfl rfl ?_
          refine g_iload_n 52 rfl rfl rfl ?_
          refine g_iadd 53 rfl rfl ?_
          by_cases i9 : ib ((12 * x1) + x2) 96
          case neg => rw [if_neg i9] at h; cases h
          rw [if_pos i9] at h
          refine g_iald 54 rfl s_297 l_297 i9 rfl ?_
          cases h
          exact g_iret rfl rfl
        · rw [if_pos c8] at h
          refine g_aload_n 30 rfl rfl rfl ?_
          refine g_get 33 rfl s_280 (Nat.le_of_ble_eq_true rfl) rfl rfl ?_
          refine g_bipush (v := 12) 35 rfl (by decide) rfl ?_
          refine g_iload_n 36 rfl rfl rfl ?_
          refine g_imul 37 rfl rfl ?_
          refine g_iload_n 38 rfl rfl rfl ?_
          refine g_iadd 39 rfl rfl ?_
          by_cases i10 : ib ((12 * x1) + x2) 96
          case neg => rw [if_neg i10] at h; cases h
          rw [if_pos i10] at h
          refine g_iald 40 rfl s_296 l_296 i10 rfl ?_
          refine g_goto 54 rfl ?_
          cases h
          exact g_iret rfl rfl
      · rw [if_neg c7] at h
        refine g_aload_n 19 rfl rfl rfl ?_
        refine g_bipush (v := (-5)) 21 rfl (by decide) rfl ?_
        obtain ⟨q11, hq11, h⟩ := Option.bind_eq_some_iff.mp h
        refine g_callV (J := sm_I174) 24 rfl (Nat.le_of_ble_eq_true rfl) rfl rfl (Nat.le_of_ble_eq_true rfl) s_280 (Nat.le_of_ble_eq_true rfl) (Nat.le_of_ble_eq_true rfl) rfl rfl (F_174 (d + 1) ((-5)) hq11) ?_
        cases h
        exact g_iret rfl rfl

def f_208 (x1 : Int32) (x2 : Int64) (U : sU) : Option Int64 :=
  if ib x1 8 then
  if (U.1 292 x1.toNatClampNeg) = 0 then
    some (x2 * x2)
  else
    if 0 ≤ (lg_cmp x2 0) then
      some x2
    else
      some (-x2)
  else none
set_option maxRecDepth 10000 in
set_option maxHeartbeats 2000000 in
theorem F_208 (d : Nat) (x1 : Int32) (x2 : Int64) {U : sU} {r : Int64} (h : f_208 x1 x2 U = some r) : Rn (d + 0) sm_I208 [.ref 280, .int x1, .long x2] U (some (.long r)) U := by
  refine Rn_of [(0, .ref 280), (1, .int x1), (2, .long x2)] (Nat.le_of_ble_eq_true rfl) (Sc rfl (Sc rfl (Sc rfl (Sn _)))) ?_
  first | rw [f_208] at h | rw [f_208.eq_def] at h
  refine g_aload_n 1 rfl rfl rfl ?_
  refine g_get 4 rfl s_280 (Nat.le_of_ble_eq_true rfl) rfl rfl ?_
  refine g_iload_n 5 rfl rfl rfl ?_
  by_cases i1 : ib x1 8
  case neg => rw [if_neg i1] at h; cases h
  rw [if_pos i1] at h
  refine g_iald 6 rfl s_292 l_292 i1 rfl ?_
  refine g_if_ne 15 9 rfl rfl (fun c2 => ?_) (fun c2 => ?_)
  · rw [if_neg c2] at h
    refine g_lload_n 16 rfl rfl rfl ?_
    refine g_lconst (v := 0) 17 rfl rfl rfl ?_
    refine g_lcmp 18 rfl rfl ?_
    refine g_if_ge 26 21 rfl rfl (fun c3 => ?_) (fun c3 => ?_)
    · rw [if_pos c3] at h
      refine g_lload_n 27 rfl rfl rfl ?_
      cases h
      exact g_lret rfl rfl
    · rw [if_neg c3] at h
      refine g_lload_n 22 rfl rfl rfl ?_
      refine g_lneg 23 rfl rfl ?_
      refine g_goto 27 rfl ?_
      cases h
      exact g_lret rfl rfl
  · rw [if_pos c2] at h
    refine g_lload_n 10 rfl rfl rfl ?_
    refine g_lload_n 11 rfl rfl rfl ?_
    refine g_lmul 12 rfl rfl ?_
    refine g_goto 27 rfl ?_
    cases h
    exact g_lret rfl rfl

def f_209_176 (v7 : Int64) (U : sU) : Option Int32 :=
  if 0 ≤ (lg_cmp v7 0) then
    if (lg_cmp v7 999) ≤ 0 then
      some v7.toInt32
    else
      some 999
  else
    some 0
set_option maxRecDepth 10000 in
set_option maxHeartbeats 2000000 in
theorem F_209_176 (d : Nat)   (v7 : Int64) {U : sU} {r : Int32} (h : f_209_176 v7 U = some r) : G (d + 0) sm_I209 176 [(7, .long v7)] [] U (some (.int r)) U := by
  first | rw [f_209_176] at h | rw [f_209_176.eq_def] at h
  refine g_lload 178 rfl rfl rfl ?_
  refine g_lconst (v := 0) 179 rfl rfl rfl ?_
  refine g_lcmp 180 rfl rfl ?_
  refine g_if_ge 187 183 rfl rfl (fun c1 => ?_) (fun c1 => ?_)
  · rw [if_pos c1] at h
    refine g_lload 189 rfl rfl rfl ?_
    refine g_ldc2_w (v := 999) 192 rfl (by decide) rfl ?_
    refine g_lcmp 193 rfl rfl ?_
    refine g_if_le 202 196 rfl rfl (fun c2 => ?_) (fun c2 => ?_)
    · rw [if_pos c2] at h
      refine g_lload 204 rfl rfl rfl ?_
      refine g_l2i 205 rfl rfl ?_
      cases h
      exact g_iret rfl rfl
    · rw [if_neg c2] at h
      refine g_sipush (v := 999) 199 rfl (by decide) rfl ?_
      refine g_goto 205 rfl ?_
      cases h
      exact g_iret rfl rfl
  · rw [if_neg c1] at h
    refine g_iconst (v := 0) 184 rfl rfl rfl ?_
    refine g_goto 205 rfl ?_
    cases h
    exact g_iret rfl rfl
def f_209_94 (v3 : Int64) (v5 : Int64) (v7 : Int64) (U : sU) : Option Int32 :=
  if (lg_cmp (2 * (v5 - (v7 * v3))) v3) ≤ 0 then
    f_209_176 v7 U
  else
    f_209_176 (v7 + 1) U
set_option maxRecDepth 10000 in
set_option maxHeartbeats 2000000 in
theorem F_209_94 (d : Nat)   (v3 : Int64) (v5 : Int64) (v7 : Int64) {U : sU} {r : Int32} (h : f_209_94 v3 v5 v7 U = some r) : G (d + 0) sm_I209 94 [(3, .long v3), (5, .long v5), (7, .long v7)] [] U (some (.int r)) U := by
  first | rw [f_209_94] at h | rw [f_209_94.eq_def] at h
  refine g_ldc2_w (v := 2) 97 rfl (by decide) rfl ?_
  refine g_lload 99 rfl rfl rfl ?_
  refine g_lload 101 rfl rfl rfl ?_
  refine g_lload_n 102 rfl rfl rfl ?_
  refine g_lmul 103 rfl rfl ?_
  refine g_lsub 104 rfl rfl ?_
  refine g_lmul 105 rfl rfl ?_
  refine g_lload_n 106 rfl rfl rfl ?_
  refine g_lcmp 107 rfl rfl ?_
  refine g_if_le 176 110 rfl rfl (fun c3 => ?_) (fun c3 => ?_)
  · rw [if_pos c3] at h
    exact g_sub (Sc rfl (Sn _)) (F_209_176 d v7 h)
  · rw [if_neg c3] at h
    refine g_lload 112 rfl rfl rfl ?_
    refine g_lconst (v := 1) 113 rfl rfl rfl ?_
    refine g_ladd 114 rfl rfl ?_
    refine g_lstore 116 [(7, .long (v7 + 1)), (3, .long v3), (5, .long v5)] rfl (Nat.le_of_ble_eq_true rfl) rfl rfl ?_
    refine g_goto 176 rfl ?_
    exact g_sub (Sc rfl (Sn _)) (F_209_176 d (v7 + 1) h)
def f_209_130 : Nat → Int32 → Int32 → Int64 → Int32 → Int64 → sU → Option Int32
  | 0, _, _, _, _, _, _ => none
  | n + 1, v1, v2, v3, v9, v10, U =>
    if 0 ≤ (lg_cmp (2 * v10) v3) then
      if ib ((12 * v1) + v9) 96 then
      f_209_176 (((U.1 296 ((12 * v1) + v9).toNatClampNeg) + v2).toInt64) U
      else none
    else
      if ib (v9 + 1) 12 then
      f_209_130 n v1 v2 v3 (v9 + 1) (v10 + (U.2.1 305 (v9 + 1).toNatClampNeg)) U
      else none
set_option maxRecDepth 10000 in
set_option maxHeartbeats 2000000 in
theorem F_209_130 (d : Nat)   : ∀ (n : Nat) (v1 : Int32) (v2 : Int32) (v3 : Int64) (v9 : Int32) (v10 : Int64) (U : sU) (r : Int32), f_209_130 n v1 v2 v3 v9 v10 U = some r → G (d + 0) sm_I209 130 [(0, .ref 280), (1, .int v1), (2, .int v2), (3, .long v3), (9, .int v9), (10, .long v10)] [] U (some (.int r)) U := by
  intro n
  induction n with
  | zero => intro v1 v2 v3 v9 v10 U r h; cases h
  | succ n ih =>
    intro v1 v2 v3 v9 v10 U r h
    first | rw [f_209_130] at h | (rw [f_209_130.eq_def] at h; dsimp only at h)
    refine g_ldc2_w (v := 2) 133 rfl (by decide) rfl ?_
    refine g_lload 135 rfl rfl rfl ?_
    refine g_lmul 136 rfl rfl ?_
    refine g_lload_n 137 rfl rfl rfl ?_
    refine g_lcmp 138 rfl rfl ?_
    refine g_if_ge 159 141 rfl rfl (fun c4 => ?_) (fun c4 => ?_)
    · rw [if_pos c4] at h
      refine g_aload_n 160 rfl rfl rfl ?_
      refine g_get 163 rfl s_280 (Nat.le_of_ble_eq_true rfl) rfl rfl ?_
      refine g_bipush (v := 12) 165 rfl (by decide) rfl ?_
      refine g_iload_n 166 rfl rfl rfl ?_
      refine g_imul 167 rfl rfl ?_
      refine g_iload 169 rfl rfl rfl ?_
      refine g_iadd 170 rfl rfl ?_
      by_cases i5 : ib ((12 * v1) + v9) 96
      case neg => rw [if_neg i5] at h; cases h
      rw [if_pos i5] at h
      refine g_iald 171 rfl s_296 l_296 i5 rfl ?_
      refine g_iload_n 172 rfl rfl rfl ?_
      refine g_iadd 173 rfl rfl ?_
      refine g_i2l 174 rfl rfl ?_
      refine g_lstore 176 [(7, .long (((U.1 296 ((12 * v1) + v9).toNatClampNeg) + v2).toInt64)), (0, .ref 280), (1, .int v1), (2, .int v2), (3, .long v3), (9, .int v9), (10, .long v10)] rfl (Nat.le_of_ble_eq_true rfl) rfl rfl ?_
      exact g_sub (Sc rfl (Sn _)) (F_209_176 d (((U.1 296 ((12 * v1) + v9).toNatClampNeg) + v2).toInt64) h)
    · rw [if_neg c4] at h
      refine g_iinc (v := v9 + 1) 144 [(9, .int (v9 + 1)), (0, .ref 280), (1, .int v1), (2, .int v2), (3, .long v3), (10, .long v10)] rfl rfl (Nat.le_of_ble_eq_true rfl) rfl rfl rfl ?_
      refine g_lload 146 rfl rfl rfl ?_
      refine g_aload_n 147 rfl rfl rfl ?_
      refine g_get 150 rfl s_280 (Nat.le_of_ble_eq_true rfl) rfl rfl ?_
      refine g_iload 152 rfl rfl rfl ?_
      by_cases i6 : ib (v9 + 1) 12
      case neg => rw [if_neg i6] at h; cases h
      rw [if_pos i6] at h
      refine g_lald 153 rfl s_305 l_305 i6 rfl ?_
      refine g_ladd 154 rfl rfl ?_
      refine g_lstore 156 [(10, .long (v10 + (U.2.1 305 (v9 + 1).toNatClampNeg))), (9, .int (v9 + 1)), (0, .ref 280), (1, .int v1), (2, .int v2), (3, .long v3)] rfl (Nat.le_of_ble_eq_true rfl) rfl rfl ?_
      refine g_goto 130 rfl ?_
      exact g_sub (Sc rfl (Sc rfl (Sc rfl (Sc rfl (Sc rfl (Sc rfl (Sn _))))))) (ih v1 v2 v3 (v9 + 1) (v10 + (U.2.1 305 (v9 + 1).toNatClampNeg)) _ _ h)
def f_209_8 : Nat → Int32 → Int32 → Int64 → Int64 → Int32 → sU → Option Int32
  | 0, _, _, _, _, _, _ => none
  | n + 1, v1, v2, v3, v5, v7, U =>
    if ib v1 8 then
    if (U.1 288 v1.toNatClampNeg) ≤ v7 then
      if ib v1 8 then
      if (U.1 292 v1.toNatClampNeg) = 0 then
        if ¬ v3 = 0 then
        if (lg_cmp ((v5 / v3) * v3) v5) ≤ 0 then
          f_209_94 v3 v5 (v5 / v3) U
        else
          f_209_94 v3 v5 ((v5 / v3) - 1) U
        else none
      else
        f_209_130 FU v1 v2 v3 0 (U.2.1 305 (0 : Int32).toNatClampNeg) U
      else none
    else
      if ib v7 12 then
      if ib v7 12 then
      if ib ((12 * v1) + v7) 96 then
      f_209_8 n v1 v2 (v3 + (U.2.1 305 v7.toNatClampNeg)) (v5 + ((U.2.1 305 v7.toNatClampNeg) * (((U.1 296 ((12 * v1) + v7).toNatClampNeg) + v2).toInt64))) (v7 + 1) U
      else none
      else none
      else none
    else none
set_option maxRecDepth 10000 in
set_option maxHeartbeats 2000000 in
theorem F_209_8 (d : Nat)   : ∀ (n : Nat) (v1 : Int32) (v2 : Int32) (v3 : Int64) (v5 : Int64) (v7 : Int32) (U : sU) (r : Int32), f_209_8 n v1 v2 v3 v5 v7 U = some r → G (d + 0) sm_I209 8 [(0, .ref 280), (1, .int v1), (2, .int v2), (3, .long v3), (5, .long v5), (7, .int v7)] [] U (some (.int r)) U := by
  intro n
  induction n with
  | zero => intro v1 v2 v3 v5 v7 U r h; cases h
  | succ n ih =>
    intro v1 v2 v3 v5 v7 U r h
    first | rw [f_209_8] at h | (rw [f_209_8.eq_def] at h; dsimp only at h)
    refine g_iload 10 rfl rfl rfl ?_
    refine g_aload_n 11 rfl rfl rfl ?_
    refine g_get 14 rfl s_280 (Nat.le_of_ble_eq_true rfl) rfl rfl ?_
    refine g_iload_n 15 rfl rfl rfl ?_
    by_cases i7 : ib v1 8
    case neg => rw [if_neg i7] at h; cases h
    rw [if_pos i7] at h
    refine g_iald 16 rfl s_288 l_288 i7 rfl ?_
    refine g_icmp_ge 63 19 rfl rfl (fun c8 => ?_) (fun c8 => ?_)
    · rw [if_pos c8] at h
      refine g_aload_n 64 rfl rfl rfl ?_
      refine g_get 67 rfl s_280 (Nat.le_of_ble_eq_true rfl) rfl rfl ?_
      refine g_iload_n 68 rfl rfl rfl ?_
      by_cases i9 : ib v1 8
      case neg => rw [if_neg i9] at h; cases h
      rw [if_pos i9] at h
      refine g_iald 69 rfl s_292 l_292 i9 rfl ?_
      refine g_if_ne 119 72 rfl rfl (fun c10 => ?_) (fun c10 => ?_)
      · rw [if_neg c10] at h
        refine g_iconst (v := 0) 120 rfl rfl rfl ?_
        refine g_istore 122 [(9, .int 0), (0, .ref 280), (1, .int v1), (2, .int v2), (3, .long v3), (5, .long v5), (7, .int v7)] rfl (Nat.le_of_ble_eq_true rfl) rfl rfl ?_
        refine g_aload_n 123 rfl rfl rfl ?_
        refine g_get 126 rfl s_280 (Nat.le_of_ble_eq_true rfl) rfl rfl ?_
        refine g_iconst (v := 0) 127 rfl rfl rfl ?_
        refine g_lald 128 rfl s_305 l_305 (by decide) rfl ?_
        refine g_lstore 130 [(10, .long (U.2.1 305 (0 : Int32).toNatClampNeg)), (9, .int 0), (0, .ref 280), (1, .int v1), (2, .int v2), (3, .long v3), (5, .long v5), (7, .int v7)] rfl (Nat.le_of_ble_eq_true rfl) rfl rfl ?_
        exact g_sub (Sc rfl (Sc rfl (Sc rfl (Sc rfl (Sc rfl (Sc rfl (Sn _))))))) (F_209_130 d _ v1 v2 v3 0 (U.2.1 305 (0 : Int32).toNatClampNeg) _ _ h)
      · rw [if_pos c10] at h
        refine g_lload 74 rfl rfl rfl ?_
        refine g_lload_n 75 rfl rfl rfl ?_
        by_cases n12 : ¬ v3 = 0
        case neg => rw [if_neg n12] at h; cases h
        rw [if_pos n12] at h
        refine g_ldiv 76 rfl n12 rfl ?_
        refine g_lstore 78 [(7, .long (v5 / v3)), (0, .ref 280), (1, .int v1), (2, .int v2), (3, .long v3), (5, .long v5)] rfl (Nat.le_of_ble_eq_true rfl) rfl rfl ?_
        refine g_lload 80 rfl rfl rfl ?_
        refine g_lload_n 81 rfl rfl rfl ?_
        refine g_lmul 82 rfl rfl ?_
        refine g_lload 84 rfl rfl rfl ?_
        refine g_lcmp 85 rfl rfl ?_
        refine g_if_le 94 88 rfl rfl (fun c13 => ?_) (fun c13 => ?_)
        · rw [if_pos c13] at h
          exact g_sub (Sc rfl (Sc rfl (Sc rfl (Sn _)))) (F_209_94 d v3 v5 (v5 / v3) h)
        · rw [if_neg c13] at h
          refine g_lload 90 rfl rfl rfl ?_
          refine g_lconst (v := 1) 91 rfl rfl rfl ?_
          refine g_lsub 92 rfl rfl ?_
          refine g_lstore 94 [(7, .long ((v5 / v3) - 1)), (0, .ref 280), (1, .int v1), (2, .int v2), (3, .long v3), (5, .long v5)] rfl (Nat.le_of_ble_eq_true rfl) rfl rfl ?_
          exact g_sub (Sc rfl (Sc rfl (Sc rfl (Sn _)))) (F_209_94 d v3 v5 ((v5 / v3) - 1) h)
    · rw [if_neg c8] at h
      refine g_lload_n 20 rfl rfl rfl ?_
      refine g_aload_n 21 rfl rfl rfl ?_
      refine g_get 24 rfl s_280 (Nat.le_of_ble_eq_true rfl) rfl rfl ?_
      refine g_iload 26 rfl rfl rfl ?_
      by_cases i14 : ib v7 12
      case neg => rw [if_neg i14] at h; cases h
      rw [if_pos i14] at h
      refine g_lald 27 rfl s_305 l_305 i14 rfl ?_
      refine g_ladd 28 rfl rfl ?_
      refine g_lstore_n 29 [(3, .long (v3 + (U.2.1 305 v7.toNatClampNeg))), (0, .ref 280), (1, .int v1), (2, .int v2), (5, .long v5), (7, .int v7)] rfl (Nat.le_of_ble_eq_true rfl) rfl rfl ?_
      refine g_lload 31 rfl rfl rfl ?_
      refine g_aload_n 32 rfl rfl rfl ?_
      refine g_get 35 rfl s_280 (Nat.le_of_ble_eq_true rfl) rfl rfl ?_
      refine g_iload 37 rfl rfl rfl ?_
      by_cases i15 : ib v7 12
      case neg => rw [if_neg i15] at h; cases h
      rw [if_pos i15] at h
      refine g_lald 38 rfl s_305 l_305 i15 rfl ?_
      refine g_aload_n 39 rfl rfl rfl ?_
      refine g_get 42 rfl s_280 (Nat.le_of_ble_eq_true rfl) rfl rfl ?_
      refine g_bipush (v := 12) 44 rfl (by decide) rfl ?_
      refine g_iload_n 45 rfl rfl rfl ?_
      refine g_imul 46 rfl rfl ?_
      refine g_iload 48 rfl rfl rfl ?_
      refine g_iadd 49 rfl rfl ?_
      by_cases i16 : ib ((12 * v1) + v7) 96
      case neg => rw [if_neg i16] at h; cases h
      rw [if_pos i16] at h
      refine g_iald 50 rfl s_296 l_296 i16 rfl ?_
      refine g_iload_n 51 rfl rfl rfl ?_
      refine g_iadd 52 rfl rfl ?_
      refine g_i2l 53 rfl rfl ?_
      refine g_lmul 54 rfl rfl ?_
      refine g_ladd 55 rfl rfl ?_
      refine g_lstore 57 [(5, .long (v5 + ((U.2.1 305 v7.toNatClampNeg) * (((U.1 296 ((12 * v1) + v7).toNatClampNeg) + v2).toInt64)))), (3, .long (v3 + (U.2.1 305 v7.toNatClampNeg))), (0, .ref 280), (1, .int v1), (2, .int v2), (7, .int v7)] rfl (Nat.le_of_ble_eq_true rfl) rfl rfl ?_
      refine g_iinc (v := v7 + 1) 60 [(7, .int (v7 + 1)), (5, .long (v5 + ((U.2.1 305 v7.toNatClampNeg) * (((U.1 296 ((12 * v1) + v7).toNatClampNeg) + v2).toInt64)))), (3, .long (v3 + (U.2.1 305 v7.toNatClampNeg))), (0, .ref 280), (1, .int v1), (2, .int v2)] rfl rfl (Nat.le_of_ble_eq_true rfl) rfl rfl rfl ?_
      refine g_goto 8 rfl ?_
      exact g_sub (Sc rfl (Sc rfl (Sc rfl (Sc rfl (Sc rfl (Sc rfl (Sn _))))))) (ih v1 v2 (v3 + (U.2.1 305 v7.toNatClampNeg)) (v5 + ((U.2.1 305 v7.toNatClampNeg) * (((U.1 296 ((12 * v1) + v7).toNatClampNeg) + v2).toInt64))) (v7 + 1) _ _ h)
def f_209 (x1 : Int32) (x2 : Int32) (U : sU) : Option Int32 :=
  f_209_8 FU x1 x2 0 0 0 U
set_option maxRecDepth 10000 in
set_option maxHeartbeats 2000000 in
theorem F_209 (d : Nat) (x1 : Int32) (x2 : Int32) {U : sU} {r : Int32} (h : f_209 x1 x2 U = some r) : Rn (d + 0) sm_I209 [.ref 280, .int x1, .int x2] U (some (.int r)) U := by
  refine Rn_of [(0, .ref 280), (1, .int x1), (2, .int x2)] (Nat.le_of_ble_eq_true rfl) (Sc rfl (Sc rfl (Sc rfl (Sn _)))) ?_
  first | rw [f_209] at h | rw [f_209.eq_def] at h
  refine g_lconst (v := 0) 1 rfl rfl rfl ?_
  refine g_lstore_n 2 [(3, .long 0), (0, .ref 280), (1, .int x1), (2, .int x2)] rfl (Nat.le_of_ble_eq_true rfl) rfl rfl ?_
  refine g_lconst (v := 0) 3 rfl rfl rfl ?_
  refine g_lstore 5 [(5, .long 0), (3, .long 0), (0, .ref 280), (1, .int x1), (2, .int x2)] rfl (Nat.le_of_ble_eq_true rfl) rfl rfl ?_
  refine g_iconst (v := 0) 6 rfl rfl rfl ?_
  refine g_istore 8 [(7, .int 0), (5, .long 0), (3, .long 0), (0, .ref 280), (1, .int x1), (2, .int x2)] rfl (Nat.le_of_ble_eq_true rfl) rfl rfl ?_
  exact g_sub (Sc rfl (Sc rfl (Sc rfl (Sc rfl (Sc rfl (Sc rfl (Sn _))))))) (F_209_8 d _ x1 x2 0 0 0 _ _ h)

def f_210_3 : Nat → Int32 → Int32 → Int32 → Int32 → sU → Option (Int32 × sU)
  | 0, _, _, _, _, _ => none
  | n + 1, v1, v2, v3, v4, U =>
    if ib v1 8 then
    if (U.1 288 v1.toNatClampNeg) ≤ v4 then
      Option.bind (f_209 v1 v3 U) fun q3 =>
      some (q3, U)
    else
      if ((v2 >>> (v4 &&& 31)) &&& 1) = 1 then
        if ib ((12 * v1) + v4) 96 then
        if ib v4 12 then
        f_210_3 n v1 v2 v3 (v4 + 1) (sJ U 305 v4.toNatClampNeg ((U.1 297 ((12 * v1) + v4).toNatClampNeg).toInt64))
        else none
        else none
      else
        if ib v4 12 then
        f_210_3 n v1 v2 v3 (v4 + 1) (sJ U 305 v4.toNatClampNeg 0)
        else none
    else none
set_option maxRecDepth 10000 in
set_option maxHeartbeats 2000000 in
theorem F_210_3 (d : Nat)   : ∀ (n : Nat) (v1 : Int32) (v2 : Int32) (v3 : Int32) (v4 : Int32) (U : sU) (r : Int32) (U' : sU), f_210_3 n v1 v2 v3 v4 U = some (r, U') → G (d + 1) sm_I210 3 [(0, .ref 280), (1, .int v1), (2, .int v2), (3, .int v3), (4, .int v4)] [] U (some (.int r)) U' := by
  intro n
  induction n with
  | zero => intro v1 v2 v3 v4 U r U' h; cases h
  | succ n ih =>
    intro v1 v2 v3 v4 U r U' h
    first | rw [f_210_3] at h | (rw [f_210_3.eq_def] at h; dsimp only at h)
    refine g_iload 5 rfl rfl rfl ?_
    refine g_aload_n 6 rfl rfl rfl ?_
    refine g_get 9 rfl s_280 (Nat.le_of_ble_eq_true rfl) rfl rfl ?_
    refine g_iload_n 10 rfl rfl rfl ?_
    by_cases i1 : ib v1 8
    case neg => rw [if_neg i1] at h; cases h
    rw [if_pos i1] at h
    refine g_iald 11 rfl s_288 l_288 i1 rfl ?_
    refine g_icmp_ge 54 14 rfl rfl (fun c2 => ?_) (fun c2 => ?_)
    · rw [if_pos c2] at h
      refine g_aload_n 55 rfl rfl rfl ?_
      refine g_iload_n 56 rfl rfl rfl ?_
      refine g_iload_n 57 rfl rfl rfl ?_
      obtain ⟨q3, hq3, h⟩ := Option.bind_eq_some_iff.mp h
      refine g_callV (J := sm_I209) 60 rfl (Nat.le_of_ble_eq_true rfl) rfl rfl (Nat.le_of_ble_eq_true rfl) s_280 (Nat.le_of_ble_eq_true rfl) (Nat.le_of_ble_eq_true rfl) rfl rfl (F_209 d v1 v3 hq3) ?_
      cases h
      exact g_iret rfl rfl
    · rw [if_neg c2] at h
      refine g_aload_n 15 rfl rfl rfl ?_
      refine g_get 18 rfl s_280 (Nat.le_of_ble_eq_true rfl) rfl rfl ?_
      refine g_iload 20 rfl rfl rfl ?_
      refine g_iload_n 21 rfl rfl rfl ?_
      refine g_iload 23 rfl rfl rfl ?_
      refine g_ishr 24 rfl rfl ?_
      refine g_iconst (v := 1) 25 rfl rfl rfl ?_
      refine g_iand 26 rfl rfl ?_
      refine g_iconst (v := 1) 27 rfl rfl rfl ?_
      refine g_icmp_ne 46 30 rfl rfl (fun c4 => ?_) (fun c4 => ?_)
      · rw [if_neg c4] at h
        refine g_lconst (v := 0) 47 rfl rfl rfl ?_
        by_cases i5 : ib v4 12
        case neg => rw [if_neg i5] at h; cases h
        rw [if_pos i5] at h
        refine g_last 48 rfl s_305 l_305 i5 rfl ?_
        refine g_iinc (v := v4 + 1) 51 [(4, .int (v4 + 1)), (0, .ref 280), (1, .int v1), (2, .int v2), (3, .int v3)] rfl rfl (Nat.le_of_ble_eq_true rfl) rfl rfl rfl ?_
        refine g_goto 3 rfl ?_
        exact g_sub (Sc rfl (Sc rfl (Sc rfl (Sc rfl (Sc rfl (Sn _)))))) (ih v1 v2 v3 (v4 + 1) _ _ _ h)
      · rw [if_pos c4] at h
        refine g_aload_n 31 rfl rfl rfl ?_
        refine g_get 34 rfl s_280 (Nat.le_of_ble_eq_true rfl) rfl rfl ?_
        refine g_bipush (v := 12) 36 rfl (by decide) rfl ?_
        refine g_iload_n 37 rfl rfl rfl ?_
        refine g_imul 38 rfl rfl ?_
        refine g_iload 40 rfl rfl rfl ?_
        refine g_iadd 41 rfl rfl ?_
        by_cases i6 : ib ((12 * v1) + v4) 96
        case neg => rw [if_neg i6] at h; cases h
        rw [if_pos i6] at h
        refine g_iald 42 rfl s_297 l_297 i6 rfl ?_
        refine g_i2l 43 rfl rfl ?_
        refine g_goto 47 rfl ?_
        by_cases i7 : ib v4 12
        case neg => rw [if_neg i7] at h; cases h
        rw [if_pos i7] at h
        refine g_last 48 rfl s_305 l_305 i7 rfl ?_
        refine g_iinc (v := v4 + 1) 51 [(4, .int (v4 + 1)), (0, .ref 280), (1, .int v1), (2, .int v2), (3, .int v3)] rfl rfl (Nat.le_of_ble_eq_true rfl) rfl rfl rfl ?_
        refine g_goto 3 rfl ?_
        exact g_sub (Sc rfl (Sc rfl (Sc rfl (Sc rfl (Sc rfl (Sn _)))))) (ih v1 v2 v3 (v4 + 1) _ _ _ h)
def f_210 (x1 : Int32) (x2 : Int32) (x3 : Int32) (U : sU) : Option (Int32 × sU) :=
  f_210_3 FU x1 x2 x3 0 U
set_option maxRecDepth 10000 in
set_option maxHeartbeats 2000000 in
theorem F_210 (d : Nat) (x1 : Int32) (x2 : Int32) (x3 : Int32) {U : sU} {r : Int32} {U' : sU} (h : f_210 x1 x2 x3 U = some (r, U')) : Rn (d + 1) sm_I210 [.ref 280, .int x1, .int x2, .int x3] U (some (.int r)) U' := by
  refine Rn_of [(0, .ref 280), (1, .int x1), (2, .int x2), (3, .int x3)] (Nat.le_of_ble_eq_true rfl) (Sc rfl (Sc rfl (Sc rfl (Sc rfl (Sn _))))) ?_
  first | rw [f_210] at h | rw [f_210.eq_def] at h
  refine g_iconst (v := 0) 1 rfl rfl rfl ?_
  refine g_istore 3 [(4, .int 0), (0, .ref 280), (1, .int x1), (2, .int x2), (3, .int x3)] rfl (Nat.le_of_ble_eq_true rfl) rfl rfl ?_
  exact g_sub (Sc rfl (Sc rfl (Sc rfl (Sc rfl (Sc rfl (Sn _)))))) (F_210_3 d _ x1 x2 x3 0 _ _ _ h)

def f_211 (x1 : Int32) (x2 : Int32) (U : sU) : Option (Int32 × sU) :=
  if (f_178 x1 U) = 0 then
    Option.bind (f_174 ((-1)) U) fun q3 =>
    some (q3.1, q3.2)
  else
    if x2 < 0 then
      Option.bind (f_174 ((-1)) U) fun q5 =>
      some (q5.1, q5.2)
    else
      if ib x1 8 then
      if x2 < (1 <<< ((U.1 288 x1.toNatClampNeg) &&& 31)) then
        if x2 = 0 then
          Option.bind (f_174 ((-6)) U) fun q11 =>
          some (q11.1, q11.2)
        else
          if ib x1 8 then
          Option.bind (f_210 x1 x2 (U.1 290 x1.toNatClampNeg) U) fun q10 =>
          some (q10.1, q10.2)
          else none
      else
        Option.bind (f_174 ((-1)) U) fun q12 =>
        some (q12.1, q12.2)
      else none
set_option maxRecDepth 10000 in
set_option maxHeartbeats 2000000 in
theorem F_211 (d : Nat) (x1 : Int32) (x2 : Int32) {U : sU} {r : Int32} {U' : sU} (h : f_211 x1 x2 U = some (r, U')) : Rn (d + 2) sm_I211 [.ref 280, .int x1, .int x2] U (some (.int r)) U' := by
  refine Rn_of [(0, .ref 280), (1, .int x1), (2, .int x2)] (Nat.le_of_ble_eq_true rfl) (Sc rfl (Sc rfl (Sc rfl (Sn _)))) ?_
  first | rw [f_211] at h | rw [f_211.eq_def] at h
  refine g_aload_n 1 rfl rfl rfl ?_
  refine g_iload_n 2 rfl rfl rfl ?_
  have r1 := F_178 (d + 1) x1 U
  refine g_callV (J := sm_I178) 5 rfl (Nat.le_of_ble_eq_true rfl) rfl rfl (Nat.le_of_ble_eq_true rfl) s_280 (Nat.le_of_ble_eq_true rfl) (Nat.le_of_ble_eq_true rfl) rfl rfl r1 ?_
  refine g_if_eq 24 8 rfl rfl (fun c2 => ?_) (fun c2 => ?_)
  · rw [if_pos c2] at h
    refine g_aload_n 25 rfl rfl rfl ?_
    refine g_iconst (v := (-1)) 26 rfl rfl rfl ?_
    obtain ⟨q3, hq3, h⟩ := Option.bind_eq_some_iff.mp h
    refine g_callV (J := sm_I174) 29 rfl (Nat.le_of_ble_eq_true rfl) rfl rfl (Nat.le_of_ble_eq_true rfl) s_280 (Nat.le_of_ble_eq_true rfl) (Nat.le_of_ble_eq_true rfl) rfl rfl (F_174 (d + 1) ((-1)) hq3) ?_
    cases h
    exact g_iret rfl rfl
  · rw [if_neg c2] at h
    refine g_iload_n 9 rfl rfl rfl ?_
    refine g_if_lt 24 12 rfl rfl (fun c4 => ?_) (fun c4 => ?_)
    · rw [if_pos c4] at h
      refine g_aload_n 25 rfl rfl rfl ?_
      refine g_iconst (v := (-1)) 26 rfl rfl rfl ?_
      obtain ⟨q5, hq5, h⟩ := Option.bind_eq_some_iff.mp h
      refine g_callV (J := sm_I174) 29 rfl (Nat.le_of_ble_eq_true rfl) rfl rfl (Nat.le_of_ble_eq_true rfl) s_280 (Nat.le_of_ble_eq_true rfl) (Nat.le_of_ble_eq_true rfl) rfl rfl (F_174 (d + 1) ((-1)) hq5) ?_
      cases h
      exact g_iret rfl rfl
    · rw [if_neg c4] at h
      refine g_iload_n 13 rfl rfl rfl ?_
      refine g_iconst (v := 1) 14 rfl rfl rfl ?_
      refine g_aload_n 15 rfl rfl rfl ?_
      refine g_get 18 rfl s_280 (Nat.le_of_ble_eq_true rfl) rfl rfl ?_
      refine g_iload_n 19 rfl rfl rfl ?_
      by_cases i6 : ib x1 8
      case neg => rw [if_neg i6] at h; cases h
      rw [if_pos i6] at h
      refine g_iald 20 rfl s_288 l_288 i6 rfl ?_
      refine g_ishl 21 rfl rfl ?_
      refine g_icmp_lt 30 24 rfl rfl (fun c7 => ?_) (fun c7 => ?_)
      · rw [if_pos c7] at h
        refine g_iload_n 31 rfl rfl rfl ?_
        refine g_if_ne 41 34 rfl rfl (fun c8 => ?_) (fun c8 => ?_)
        · rw [if_neg c8] at h
          refine g_aload_n 42 rfl rfl rfl ?_
          refine g_iload_n 43 rfl rfl rfl ?_
          refine g_iload_n 44 rfl rfl rfl ?_
          refine g_aload_n 45 rfl rfl rfl ?_
          refine g_get 48 rfl s_280 (Nat.le_of_ble_eq_true rfl) rfl rfl ?_
          refine g_iload_n 49 rfl rfl rfl ?_
          by_cases i9 : ib x1 8
          case neg => rw [if_neg i9] at h; cases h
          rw [if_pos i9] at h
          refine g_iald 50 rfl s_290 l_290 i9 rfl ?_
          obtain ⟨q10, hq10, h⟩ := Option.bind_eq_some_iff.mp h
          refine g_callV (J := sm_I210) 53 rfl (Nat.le_of_ble_eq_true rfl) rfl rfl (Nat.le_of_ble_eq_true rfl) s_280 (Nat.le_of_ble_eq_true rfl) (Nat.le_of_ble_eq_true rfl) rfl rfl (F_210 d x1 x2 (U.1 290 x1.toNatClampNeg) hq10) ?_
          cases h
          exact g_iret rfl rfl
        · rw [if_pos c8] at h
          refine g_aload_n 35 rfl rfl rfl ?_
          refine g_bipush (v := (-6)) 37 rfl (by decide) rfl ?_
          obtain ⟨q11, hq11, h⟩ := Option.bind_eq_some_iff.mp h
          refine g_callV (J := sm_I174) 40 rfl (Nat.le_of_ble_eq_true rfl) rfl rfl (Nat.le_of_ble_eq_true rfl) s_280 (Nat.le_of_ble_eq_true rfl) (Nat.le_of_ble_eq_true rfl) rfl rfl (F_174 (d + 1) ((-6)) hq11) ?_
          cases h
          exact g_iret rfl rfl
      · rw [if_neg c7] at h
        refine g_aload_n 25 rfl rfl rfl ?_
        refine g_iconst (v := (-1)) 26 rfl rfl rfl ?_
        obtain ⟨q12, hq12, h⟩ := Option.bind_eq_some_iff.mp h
        refine g_callV (J := sm_I174) 29 rfl (Nat.le_of_ble_eq_true rfl) rfl rfl (Nat.le_of_ble_eq_true rfl) s_280 (Nat.le_of_ble_eq_true rfl) (Nat.le_of_ble_eq_true rfl) rfl rfl (F_174 (d + 1) ((-1)) hq12) ?_
        cases h
        exact g_iret rfl rfl

def f_212_63 (v1 : Int32) (v2 : Int32) (v3 : Int32) (z0 : Int32) (U : sU) : Option (Int32 × sU) :=
  if v2 = 0 then
    if ib v1 8 then
    some (z0, sI U 289 v1.toNatClampNeg v3)
    else none
  else
    if ib v1 8 then
    some (z0, sI U 290 v1.toNatClampNeg v3)
    else none
set_option maxRecDepth 10000 in
set_option maxHeartbeats 2000000 in
theorem F_212_63 (d : Nat)   (v1 : Int32) (v2 : Int32) (v3 : Int32) (z0 : Int32) {U : sU} {r : Int32} {U' : sU} (h : f_212_63 v1 v2 v3 z0 U = some (r, U')) : G (d + 1) sm_I212 63 [(0, .ref 280), (1, .int v1), (2, .int v2), (3, .int v3)] [.int z0] U (some (.int r)) U' := by
  first | rw [f_212_63] at h | rw [f_212_63.eq_def] at h
  refine g_istore 65 [(4, .int z0), (0, .ref 280), (1, .int v1), (2, .int v2), (3, .int v3)] rfl (Nat.le_of_ble_eq_true rfl) rfl rfl ?_
  refine g_iload_n 66 rfl rfl rfl ?_
  refine g_if_ne 79 69 rfl rfl (fun c1 => ?_) (fun c1 => ?_)
  · rw [if_neg c1] at h
    refine g_aload_n 80 rfl rfl rfl ?_
    refine g_get 83 rfl s_280 (Nat.le_of_ble_eq_true rfl) rfl rfl ?_
    refine g_iload_n 84 rfl rfl rfl ?_
    refine g_iload_n 85 rfl rfl rfl ?_
    by_cases i2 : ib v1 8
    case neg => rw [if_neg i2] at h; cases h
    rw [if_pos i2] at h
    refine g_iast 86 rfl s_290 l_290 i2 rfl ?_
    refine g_iload 88 rfl rfl rfl ?_
    cases h
    exact g_iret rfl rfl
  · rw [if_pos c1] at h
    refine g_aload_n 70 rfl rfl rfl ?_
    refine g_get 73 rfl s_280 (Nat.le_of_ble_eq_true rfl) rfl rfl ?_
    refine g_iload_n 74 rfl rfl rfl ?_
    refine g_iload_n 75 rfl rfl rfl ?_
    by_cases i3 : ib v1 8
    case neg => rw [if_neg i3] at h; cases h
    rw [if_pos i3] at h
    refine g_iast 76 rfl s_289 l_289 i3 rfl ?_
    refine g_goto 86 rfl ?_
    refine g_iload 88 rfl rfl rfl ?_
    cases h
    exact g_iret rfl rfl
def f_212 (x1 : Int32) (x2 : Int32) (x3 : Int32) (U : sU) : Option (Int32 × sU) :=
  if (f_178 x1 U) = 0 then
    Option.bind (f_175 ((-1)) U) fun q17 =>
    some (q17.1, q17.2)
  else
    if x2 < 0 then
      Option.bind (f_175 ((-6)) U) fun q7 =>
      some (q7.1, q7.2)
    else
      if 1 < x2 then
        Option.bind (f_175 ((-6)) U) fun q9 =>
        some (q9.1, q9.2)
      else
        if x3 < ((-500)) then
          Option.bind (f_175 ((-6)) U) fun q11 =>
          some (q11.1, q11.2)
        else
          if x3 ≤ 500 then
            if x2 = 0 then
              if ib x1 8 then
              f_212_63 x1 x2 x3 (U.1 289 x1.toNatClampNeg) U
              else none
            else
              if ib x1 8 then
              f_212_63 x1 x2 x3 (U.1 290 x1.toNatClampNeg) U
              else none
          else
            Option.bind (f_175 ((-6)) U) fun q16 =>
            some (q16.1, q16.2)
set_option maxRecDepth 10000 in
set_option maxHeartbeats 2000000 in
theorem F_212 (d : Nat) (x1 : Int32) (x2 : Int32) (x3 : Int32) {U : sU} {r : Int32} {U' : sU} (h : f_212 x1 x2 x3 U = some (r, U')) : Rn (d + 1) sm_I212 [.ref 280, .int x1, .int x2, .int x3] U (some (.int r)) U' := by
  refine Rn_of [(0, .ref 280), (1, .int x1), (2, .int x2), (3, .int x3)] (Nat.le_of_ble_eq_true rfl) (Sc rfl (Sc rfl (Sc rfl (Sc rfl (Sn _))))) ?_
  first | rw [f_212] at h | rw [f_212.eq_def] at h
  refine g_aload_n 1 rfl rfl rfl ?_
  refine g_iload_n 2 rfl rfl rfl ?_
  have r4 := F_178 d x1 U
  refine g_callV (J := sm_I178) 5 rfl (Nat.le_of_ble_eq_true rfl) rfl rfl (Nat.le_of_ble_eq_true rfl) s_280 (Nat.le_of_ble_eq_true rfl) (Nat.le_of_ble_eq_true rfl) rfl rfl r4 ?_
  refine g_if_ne 14 8 rfl rfl (fun c5 => ?_) (fun c5 => ?_)
  · rw [if_neg c5] at h
    refine g_iload_n 15 rfl rfl rfl ?_
    refine g_if_lt 37 18 rfl rfl (fun c6 => ?_) (fun c6 => ?_)
    · rw [if_pos c6] at h
      refine g_aload_n 38 rfl rfl rfl ?_
      refine g_bipush (v := (-6)) 40 rfl (by decide) rfl ?_
      obtain ⟨q7, hq7, h⟩ := Option.bind_eq_some_iff.mp h
      refine g_callV (J := sm_I175) 43 rfl (Nat.le_of_ble_eq_true rfl) rfl rfl (Nat.le_of_ble_eq_true rfl) s_280 (Nat.le_of_ble_eq_true rfl) (Nat.le_of_ble_eq_true rfl) rfl rfl (F_175 d ((-6)) hq7) ?_
      cases h
      exact g_iret rfl rfl
    · rw [if_neg c6] at h
      refine g_iload_n 19 rfl rfl rfl ?_
      refine g_iconst (v := 1) 20 rfl rfl rfl ?_
      refine g_icmp_gt 37 23 rfl rfl (fun c8 => ?_) (fun c8 => ?_)
      · rw [if_pos c8] at h
        refine g_aload_n 38 rfl rfl rfl ?_
        refine g_bipush (v := (-6)) 40 rfl (by decide) rfl ?_
        obtain ⟨q9, hq9, h⟩ := Option.bind_eq_some_iff.mp h
        refine g_callV (J := sm_I175) 43 rfl (Nat.le_of_ble_eq_true rfl) rfl rfl (Nat.le_of_ble_eq_true rfl) s_280 (Nat.le_of_ble_eq_true rfl) (Nat.le_of_ble_eq_true rfl) rfl rfl (F_175 d ((-6)) hq9) ?_
        cases h
        exact g_iret rfl rfl
      · rw [if_neg c8] at h
        refine g_iload_n 24 rfl rfl rfl ?_
        refine g_sipush (v := (-500)) 27 rfl (by decide) rfl ?_
        refine g_icmp_lt 37 30 rfl rfl (fun c10 => ?_) (fun c10 => ?_)
        · rw [if_pos c10] at h
          refine g_aload_n 38 rfl rfl rfl ?_
          refine g_bipush (v := (-6)) 40 rfl (by decide) rfl ?_
          obtain ⟨q11, hq11, h⟩ := Option.bind_eq_some_iff.mp h
          refine g_callV (J := sm_I175) 43 rfl (Nat.le_of_ble_eq_true rfl) rfl rfl (Nat.le_of_ble_eq_true rfl) s_280 (Nat.le_of_ble_eq_true rfl) (Nat.le_of_ble_eq_true rfl) rfl rfl (F_175 d ((-6)) hq11) ?_
          cases h
          exact g_iret rfl rfl
        · rw [if_neg c10] at h
          refine g_iload_n 31 rfl rfl rfl ?_
          refine g_sipush (v := 500) 34 rfl (by decide) rfl ?_
          refine g_icmp_le 44 37 rfl rfl (fun c12 => ?_) (fun c12 => ?_)
          · rw [if_pos c12] at h
            refine g_iload_n 45 rfl rfl rfl ?_
            refine g_if_ne 57 48 rfl rfl (fun c13 => ?_) (fun c13 => ?_)
            · rw [if_neg c13] at h
              refine g_aload_n 58 rfl rfl rfl ?_
              refine g_get 61 rfl s_280 (Nat.le_of_ble_eq_true rfl) rfl rfl ?_
              refine g_iload_n 62 rfl rfl rfl ?_
              by_cases i14 : ib x1 8
              case neg => rw [if_neg i14] at h; cases h
              rw [if_pos i14] at h
              refine g_iald 63 rfl s_290 l_290 i14 rfl ?_
              exact g_sub (Sc rfl (Sc rfl (Sc rfl (Sc rfl (Sn _))))) (F_212_63 d x1 x2 x3 (U.1 290 x1.toNatClampNeg) h)
            · rw [if_pos c13] at h
              refine g_aload_n 49 rfl rfl rfl ?_
              refine g_get 52 rfl s_280 (Nat.le_of_ble_eq_true rfl) rfl rfl ?_
              refine g_iload_n 53 rfl rfl rfl ?_
              by_cases i15 : ib x1 8
              case neg => rw [if_neg i15] at h; cases h
              rw [if_pos i15] at h
              refine g_iald 54 rfl s_289 l_289 i15 rfl ?_
              refine g_goto 63 rfl ?_
              exact g_sub (Sc rfl (Sc rfl (Sc rfl (Sc rfl (Sn _))))) (F_212_63 d x1 x2 x3 (U.1 289 x1.toNatClampNeg) h)
          · rw [if_neg c12] at h
            refine g_aload_n 38 rfl rfl rfl ?_
            refine g_bipush (v := (-6)) 40 rfl (by decide) rfl ?_
            obtain ⟨q16, hq16, h⟩ := Option.bind_eq_some_iff.mp h
            refine g_callV (J := sm_I175) 43 rfl (Nat.le_of_ble_eq_true rfl) rfl rfl (Nat.le_of_ble_eq_true rfl) s_280 (Nat.le_of_ble_eq_true rfl) (Nat.le_of_ble_eq_true rfl) rfl rfl (F_175 d ((-6)) hq16) ?_
            cases h
            exact g_iret rfl rfl
  · rw [if_pos c5] at h
    refine g_aload_n 9 rfl rfl rfl ?_
    refine g_iconst (v := (-1)) 10 rfl rfl rfl ?_
    obtain ⟨q17, hq17, h⟩ := Option.bind_eq_some_iff.mp h
    refine g_callV (J := sm_I175) 13 rfl (Nat.le_of_ble_eq_true rfl) rfl rfl (Nat.le_of_ble_eq_true rfl) s_280 (Nat.le_of_ble_eq_true rfl) (Nat.le_of_ble_eq_true rfl) rfl rfl (F_175 d ((-1)) hq17) ?_
    cases h
    exact g_iret rfl rfl

def f_213 (x1 : Int32) (x2 : Int32) (x3 : Int32) (U : sU) : Option (Int32 × sU) :=
  Option.bind (f_179 x1 x2 U) fun q1 =>
  if q1 = 0 then
    Option.bind (f_174 ((-1)) U) fun q10 =>
    some (q10.1, q10.2)
  else
    if x3 < 1 then
      Option.bind (f_174 ((-6)) U) fun q5 =>
      some (q5.1, q5.2)
    else
      if x3 ≤ 99 then
        if ib ((12 * x1) + x2) 96 then
        if ib ((12 * x1) + x2) 96 then
        some (U.1 297 ((12 * x1) + x2).toNatClampNeg, sI U 297 ((12 * x1) + x2).toNatClampNeg x3)
        else none
        else none
      else
        Option.bind (f_174 ((-6)) U) fun q9 =>
        some (q9.1, q9.2)
set_option maxRecDepth 10000 in
set_option maxHeartbeats 2000000 in
theorem F_213 (d : Nat) (x1 : Int32) (x2 : Int32) (x3 : Int32) {U : sU} {r : Int32} {U' : sU} (h : f_213 x1 x2 x3 U = some (r, U')) : Rn (d + 2) sm_I213 [.ref 280, .int x1, .int x2, .int x3] U (some (.int r)) U' := by
  refine Rn_of [(0, .ref 280), (1, .int x1), (2, .int x2), (3, .int x3)] (Nat.le_of_ble_eq_true rfl) (Sc rfl (Sc rfl (Sc rfl (Sc rfl (Sn _))))) ?_
  first | rw [f_213] at h | rw [f_213.eq_def] at h
  refine g_aload_n 1 rfl rfl rfl ?_
  refine g_iload_n 2 rfl rfl rfl ?_
  refine g_iload_n 3 rfl rfl rfl ?_
  obtain ⟨q1, hq1, h⟩ := Option.bind_eq_some_iff.mp h
  have r2 := (F_179 d x1 x2 hq1)
  refine g_callV (J := sm_I179) 6 rfl (Nat.le_of_ble_eq_true rfl) rfl rfl (Nat.le_of_ble_eq_true rfl) s_280 (Nat.le_of_ble_eq_true rfl) (Nat.le_of_ble_eq_true rfl) rfl rfl r2 ?_
  refine g_if_ne 15 9 rfl rfl (fun c3 => ?_) (fun c3 => ?_)
  · rw [if_neg c3] at h
    refine g_iload_n 16 rfl rfl rfl ?_
    refine g_iconst (v := 1) 17 rfl rfl rfl ?_
    refine g_icmp_lt 26 20 rfl rfl (fun c4 => ?_) (fun c4 => ?_)
    · rw [if_pos c4] at h
      refine g_aload_n 27 rfl rfl rfl ?_
      refine g_bipush (v := (-6)) 29 rfl (by decide) rfl ?_
      obtain ⟨q5, hq5, h⟩ := Option.bind_eq_some_iff.mp h
      refine g_callV (J := sm_I174) 32 rfl (Nat.le_of_ble_eq_true rfl) rfl rfl (Nat.le_of_ble_eq_true rfl) s_280 (Nat.le_of_ble_eq_true rfl) (Nat.le_of_ble_eq_true rfl) rfl rfl (F_174 (d + 1) ((-6)) hq5) ?_
      cases h
      exact g_iret rfl rfl
    · rw [if_neg c4] at h
      refine g_iload_n 21 rfl rfl rfl ?_
      refine g_bipush (v := 99) 23 rfl (by decide) rfl ?_
      refine g_icmp_le 33 26 rfl rfl (fun c6 => ?_) (fun c6 => ?_)
      · rw [if_pos c6] at h
        refine g_aload_n 34 rfl rfl rfl ?_
        refine g_get 37 rfl s_280 (Nat.le_of_ble_eq_true rfl) rfl rfl ?_
        refine g_bipush (v := 12) 39 rfl (by decide) rfl ?_
        refine g_iload_n 40 rfl rfl rfl ?_
        refine g_imul 41 rfl rfl ?_
        refine g_iload_n 42 rfl rfl rfl ?_
        refine g_iadd 43 rfl rfl ?_
        by_cases i7 : ib ((12 * x1) + x2) 96
        case neg => rw [if_neg i7] at h; cases h
        rw [if_pos i7] at h
        refine g_iald 44 rfl s_297 l_297 i7 rfl ?_
        refine g_istore 46 [(4, .int (U.1 297 ((12 * x1) + x2).toNatClampNeg)), (0, .ref 280), (1, .int x1), (2, .int x2), (3, .int x3)] rfl (Nat.le_of_ble_eq_true rfl) rfl rfl ?_
        refine g_aload_n 47 rfl rfl rfl ?_
        refine g_get 50 rfl s_280 (Nat.le_of_ble_eq_true rfl) rfl rfl ?_
        refine g_bipush (v := 12) 52 rfl (by decide) rfl ?_
        refine g_iload_n 53 rfl rfl rfl ?_
        refine g_imul 54 rfl rfl ?_
        refine g_iload_n 55 rfl rfl rfl ?_
        refine g_iadd 56 rfl rfl ?_
        refine g_iload_n 57 rfl rfl rfl ?_
        by_cases i8 : ib ((12 * x1) + x2) 96
        case neg => rw [if_neg i8] at h; cases h
        rw [if_pos i8] at h
        refine g_iast 58 rfl s_297 l_297 i8 rfl ?_
        refine g_iload 60 rfl rfl rfl ?_
        cases h
        exact g_iret rfl rfl
      · rw [if_neg c6] at h
        refine g_aload_n 27 rfl rfl rfl ?_
        refine g_bipush (v := (-6)) 29 rfl (by decide) rfl ?_
        obtain ⟨q9, hq9, h⟩ := Option.bind_eq_some_iff.mp h
        refine g_callV (J := sm_I174) 32 rfl (Nat.le_of_ble_eq_true rfl) rfl rfl (Nat.le_of_ble_eq_true rfl) s_280 (Nat.le_of_ble_eq_true rfl) (Nat.le_of_ble_eq_true rfl) rfl rfl (F_174 (d + 1) ((-6)) hq9) ?_
        cases h
        exact g_iret rfl rfl
  · rw [if_pos c3] at h
    refine g_aload_n 10 rfl rfl rfl ?_
    refine g_iconst (v := (-1)) 11 rfl rfl rfl ?_
    obtain ⟨q10, hq10, h⟩ := Option.bind_eq_some_iff.mp h
    refine g_callV (J := sm_I174) 14 rfl (Nat.le_of_ble_eq_true rfl) rfl rfl (Nat.le_of_ble_eq_true rfl) s_280 (Nat.le_of_ble_eq_true rfl) (Nat.le_of_ble_eq_true rfl) rfl rfl (F_174 (d + 1) ((-1)) hq10) ?_
    cases h
    exact g_iret rfl rfl

def f_215_395 : Nat → Int32 → Int32 → Int32 → Int32 → Int32 → Int32 → Int32 → Int32 → sU → Option (Int32 × sU)
  | 0, _, _, _, _, _, _, _, _, _ => none
  | n + 1, v2, v3, v4, v5, v6, v7, v8, v9, U =>
    if v6 ≤ v9 then
      some (v7, U)
    else
      if v5 = 0 then
        if v2 = 4 then
          if ib ((12 * v7) + v9) 144 then
          f_215_395 n v2 v3 v4 v5 v6 v7 v8 (v9 + 1) (sI U 301 ((12 * v7) + v9).toNatClampNeg v9)
          else none
        else
          if v2 = 1 then
            if v9 ≤ 0 then
              if ib ((12 * v7) + v9) 144 then
              f_215_395 n v2 v3 v4 v5 v6 v7 v8 (v9 + 1) (sI U 301 ((12 * v7) + v9).toNatClampNeg v8)
              else none
            else
              if ((v4 >>> ((v9 - 1) &&& 31)) &&& 1) = 1 then
                if ib ((12 * v7) + v9) 144 then
                f_215_395 n v2 v3 v4 v5 v6 v7 (v8 + 1) (v9 + 1) (sI U 301 ((12 * v7) + v9).toNatClampNeg (v8 + 1))
                else none
              else
                if ib ((12 * v7) + v9) 144 then
                f_215_395 n v2 v3 v4 v5 v6 v7 v8 (v9 + 1) (sI U 301 ((12 * v7) + v9).toNatClampNeg v8)
                else none
          else
            f_215_395 n v2 v3 v4 v5 v6 v7 v8 (v9 + 1) U
      else
        if ib ((64 * v3) + v9) 512 then
        if ib ((12 * v7) + v9) 144 then
        f_215_395 n v2 v3 v4 v5 v6 v7 v8 (v9 + 1) (sI U 301 ((12 * v7) + v9).toNatClampNeg ((U.2.1 286 ((64 * v3) + v9).toNatClampNeg).toInt32))
        else none
        else none
set_option maxRecDepth 10000 in
set_option maxHeartbeats 2000000 in
theorem F_215_395 (d : Nat)   : ∀ (n : Nat) (v2 : Int32) (v3 : Int32) (v4 : Int32) (v5 : Int32) (v6 : Int32) (v7 : Int32) (v8 : Int32) (v9 : Int32) (U : sU) (r : Int32) (U' : sU), f_215_395 n v2 v3 v4 v5 v6 v7 v8 v9 U = some (r, U') → G (d + 1) sm_I215 395 [(0, .ref 280), (2, .int v2), (3, .int v3), (4, .int v4), (5, .int v5), (6, .int v6), (7, .int v7), (8, .int v8), (9, .int v9)] [] U (some (.int r)) U' := by
  intro n
  induction n with
  | zero => intro v2 v3 v4 v5 v6 v7 v8 v9 U r U' h; cases h
  | succ n ih =>
    intro v2 v3 v4 v5 v6 v7 v8 v9 U r U' h
    first | rw [f_215_395] at h | (rw [f_215_395.eq_def] at h; dsimp only at h)
    refine g_iload 397 rfl rfl rfl ?_
    refine g_iload 399 rfl rfl rfl ?_
    refine g_icmp_ge 506 402 rfl rfl (fun c1 => ?_) (fun c1 => ?_)
    · rw [if_pos c1] at h
      refine g_iload 508 rfl rfl rfl ?_
      cases h
      exact g_iret rfl rfl
    · rw [if_neg c1] at h
      refine g_iload 404 rfl rfl rfl ?_
      refine g_if_eq 436 407 rfl rfl (fun c2 => ?_) (fun c2 => ?_)
      · rw [if_pos c2] at h
        refine g_iload_n 437 rfl rfl rfl ?_
        refine g_iconst (v := 4) 438 rfl rfl rfl ?_
        refine g_icmp_ne 459 441 rfl rfl (fun c3 => ?_) (fun c3 => ?_)
        · rw [if_neg c3] at h
          refine g_iload_n 460 rfl rfl rfl ?_
          refine g_iconst (v := 1) 461 rfl rfl rfl ?_
          refine g_icmp_ne 500 464 rfl rfl (fun c4 => ?_) (fun c4 => ?_)
          · rw [if_neg c4] at h
            refine g_iinc (v := v9 + 1) 503 [(9, .int (v9 + 1)), (0, .ref 280), (2, .int v2), (3, .int v3), (4, .int v4), (5, .int v5), (6, .int v6), (7, .int v7), (8, .int v8)] rfl rfl (Nat.le_of_ble_eq_true rfl) rfl rfl rfl ?_
            refine g_goto 395 rfl ?_
            exact g_sub (Sc rfl (Sc rfl (Sc rfl (Sc rfl (Sc rfl (Sc rfl (Sc rfl (Sc rfl (Sc rfl (Sn _)))))))))) (ih v2 v3 v4 v5 v6 v7 v8 (v9 + 1) _ _ _ h)
          · rw [if_pos c4] at h
            refine g_iload 466 rfl rfl rfl ?_
            refine g_if_le 485 469 rfl rfl (fun c5 => ?_) (fun c5 => ?_)
            · rw [if_pos c5] at h
              refine g_aload_n 486 rfl rfl rfl ?_
              refine g_get 489 rfl s_280 (Nat.le_of_ble_eq_true rfl) rfl rfl ?_
              refine g_bipush (v := 12) 491 rfl (by decide) rfl ?_
              refine g_iload 493 rfl rfl rfl ?_
              refine g_imul 494 rfl rfl ?_
              refine g_iload 496 rfl rfl rfl ?_
              refine g_iadd 497 rfl rfl ?_
              refine g_iload 499 rfl rfl rfl ?_
              by_cases i6 : ib ((12 * v7) + v9) 144
              case neg => rw [if_neg i6] at h; cases h
              rw [if_pos i6] at h
              refine g_iast 500 rfl s_301 l_301 i6 rfl ?_
              refine g_iinc (v := v9 + 1) 503 [(9, .int (v9 + 1)), (0, .ref 280), (2, .int v2), (3, .int v3), (4, .int v4), (5, .int v5), (6, .int v6), (7, .int v7), (8, .int v8)] rfl rfl (Nat.le_of_ble_eq_true rfl) rfl rfl rfl ?_
              refine g_goto 395 rfl ?_
              exact g_sub (Sc rfl (Sc rfl (Sc rfl (Sc rfl (Sc rfl (Sc rfl (Sc rfl (Sc rfl (Sc rfl (Sn _)))))))))) (ih v2 v3 v4 v5 v6 v7 v8 (v9 + 1) _ _ _ h)
            · rw [if_neg c5] at h
              refine g_iload 471 rfl rfl rfl ?_
              refine g_iload 473 rfl rfl rfl ?_
              refine g_iconst (v := 1) 474 rfl rfl rfl ?_
              refine g_isub 475 rfl rfl ?_
              refine g_ishr 476 rfl rfl ?_
              refine g_iconst (v := 1) 477 rfl rfl rfl ?_
              refine g_iand 478 rfl rfl ?_
              refine g_iconst (v := 1) 479 rfl rfl rfl ?_
              refine g_icmp_ne 485 482 rfl rfl (fun c7 => ?_) (fun c7 => ?_)
              · rw [if_neg c7] at h
                refine g_aload_n 486 rfl rfl rfl ?_
                refine g_get 489 rfl s_280 (Nat.le_of_ble_eq_true rfl) rfl rfl ?_
                refine g_bipush (v := 12) 491 rfl (by decide) rfl ?_
                refine g_iload 493 rfl rfl rfl ?_
                refine g_imul 494 rfl rfl ?_
                refine g_iload 496 rfl rfl rfl ?_
                refine g_iadd 497 rfl rfl ?_
                refine g_iload 499 rfl rfl rfl ?_
                by_cases i8 : ib ((12 * v7) + v9) 144
                case neg => rw [if_neg i8] at h; cases h
                rw [if_pos i8] at h
                refine g_iast 500 rfl s_301 l_301 i8 rfl ?_
                refine g_iinc (v := v9 + 1) 503 [(9, .int (v9 + 1)), (0, .ref 280), (2, .int v2), (3, .int v3), (4, .int v4), (5, .int v5), (6, .int v6), (7, .int v7), (8, .int v8)] rfl rfl (Nat.le_of_ble_eq_true rfl) rfl rfl rfl ?_
                refine g_goto 395 rfl ?_
                exact g_sub (Sc rfl (Sc rfl (Sc rfl (Sc rfl (Sc rfl (Sc rfl (Sc rfl (Sc rfl (Sc rfl (Sn _)))))))))) (ih v2 v3 v4 v5 v6 v7 v8 (v9 + 1) _ _ _ h)
              · rw [if_pos c7] at h
                refine g_iinc (v := v8 + 1) 485 [(8, .int (v8 + 1)), (0, .ref 280), (2, .int v2), (3, .int v3), (4, .int v4), (5, .int v5), (6, .int v6), (7, .int v7), (9, .int v9)] rfl rfl (Nat.le_of_ble_eq_true rfl) rfl rfl rfl ?_
                refine g_aload_n 486 rfl rfl rfl ?_
                refine g_get 489 rfl s_280 (Nat.le_of_ble_eq_true rfl) rfl rfl ?_
                refine g_bipush (v := 12) 491 rfl (by decide) rfl ?_
                refine g_iload 493 rfl rfl rfl ?_
                refine g_imul 494 rfl rfl ?_
                refine g_iload 496 rfl rfl rfl ?_
                refine g_iadd 497 rfl rfl ?_
                refine g_iload 499 rfl rfl rfl ?_
                by_cases i9 : ib ((12 * v7) + v9) 144
                case neg => rw [if_neg i9] at h; cases h
                rw [if_pos i9] at h
                refine g_iast 500 rfl s_301 l_301 i9 rfl ?_
                refine g_iinc (v := v9 + 1) 503 [(9, .int (v9 + 1)), (8, .int (v8 + 1)), (0, .ref 280), (2, .int v2), (3, .int v3), (4, .int v4), (5, .int v5), (6, .int v6), (7, .int v7)] rfl rfl (Nat.le_of_ble_eq_true rfl) rfl rfl rfl ?_
                refine g_goto 395 rfl ?_
                exact g_sub (Sc rfl (Sc rfl (Sc rfl (Sc rfl (Sc rfl (Sc rfl (Sc rfl (Sc rfl (Sc rfl (Sn _)))))))))) (ih v2 v3 v4 v5 v6 v7 (v8 + 1) (v9 + 1) _ _ _ h)
        · rw [if_pos c3] at h
          refine g_aload_n 442 rfl rfl rfl ?_
          refine g_get 445 rfl s_280 (Nat.le_of_ble_eq_true rfl) rfl rfl ?_
          refine g_bipush (v := 12) 447 rfl (by decide) rfl ?_
          refine g_iload 449 rfl rfl rfl ?_
          refine g_imul 450 rfl rfl ?_
          refine g_iload 452 rfl rfl rfl ?_
          refine g_iadd 453 rfl rfl ?_
          refine g_iload 455 rfl rfl rfl ?_
          by_cases i10 : ib ((12 * v7) + v9) 144
          case neg => rw [if_neg i10] at h; cases h
          rw [if_pos i10] at h
          refine g_iast 456 rfl s_301 l_301 i10 rfl ?_
          refine g_goto 500 rfl ?_
          refine g_iinc (v := v9 + 1) 503 [(9, .int (v9 + 1)), (0, .ref 280), (2, .int v2), (3, .int v3), (4, .int v4), (5, .int v5), (6, .int v6), (7, .int v7), (8, .int v8)] rfl rfl (Nat.le_of_ble_eq_true rfl) rfl rfl rfl ?_
          refine g_goto 395 rfl ?_
          exact g_sub (Sc rfl (Sc rfl (Sc rfl (Sc rfl (Sc rfl (Sc rfl (Sc rfl (Sc rfl (Sc rfl (Sn _)))))))))) (ih v2 v3 v4 v5 v6 v7 v8 (v9 + 1) _ _ _ h)
      · rw [if_neg c2] at h
        refine g_aload_n 408 rfl rfl rfl ?_
        refine g_get 411 rfl s_280 (Nat.le_of_ble_eq_true rfl) rfl rfl ?_
        refine g_bipush (v := 12) 413 rfl (by decide) rfl ?_
        refine g_iload 415 rfl rfl rfl ?_
        refine g_imul 416 rfl rfl ?_
        refine g_iload 418 rfl rfl rfl ?_
        refine g_iadd 419 rfl rfl ?_
        refine g_aload_n 420 rfl rfl rfl ?_
        refine g_get 423 rfl s_280 (Nat.le_of_ble_eq_true rfl) rfl rfl ?_
        refine g_bipush (v := 64) 425 rfl (by decide) rfl ?_
        refine g_iload_n 426 rfl rfl rfl ?_
        refine g_imul 427 rfl rfl ?_
        refine g_iload 429 rfl rfl rfl ?_
        refine g_iadd 430 rfl rfl ?_
        by_cases i11 : ib ((64 * v3) + v9) 512
        case neg => rw [if_neg i11] at h; cases h
        rw [if_pos i11] at h
        refine g_lald 431 rfl s_286 l_286 i11 rfl ?_
        refine g_l2i 432 rfl rfl ?_
        by_cases i12 : ib ((12 * v7) + v9) 144
        case neg => rw [if_neg i12] at h; cases h
        rw [if_pos i12] at h
        refine g_iast 433 rfl s_301 l_301 i12 rfl ?_
        refine g_goto 500 rfl ?_
        refine g_iinc (v := v9 + 1) 503 [(9, .int (v9 + 1)), (0, .ref 280), (2, .int v2), (3, .int v3), (4, .int v4), (5, .int v5), (6, .int v6), (7, .int v7), (8, .int v8)] rfl rfl (Nat.le_of_ble_eq_true rfl) rfl rfl rfl ?_
        refine g_goto 395 rfl ?_
        exact g_sub (Sc rfl (Sc rfl (Sc rfl (Sc rfl (Sc rfl (Sc rfl (Sc rfl (Sc rfl (Sc rfl (Sn _)))))))))) (ih v2 v3 v4 v5 v6 v7 v8 (v9 + 1) _ _ _ h)
def f_215_351 : Nat → Int32 → Int32 → Int32 → Int32 → Int32 → Int32 → Int32 → Int32 → sU → Option (Int32 × sU)
  | 0, _, _, _, _, _, _, _, _, _ => none
  | n + 1, v2, v3, v4, v5, v6, v7, v8, v9, U =>
    if 12 ≤ v9 then
      f_215_395 FU v2 v3 v4 v5 v6 v7 v8 0 U
    else
      if ib ((12 * v7) + v9) 144 then
      if ib ((12 * v7) + v9) 144 then
      f_215_351 n v2 v3 v4 v5 v6 v7 v8 (v9 + 1) (sI (sI U 302 ((12 * v7) + v9).toNatClampNeg 0) 301 ((12 * v7) + v9).toNatClampNeg 0)
      else none
      else none
set_option maxRecDepth 10000 in
set_option maxHeartbeats 2000000 in
theorem F_215_351 (d : Nat)   : ∀ (n : Nat) (v2 : Int32) (v3 : Int32) (v4 : Int32) (v5 : Int32) (v6 : Int32) (v7 : Int32) (v8 : Int32) (v9 : Int32) (U : sU) (r : Int32) (U' : sU), f_215_351 n v2 v3 v4 v5 v6 v7 v8 v9 U = some (r, U') → G (d + 1) sm_I215 351 [(0, .ref 280), (2, .int v2), (3, .int v3), (4, .int v4), (5, .int v5), (6, .int v6), (7, .int v7), (8, .int v8), (9, .int v9)] [] U (some (.int r)) U' := by
  intro n
  induction n with
  | zero => intro v2 v3 v4 v5 v6 v7 v8 v9 U r U' h; cases h
  | succ n ih =>
    intro v2 v3 v4 v5 v6 v7 v8 v9 U r U' h
    first | rw [f_215_351] at h | (rw [f_215_351.eq_def] at h; dsimp only at h)
    refine g_iload 353 rfl rfl rfl ?_
    refine g_bipush (v := 12) 355 rfl (by decide) rfl ?_
    refine g_icmp_ge 392 358 rfl rfl (fun c13 => ?_) (fun c13 => ?_)
    · rw [if_pos c13] at h
      refine g_iconst (v := 0) 393 rfl rfl rfl ?_
      refine g_istore 395 [(9, .int 0), (0, .ref 280), (2, .int v2), (3, .int v3), (4, .int v4), (5, .int v5), (6, .int v6), (7, .int v7), (8, .int v8)] rfl (Nat.le_of_ble_eq_true rfl) rfl rfl ?_
      exact g_sub (Sc rfl (Sc rfl (Sc rfl (Sc rfl (Sc rfl (Sc rfl (Sc rfl (Sc rfl (Sc rfl (Sn _)))))))))) (F_215_395 d _ v2 v3 v4 v5 v6 v7 v8 0 _ _ _ h)
    · rw [if_neg c13] at h
      refine g_aload_n 359 rfl rfl rfl ?_
      refine g_get 362 rfl s_280 (Nat.le_of_ble_eq_true rfl) rfl rfl ?_
      refine g_bipush (v := 12) 364 rfl (by decide) rfl ?_
      refine g_iload 366 rfl rfl rfl ?_
      refine g_imul 367 rfl rfl ?_
      refine g_iload 369 rfl rfl rfl ?_
      refine g_iadd 370 rfl rfl ?_
      refine g_iconst (v := 0) 371 rfl rfl rfl ?_
      by_cases i14 : ib ((12 * v7) + v9) 144
      case neg => rw [if_neg i14] at h; cases h
      rw [if_pos i14] at h
      refine g_iast 372 rfl s_302 l_302 i14 rfl ?_
      refine g_aload_n 373 rfl rfl rfl ?_
      refine g_get 376 rfl s_280 (Nat.le_of_ble_eq_true rfl) rfl rfl ?_
      refine g_bipush (v := 12) 378 rfl (by decide) rfl ?_
      refine g_iload 380 rfl rfl rfl ?_
      refine g_imul 381 rfl rfl ?_
      refine g_iload 383 rfl rfl rfl ?_
      refine g_iadd 384 rfl rfl ?_
      refine g_iconst (v := 0) 385 rfl rfl rfl ?_
      by_cases i15 : ib ((12 * v7) + v9) 144
      case neg => rw [if_neg i15] at h; cases h
      rw [if_pos i15] at h
      refine g_iast 386 rfl s_301 l_301 i15 rfl ?_
      refine g_iinc (v := v9 + 1) 389 [(9, .int (v9 + 1)), (0, .ref 280), (2, .int v2), (3, .int v3), (4, .int v4), (5, .int v5), (6, .int v6), (7, .int v7), (8, .int v8)] rfl rfl (Nat.le_of_ble_eq_true rfl) rfl rfl rfl ?_
      refine g_goto 351 rfl ?_
      exact g_sub (Sc rfl (Sc rfl (Sc rfl (Sc rfl (Sc rfl (Sc rfl (Sc rfl (Sc rfl (Sc rfl (Sn _)))))))))) (ih v2 v3 v4 v5 v6 v7 v8 (v9 + 1) _ _ _ h)
def f_215_282 (v1 : Int32) (v2 : Int32) (v3 : Int32) (v4 : Int32) (v5 : Int32) (v6 : Int32) (U : sU) : Option (Int32 × sU) :=
  if (U.1 280 1) = 12 then
    Option.bind (f_174 ((-7)) U) fun q22 =>
    some (q22.1, q22.2)
  else
    if ib (U.1 280 1) 12 then
    if ib (U.1 280 1) 12 then
    if v2 = 2 then
      if ib (U.1 280 1) 12 then
      f_215_351 FU v2 v3 v4 v5 v6 (U.1 280 1) 0 0 (sI (sI (sI (sI U 280 1 ((U.1 280 1) + 1)) 298 (U.1 280 1).toNatClampNeg v1) 299 (U.1 280 1).toNatClampNeg v2) 300 (U.1 280 1).toNatClampNeg v4)
      else none
    else
      if ib (U.1 280 1) 12 then
      f_215_351 FU v2 v3 v4 v5 v6 (U.1 280 1) 0 0 (sI (sI (sI (sI U 280 1 ((U.1 280 1) + 1)) 298 (U.1 280 1).toNatClampNeg v1) 299 (U.1 280 1).toNatClampNeg v2) 300 (U.1 280 1).toNatClampNeg 0)
      else none
    else none
    else none
set_option maxRecDepth 10000 in
set_option maxHeartbeats 2000000 in
theorem F_215_282 (d : Nat)   (v1 : Int32) (v2 : Int32) (v3 : Int32) (v4 : Int32) (v5 : Int32) (v6 : Int32) {U : sU} {r : Int32} {U' : sU} (h : f_215_282 v1 v2 v3 v4 v5 v6 U = some (r, U')) : G (d + 1) sm_I215 282 [(0, .ref 280), (1, .int v1), (2, .int v2), (3, .int v3), (4, .int v4), (5, .int v5), (6, .int v6)] [] U (some (.int r)) U' := by
  first | rw [f_215_282] at h | rw [f_215_282.eq_def] at h
  refine g_aload_n 283 rfl rfl rfl ?_
  refine g_get 286 rfl s_280 (Nat.le_of_ble_eq_true rfl) rfl rfl ?_
  refine g_bipush (v := 12) 288 rfl (by decide) rfl ?_
  refine g_icmp_ne 298 291 rfl rfl (fun c16 => ?_) (fun c16 => ?_)
  · rw [if_neg c16] at h
    refine g_aload_n 299 rfl rfl rfl ?_
    refine g_dup 300 rfl rfl rfl ?_
    refine g_get 303 rfl s_280 (Nat.le_of_ble_eq_true rfl) rfl rfl ?_
    refine g_dup_x1 304 rfl rfl rfl rfl ?_
    refine g_iconst (v := 1) 305 rfl rfl rfl ?_
    refine g_iadd 306 rfl rfl ?_
    refine g_putI 309 rfl s_280 (Nat.le_of_ble_eq_true rfl) (Nat.le_of_ble_eq_true rfl) rfl fs_10_1 rfl ?_
    refine g_istore 311 [(7, .int (U.1 280 1)), (0, .ref 280), (1, .int v1), (2, .int v2), (3, .int v3), (4, .int v4), (5, .int v5), (6, .int v6)] rfl (Nat.le_of_ble_eq_true rfl) rfl rfl ?_
    refine g_aload_n 312 rfl rfl rfl ?_
    refine g_get 315 rfl s_280 (Nat.le_of_ble_eq_true rfl) rfl rfl ?_
    refine g_iload 317 rfl rfl rfl ?_
    refine g_iload_n 318 rfl rfl rfl ?_
    by_cases i17 : ib (U.1 280 1) 12
    case neg => rw [if_neg i17] at h; cases h
    rw [if_pos i17] at h
    refine g_iast 319 rfl s_298 l_298 i17 rfl ?_
    refine g_aload_n 320 rfl rfl rfl ?_
    refine g_get 323 rfl s_280 (Nat.le_of_ble_eq_true rfl) rfl rfl ?_
    refine g_iload 325 rfl rfl rfl ?_
    refine g_iload_n 326 rfl rfl rfl ?_
    by_cases i18 : ib (U.1 280 1) 12
    case neg => rw [if_neg i18] at h; cases h
    rw [if_pos i18] at h
    refine g_iast 327 rfl s_299 l_299 i18 rfl ?_
    refine g_aload_n 328 rfl rfl rfl ?_
    refine g_get 331 rfl s_280 (Nat.le_of_ble_eq_true rfl) rfl rfl ?_
    refine g_iload 333 rfl rfl rfl ?_
    refine g_iload_n 334 rfl rfl rfl ?_
    refine g_iconst (v := 2) 335 rfl rfl rfl ?_
    refine g_icmp_ne 343 338 rfl rfl (fun c19 => ?_) (fun c19 => ?_)
    · rw [if_neg c19] at h
      refine g_iconst (v := 0) 344 rfl rfl rfl ?_
      by_cases i20 : ib (U.1 280 1) 12
      case neg => rw [if_neg i20] at h; cases h
      rw [if_pos i20] at h
      refine g_iast 345 rfl s_300 l_300 i20 rfl ?_
      refine g_iconst (v := 0) 346 rfl rfl rfl ?_
      refine g_istore 348 [(8, .int 0), (7, .int (U.1 280 1)), (0, .ref 280), (1, .int v1), (2, .int v2), (3, .int v3), (4, .int v4), (5, .int v5), (6, .int v6)] rfl (Nat.le_of_ble_eq_true rfl) rfl rfl ?_
      refine g_iconst (v := 0) 349 rfl rfl rfl ?_
      refine g_istore 351 [(9, .int 0), (8, .int 0), (7, .int (U.1 280 1)), (0, .ref 280), (1, .int v1), (2, .int v2), (3, .int v3), (4, .int v4), (5, .int v5), (6, .int v6)] rfl (Nat.le_of_ble_eq_true rfl) rfl rfl ?_
      exact g_sub (Sc rfl (Sc rfl (Sc rfl (Sc rfl (Sc rfl (Sc rfl (Sc rfl (Sc rfl (Sc rfl (Sn _)))))))))) (F_215_351 d _ v2 v3 v4 v5 v6 (U.1 280 1) 0 0 _ _ _ h)
    · rw [if_pos c19] at h
      refine g_iload 340 rfl rfl rfl ?_
      refine g_goto 344 rfl ?_
      by_cases i21 : ib (U.1 280 1) 12
      case neg => rw [if_neg i21] at h; cases h
      rw [if_pos i21] at h
      refine g_iast 345 rfl s_300 l_300 i21 rfl ?_
      refine g_iconst (v := 0) 346 rfl rfl rfl ?_
      refine g_istore 348 [(8, .int 0), (7, .int (U.1 280 1)), (0, .ref 280), (1, .int v1), (2, .int v2), (3, .int v3), (4, .int v4), (5, .int v5), (6, .int v6)] rfl (Nat.le_of_ble_eq_true rfl) rfl rfl ?_
      refine g_iconst (v := 0) 349 rfl rfl rfl ?_
      refine g_istore 351 [(9, .int 0), (8, .int 0), (7, .int (U.1 280 1)), (0, .ref 280), (1, .int v1), (2, .int v2), (3, .int v3), (4, .int v4), (5, .int v5), (6, .int v6)] rfl (Nat.le_of_ble_eq_true rfl) rfl rfl ?_
      exact g_sub (Sc rfl (Sc rfl (Sc rfl (Sc rfl (Sc rfl (Sc rfl (Sc rfl (Sc rfl (Sc rfl (Sn _)))))))))) (F_215_351 d _ v2 v3 v4 v5 v6 (U.1 280 1) 0 0 _ _ _ h)
  · rw [if_pos c16] at h
    refine g_aload_n 292 rfl rfl rfl ?_
    refine g_bipush (v := (-7)) 294 rfl (by decide) rfl ?_
    obtain ⟨q22, hq22, h⟩ := Option.bind_eq_some_iff.mp h
    refine g_callV (J := sm_I174) 297 rfl (Nat.le_of_ble_eq_true rfl) rfl rfl (Nat.le_of_ble_eq_true rfl) s_280 (Nat.le_of_ble_eq_true rfl) (Nat.le_of_ble_eq_true rfl) rfl rfl (F_174 d ((-7)) hq22) ?_
    cases h
    exact g_iret rfl rfl
def f_215_259 (v1 : Int32) (v2 : Int32) (v3 : Int32) (v4 : Int32) (v5 : Int32) (v6 : Int32) (U : sU) : Option (Int32 × sU) :=
  if v2 = 4 then
    if ib v1 8 then
    if v6 ≤ (U.1 291 v1.toNatClampNeg) then
      f_215_282 v1 v2 v3 v4 v5 v6 U
    else
      Option.bind (f_174 ((-6)) U) fun q26 =>
      some (q26.1, q26.2)
    else none
  else
    f_215_282 v1 v2 v3 v4 v5 v6 U
set_option maxRecDepth 10000 in
set_option maxHeartbeats 2000000 in
theorem F_215_259 (d : Nat)   (v1 : Int32) (v2 : Int32) (v3 : Int32) (v4 : Int32) (v5 : Int32) (v6 : Int32) {U : sU} {r : Int32} {U' : sU} (h : f_215_259 v1 v2 v3 v4 v5 v6 U = some (r, U')) : G (d + 1) sm_I215 259 [(0, .ref 280), (1, .int v1), (2, .int v2), (3, .int v3), (4, .int v4), (5, .int v5), (6, .int v6)] [] U (some (.int r)) U' := by
  first | rw [f_215_259] at h | rw [f_215_259.eq_def] at h
  refine g_iload_n 260 rfl rfl rfl ?_
  refine g_iconst (v := 4) 261 rfl rfl rfl ?_
  refine g_icmp_ne 282 264 rfl rfl (fun c23 => ?_) (fun c23 => ?_)
  · rw [if_neg c23] at h
    exact g_sub (Sc rfl (Sc rfl (Sc rfl (Sc rfl (Sc rfl (Sc rfl (Sc rfl (Sn _)))))))) (F_215_282 d v1 v2 v3 v4 v5 v6 h)
  · rw [if_pos c23] at h
    refine g_iload 266 rfl rfl rfl ?_
    refine g_aload_n 267 rfl rfl rfl ?_
    refine g_get 270 rfl s_280 (Nat.le_of_ble_eq_true rfl) rfl rfl ?_
    refine g_iload_n 271 rfl rfl rfl ?_
    by_cases i24 : ib v1 8
    case neg => rw [if_neg i24] at h; cases h
    rw [if_pos i24] at h
    refine g_iald 272 rfl s_291 l_291 i24 rfl ?_
    refine g_icmp_le 282 275 rfl rfl (fun c25 => ?_) (fun c25 => ?_)
    · rw [if_pos c25] at h
      exact g_sub (Sc rfl (Sc rfl (Sc rfl (Sc rfl (Sc rfl (Sc rfl (Sc rfl (Sn _)))))))) (F_215_282 d v1 v2 v3 v4 v5 v6 h)
    · rw [if_neg c25] at h
      refine g_aload_n 276 rfl rfl rfl ?_
      refine g_bipush (v := (-6)) 278 rfl (by decide) rfl ?_
      obtain ⟨q26, hq26, h⟩ := Option.bind_eq_some_iff.mp h
      refine g_callV (J := sm_I174) 281 rfl (Nat.le_of_ble_eq_true rfl) rfl rfl (Nat.le_of_ble_eq_true rfl) s_280 (Nat.le_of_ble_eq_true rfl) (Nat.le_of_ble_eq_true rfl) rfl rfl (F_174 d ((-6)) hq26) ?_
      cases h
      exact g_iret rfl rfl
def f_215_214 (v1 : Int32) (v2 : Int32) (v3 : Int32) (v4 : Int32) (v5 : Int32) (v6 : Int32) (U : sU) : Option (Int32 × sU) :=
  if v2 = 1 then
    if v4 < 0 then
      Option.bind (f_174 ((-6)) U) fun q29 =>
      some (q29.1, q29.2)
    else
      if (1 <<< ((v6 - 1) &&& 31)) ≤ v4 then
        Option.bind (f_174 ((-6)) U) fun q31 =>
        some (q31.1, q31.2)
      else
        Option.bind (f_214 v4 U) fun q32 =>
        if ib v1 8 then
        if (q32 + 1) ≤ (U.1 291 v1.toNatClampNeg) then
          f_215_259 v1 v2 v3 v4 v5 v6 U
        else
          Option.bind (f_174 ((-6)) U) fun q35 =>
          some (q35.1, q35.2)
        else none
  else
    f_215_259 v1 v2 v3 v4 v5 v6 U
set_option maxRecDepth 10000 in
set_option maxHeartbeats 2000000 in
theorem F_215_214 (d : Nat)   (v1 : Int32) (v2 : Int32) (v3 : Int32) (v4 : Int32) (v5 : Int32) (v6 : Int32) {U : sU} {r : Int32} {U' : sU} (h : f_215_214 v1 v2 v3 v4 v5 v6 U = some (r, U')) : G (d + 1) sm_I215 214 [(0, .ref 280), (1, .int v1), (2, .int v2), (3, .int v3), (4, .int v4), (5, .int v5), (6, .int v6)] [] U (some (.int r)) U' := by
  first | rw [f_215_214] at h | rw [f_215_214.eq_def] at h
  refine g_iload_n 215 rfl rfl rfl ?_
  refine g_iconst (v := 1) 216 rfl rfl rfl ?_
  refine g_icmp_ne 259 219 rfl rfl (fun c27 => ?_) (fun c27 => ?_)
  · rw [if_neg c27] at h
    exact g_sub (Sc rfl (Sc rfl (Sc rfl (Sc rfl (Sc rfl (Sc rfl (Sc rfl (Sn _)))))))) (F_215_259 d v1 v2 v3 v4 v5 v6 h)
  · rw [if_pos c27] at h
    refine g_iload 221 rfl rfl rfl ?_
    refine g_if_lt 252 224 rfl rfl (fun c28 => ?_) (fun c28 => ?_)
    · rw [if_pos c28] at h
      refine g_aload_n 253 rfl rfl rfl ?_
      refine g_bipush (v := (-6)) 255 rfl (by decide) rfl ?_
      obtain ⟨q29, hq29, h⟩ := Option.bind_eq_some_iff.mp h
      refine g_callV (J := sm_I174) 258 rfl (Nat.le_of_ble_eq_true rfl) rfl rfl (Nat.le_of_ble_eq_true rfl) s_280 (Nat.le_of_ble_eq_true rfl) (Nat.le_of_ble_eq_true rfl) rfl rfl (F_174 d ((-6)) hq29) ?_
      cases h
      exact g_iret rfl rfl
    · rw [if_neg c28] at h
      refine g_iload 226 rfl rfl rfl ?_
      refine g_iconst (v := 1) 227 rfl rfl rfl ?_
      refine g_iload 229 rfl rfl rfl ?_
      refine g_iconst (v := 1) 230 rfl rfl rfl ?_
      refine g_isub 231 rfl rfl ?_
      refine g_ishl 232 rfl rfl ?_
      refine g_icmp_ge 252 235 rfl rfl (fun c30 => ?_) (fun c30 => ?_)
      · rw [if_pos c30] at h
        refine g_aload_n 253 rfl rfl rfl ?_
        refine g_bipush (v := (-6)) 255 rfl (by decide) rfl ?_
        obtain ⟨q31, hq31, h⟩ := Option.bind_eq_some_iff.mp h
        refine g_callV (J := sm_I174) 258 rfl (Nat.le_of_ble_eq_true rfl) rfl rfl (Nat.le_of_ble_eq_true rfl) s_280 (Nat.le_of_ble_eq_true rfl) (Nat.le_of_ble_eq_true rfl) rfl rfl (F_174 d ((-6)) hq31) ?_
        cases h
        exact g_iret rfl rfl
      · rw [if_neg c30] at h
        refine g_aload_n 236 rfl rfl rfl ?_
        refine g_iload 238 rfl rfl rfl ?_
        obtain ⟨q32, hq32, h⟩ := Option.bind_eq_some_iff.mp h
        refine g_callV (J := sm_I214) 241 rfl (Nat.le_of_ble_eq_true rfl) rfl rfl (Nat.le_of_ble_eq_true rfl) s_280 (Nat.le_of_ble_eq_true rfl) (Nat.le_of_ble_eq_true rfl) rfl rfl (F_214 d v4 hq32) ?_
        refine g_iconst (v := 1) 242 rfl rfl rfl ?_
        refine g_iadd 243 rfl rfl ?_
        refine g_aload_n 244 rfl rfl rfl ?_
        refine g_get 247 rfl s_280 (Nat.le_of_ble_eq_true rfl) rfl rfl ?_
        refine g_iload_n 248 rfl rfl rfl ?_
        by_cases i33 : ib v1 8
        case neg => rw [if_neg i33] at h; cases h
        rw [if_pos i33] at h
        refine g_iald 249 rfl s_291 l_291 i33 rfl ?_
        refine g_icmp_le 259 252 rfl rfl (fun c34 => ?_) (fun c34 => ?_)
        · rw [if_pos c34] at h
          exact g_sub (Sc rfl (Sc rfl (Sc rfl (Sc rfl (Sc rfl (Sc rfl (Sc rfl (Sn _)))))))) (F_215_259 d v1 v2 v3 v4 v5 v6 h)
        · rw [if_neg c34] at h
          refine g_aload_n 253 rfl rfl rfl ?_
          refine g_bipush (v := (-6)) 255 rfl (by decide) rfl ?_
          obtain ⟨q35, hq35, h⟩ := Option.bind_eq_some_iff.mp h
          refine g_callV (J := sm_I174) 258 rfl (Nat.le_of_ble_eq_true rfl) rfl rfl (Nat.le_of_ble_eq_true rfl) s_280 (Nat.le_of_ble_eq_true rfl) (Nat.le_of_ble_eq_true rfl) rfl rfl (F_174 d ((-6)) hq35) ?_
          cases h
          exact g_iret rfl rfl
def f_215_190 (v1 : Int32) (v2 : Int32) (v3 : Int32) (v4 : Int32) (v5 : Int32) (v6 : Int32) (U : sU) : Option (Int32 × sU) :=
  if v2 = 2 then
    if v4 < 0 then
      Option.bind (f_174 ((-6)) U) fun q38 =>
      some (q38.1, q38.2)
    else
      if v4 ≤ 100 then
        f_215_214 v1 v2 v3 v4 v5 v6 U
      else
        Option.bind (f_174 ((-6)) U) fun q40 =>
        some (q40.1, q40.2)
  else
    f_215_214 v1 v2 v3 v4 v5 v6 U
set_option maxRecDepth 10000 in
set_option maxHeartbeats 2000000 in
theorem F_215_190 (d : Nat)   (v1 : Int32) (v2 : Int32) (v3 : Int32) (v4 : Int32) (v5 : Int32) (v6 : Int32) {U : sU} {r : Int32} {U' : sU} (h : f_215_190 v1 v2 v3 v4 v5 v6 U = some (r, U')) : G (d + 1) sm_I215 190 [(0, .ref 280), (1, .int v1), (2, .int v2), (3, .int v3), (4, .int v4), (5, .int v5), (6, .int v6)] [] U (some (.int r)) U' := by
  first | rw [f_215_190] at h | rw [f_215_190.eq_def] at h
  refine g_iload_n 191 rfl rfl rfl ?_
  refine g_iconst (v := 2) 192 rfl rfl rfl ?_
  refine g_icmp_ne 214 195 rfl rfl (fun c36 => ?_) (fun c36 => ?_)
  · rw [if_neg c36] at h
    exact g_sub (Sc rfl (Sc rfl (Sc rfl (Sc rfl (Sc rfl (Sc rfl (Sc rfl (Sn _)))))))) (F_215_214 d v1 v2 v3 v4 v5 v6 h)
  · rw [if_pos c36] at h
    refine g_iload 197 rfl rfl rfl ?_
    refine g_if_lt 207 200 rfl rfl (fun c37 => ?_) (fun c37 => ?_)
    · rw [if_pos c37] at h
      refine g_aload_n 208 rfl rfl rfl ?_
      refine g_bipush (v := (-6)) 210 rfl (by decide) rfl ?_
      obtain ⟨q38, hq38, h⟩ := Option.bind_eq_some_iff.mp h
      refine g_callV (J := sm_I174) 213 rfl (Nat.le_of_ble_eq_true rfl) rfl rfl (Nat.le_of_ble_eq_true rfl) s_280 (Nat.le_of_ble_eq_true rfl) (Nat.le_of_ble_eq_true rfl) rfl rfl (F_174 d ((-6)) hq38) ?_
      cases h
      exact g_iret rfl rfl
    · rw [if_neg c37] at h
      refine g_iload 202 rfl rfl rfl ?_
      refine g_bipush (v := 100) 204 rfl (by decide) rfl ?_
      refine g_icmp_le 214 207 rfl rfl (fun c39 => ?_) (fun c39 => ?_)
      · rw [if_pos c39] at h
        exact g_sub (Sc rfl (Sc rfl (Sc rfl (Sc rfl (Sc rfl (Sc rfl (Sc rfl (Sn _)))))))) (F_215_214 d v1 v2 v3 v4 v5 v6 h)
      · rw [if_neg c39] at h
        refine g_aload_n 208 rfl rfl rfl ?_
        refine g_bipush (v := (-6)) 210 rfl (by decide) rfl ?_
        obtain ⟨q40, hq40, h⟩ := Option.bind_eq_some_iff.mp h
        refine g_callV (J := sm_I174) 213 rfl (Nat.le_of_ble_eq_true rfl) rfl rfl (Nat.le_of_ble_eq_true rfl) s_280 (Nat.le_of_ble_eq_true rfl) (Nat.le_of_ble_eq_true rfl) rfl rfl (F_174 d ((-6)) hq40) ?_
        cases h
        exact g_iret rfl rfl
def f_215_139 : Nat → Int32 → Int32 → Int32 → Int32 → Int32 → Int32 → Int32 → sU → Option (Int32 × sU)
  | 0, _, _, _, _, _, _, _, _ => none
  | n + 1, v1, v2, v3, v4, v5, v6, v7, U =>
    if v6 ≤ v7 then
      f_215_190 v1 v2 v3 v4 v5 v6 U
    else
      if ib ((64 * v3) + v7) 512 then
      if ((U.2.1 286 ((64 * v3) + v7).toNatClampNeg).toInt32) < 0 then
        Option.bind (f_174 ((-6)) U) fun q44 =>
        some (q44.1, q44.2)
      else
        if ib v1 8 then
        if ((U.2.1 286 ((64 * v3) + v7).toNatClampNeg).toInt32) < (U.1 291 v1.toNatClampNeg) then
          f_215_139 n v1 v2 v3 v4 v5 v6 (v7 + 1) U
        else
          Option.bind (f_174 ((-6)) U) fun q47 =>
          some (q47.1, q47.2)
        else none
      else none
set_option maxRecDepth 10000 in
set_option maxHeartbeats 2000000 in
theorem F_215_139 (d : Nat)   : ∀ (n : Nat) (v1 : Int32) (v2 : Int32) (v3 : Int32) (v4 : Int32) (v5 : Int32) (v6 : Int32) (v7 : Int32) (U : sU) (r : Int32) (U' : sU), f_215_139 n v1 v2 v3 v4 v5 v6 v7 U = some (r, U') → G (d + 1) sm_I215 139 [(0, .ref 280), (1, .int v1), (2, .int v2), (3, .int v3), (4, .int v4), (5, .int v5), (6, .int v6), (7, .int v7)] [] U (some (.int r)) U' := by
  intro n
  induction n with
  | zero => intro v1 v2 v3 v4 v5 v6 v7 U r U' h; cases h
  | succ n ih =>
    intro v1 v2 v3 v4 v5 v6 v7 U r U' h
    first | rw [f_215_139] at h | (rw [f_215_139.eq_def] at h; dsimp only at h)
    refine g_iload 141 rfl rfl rfl ?_
    refine g_iload 143 rfl rfl rfl ?_
    refine g_icmp_ge 190 146 rfl rfl (fun c41 => ?_) (fun c41 => ?_)
    · rw [if_pos c41] at h
      exact g_sub (Sc rfl (Sc rfl (Sc rfl (Sc rfl (Sc rfl (Sc rfl (Sc rfl (Sn _)))))))) (F_215_190 d v1 v2 v3 v4 v5 v6 h)
    · rw [if_neg c41] at h
      refine g_aload_n 147 rfl rfl rfl ?_
      refine g_get 150 rfl s_280 (Nat.le_of_ble_eq_true rfl) rfl rfl ?_
      refine g_bipush (v := 64) 152 rfl (by decide) rfl ?_
      refine g_iload_n 153 rfl rfl rfl ?_
      refine g_imul 154 rfl rfl ?_
      refine g_iload 156 rfl rfl rfl ?_
      refine g_iadd 157 rfl rfl ?_
      by_cases i42 : ib ((64 * v3) + v7) 512
      case neg => rw [if_neg i42] at h; cases h
      rw [if_pos i42] at h
      refine g_lald 158 rfl s_286 l_286 i42 rfl ?_
      refine g_l2i 159 rfl rfl ?_
      refine g_istore 161 [(8, .int ((U.2.1 286 ((64 * v3) + v7).toNatClampNeg).toInt32)), (0, .ref 280), (1, .int v1), (2, .int v2), (3, .int v3), (4, .int v4), (5, .int v5), (6, .int v6), (7, .int v7)] rfl (Nat.le_of_ble_eq_true rfl) rfl rfl ?_
      refine g_iload 163 rfl rfl rfl ?_
      refine g_if_lt 177 166 rfl rfl (fun c43 => ?_) (fun c43 => ?_)
      · rw [if_pos c43] at h
        refine g_aload_n 178 rfl rfl rfl ?_
        refine g_bipush (v := (-6)) 180 rfl (by decide) rfl ?_
        obtain ⟨q44, hq44, h⟩ := Option.bind_eq_some_iff.mp h
        refine g_callV (J := sm_I174) 183 rfl (Nat.le_of_ble_eq_true rfl) rfl rfl (Nat.le_of_ble_eq_true rfl) s_280 (Nat.le_of_ble_eq_true rfl) (Nat.le_of_ble_eq_true rfl) rfl rfl (F_174 d ((-6)) hq44) ?_
        cases h
        exact g_iret rfl rfl
      · rw [if_neg c43] at h
        refine g_iload 168 rfl rfl rfl ?_
        refine g_aload_n 169 rfl rfl rfl ?_
        refine g_get 172 rfl s_280 (Nat.le_of_ble_eq_true rfl) rfl rfl ?_
        refine g_iload_n 173 rfl rfl rfl ?_
        by_cases i45 : ib v1 8
        case neg => rw [if_neg i45] at h; cases h
        rw [if_pos i45] at h
        refine g_iald 174 rfl s_291 l_291 i45 rfl ?_
        refine g_icmp_lt 184 177 rfl rfl (fun c46 => ?_) (fun c46 => ?_)
        · rw [if_pos c46] at h
          refine g_iinc (v := v7 + 1) 187 [(7, .int (v7 + 1)), (8, .int ((U.2.1 286 ((64 * v3) + v7).toNatClampNeg).toInt32)), (0, .ref 280), (1, .int v1), (2, .int v2), (3, .int v3), (4, .int v4), (5, .int v5), (6, .int v6)] rfl rfl (Nat.le_of_ble_eq_true rfl) rfl rfl rfl ?_
          refine g_goto 139 rfl ?_
          exact g_sub (Sc rfl (Sc rfl (Sc rfl (Sc rfl (Sc rfl (Sc rfl (Sc rfl (Sc rfl (Sn _))))))))) (ih v1 v2 v3 v4 v5 v6 (v7 + 1) _ _ _ h)
        · rw [if_neg c46] at h
          refine g_aload_n 178 rfl rfl rfl ?_
          refine g_bipush (v := (-6)) 180 rfl (by decide) rfl ?_
          obtain ⟨q47, hq47, h⟩ := Option.bind_eq_some_iff.mp h
          refine g_callV (J := sm_I174) 183 rfl (Nat.le_of_ble_eq_true rfl) rfl rfl (Nat.le_of_ble_eq_true rfl) s_280 (Nat.le_of_ble_eq_true rfl) (Nat.le_of_ble_eq_true rfl) rfl rfl (F_174 d ((-6)) hq47) ?_
          cases h
          exact g_iret rfl rfl
def f_215_131 (v1 : Int32) (v2 : Int32) (v3 : Int32) (v4 : Int32) (v5 : Int32) (v6 : Int32) (U : sU) : Option (Int32 × sU) :=
  if v5 = 0 then
    f_215_190 v1 v2 v3 v4 v5 v6 U
  else
    f_215_139 FU v1 v2 v3 v4 v5 v6 0 U
set_option maxRecDepth 10000 in
set_option maxHeartbeats 2000000 in
theorem F_215_131 (d : Nat)   (v1 : Int32) (v2 : Int32) (v3 : Int32) (v4 : Int32) (v5 : Int32) (v6 : Int32) {U : sU} {r : Int32} {U' : sU} (h : f_215_131 v1 v2 v3 v4 v5 v6 U = some (r, U')) : G (d + 1) sm_I215 131 [(0, .ref 280), (1, .int v1), (2, .int v2), (3, .int v3), (4, .int v4), (5, .int v5), (6, .int v6)] [] U (some (.int r)) U' := by
  first | rw [f_215_131] at h | rw [f_215_131.eq_def] at h
  refine g_iload 133 rfl rfl rfl ?_
  refine g_if_eq 190 136 rfl rfl (fun c48 => ?_) (fun c48 => ?_)
  · rw [if_pos c48] at h
    exact g_sub (Sc rfl (Sc rfl (Sc rfl (Sc rfl (Sc rfl (Sc rfl (Sc rfl (Sn _)))))))) (F_215_190 d v1 v2 v3 v4 v5 v6 h)
  · rw [if_neg c48] at h
    refine g_iconst (v := 0) 137 rfl rfl rfl ?_
    refine g_istore 139 [(7, .int 0), (0, .ref 280), (1, .int v1), (2, .int v2), (3, .int v3), (4, .int v4), (5, .int v5), (6, .int v6)] rfl (Nat.le_of_ble_eq_true rfl) rfl rfl ?_
    exact g_sub (Sc rfl (Sc rfl (Sc rfl (Sc rfl (Sc rfl (Sc rfl (Sc rfl (Sc rfl (Sn _))))))))) (F_215_139 d _ v1 v2 v3 v4 v5 v6 0 _ _ _ h)
def f_215_100 (v1 : Int32) (v2 : Int32) (v3 : Int32) (v4 : Int32) (v5 : Int32) (U : sU) : Option (Int32 × sU) :=
  if ib v1 8 then
  if v5 = 0 then
    f_215_131 v1 v2 v3 v4 v5 (U.1 288 v1.toNatClampNeg) U
  else
    if ib v3 8 then
    if (U.1 288 v1.toNatClampNeg) ≤ (U.1 284 v3.toNatClampNeg) then
      f_215_131 v1 v2 v3 v4 v5 (U.1 288 v1.toNatClampNeg) U
    else
      Option.bind (f_174 ((-5)) U) fun q53 =>
      some (q53.1, q53.2)
    else none
  else none
set_option maxRecDepth 10000 in
set_option maxHeartbeats 2000000 in
theorem F_215_100 (d : Nat)   (v1 : Int32) (v2 : Int32) (v3 : Int32) (v4 : Int32) (v5 : Int32) {U : sU} {r : Int32} {U' : sU} (h : f_215_100 v1 v2 v3 v4 v5 U = some (r, U')) : G (d + 1) sm_I215 100 [(0, .ref 280), (1, .int v1), (2, .int v2), (3, .int v3), (4, .int v4), (5, .int v5)] [] U (some (.int r)) U' := by
  first | rw [f_215_100] at h | rw [f_215_100.eq_def] at h
  refine g_aload_n 101 rfl rfl rfl ?_
  refine g_get 104 rfl s_280 (Nat.le_of_ble_eq_true rfl) rfl rfl ?_
  refine g_iload_n 105 rfl rfl rfl ?_
  by_cases i49 : ib v1 8
  case neg => rw [if_neg i49] at h; cases h
  rw [if_pos i49] at h
  refine g_iald 106 rfl s_288 l_288 i49 rfl ?_
  refine g_istore 108 [(6, .int (U.1 288 v1.toNatClampNeg)), (0, .ref 280), (1, .int v1), (2, .int v2), (3, .int v3), (4, .int v4), (5, .int v5)] rfl (Nat.le_of_ble_eq_true rfl) rfl rfl ?_
  refine g_iload 110 rfl rfl rfl ?_
  refine g_if_eq 131 113 rfl rfl (fun c50 => ?_) (fun c50 => ?_)
  · rw [if_pos c50] at h
    exact g_sub (Sc rfl (Sc rfl (Sc rfl (Sc rfl (Sc rfl (Sc rfl (Sc rfl (Sn _)))))))) (F_215_131 d v1 v2 v3 v4 v5 (U.1 288 v1.toNatClampNeg) h)
  · rw [if_neg c50] at h
    refine g_aload_n 114 rfl rfl rfl ?_
    refine g_get 117 rfl s_280 (Nat.le_of_ble_eq_true rfl) rfl rfl ?_
    refine g_iload_n 118 rfl rfl rfl ?_
    by_cases i51 : ib v3 8
    case neg => rw [if_neg i51] at h; cases h
    rw [if_pos i51] at h
    refine g_iald 119 rfl s_284 l_284 i51 rfl ?_
    refine g_iload 121 rfl rfl rfl ?_
    refine g_icmp_ge 131 124 rfl rfl (fun c52 => ?_) (fun c52 => ?_)
    · rw [if_pos c52] at h
      exact g_sub (Sc rfl (Sc rfl (Sc rfl (Sc rfl (Sc rfl (Sc rfl (Sc rfl (Sn _)))))))) (F_215_131 d v1 v2 v3 v4 v5 (U.1 288 v1.toNatClampNeg) h)
    · rw [if_neg c52] at h
      refine g_aload_n 125 rfl rfl rfl ?_
      refine g_bipush (v := (-5)) 127 rfl (by decide) rfl ?_
      obtain ⟨q53, hq53, h⟩ := Option.bind_eq_some_iff.mp h
      refine g_callV (J := sm_I174) 130 rfl (Nat.le_of_ble_eq_true rfl) rfl rfl (Nat.le_of_ble_eq_true rfl) s_280 (Nat.le_of_ble_eq_true rfl) (Nat.le_of_ble_eq_true rfl) rfl rfl (F_174 d ((-5)) hq53) ?_
      cases h
      exact g_iret rfl rfl
def f_215_79 (v1 : Int32) (v2 : Int32) (v3 : Int32) (v4 : Int32) (v5 : Int32) (U : sU) : Option (Int32 × sU) :=
  if v5 = 0 then
    f_215_100 v1 v2 v3 v4 v5 U
  else
    if ib v3 8 then
    if (U.1 282 v3.toNatClampNeg) = 0 then
      Option.bind (f_174 ((-3)) U) fun q57 =>
      some (q57.1, q57.2)
    else
      f_215_100 v1 v2 v3 v4 v5 U
    else none
set_option maxRecDepth 10000 in
set_option maxHeartbeats 2000000 in
theorem F_215_79 (d : Nat)   (v1 : Int32) (v2 : Int32) (v3 : Int32) (v4 : Int32) (v5 : Int32) {U : sU} {r : Int32} {U' : sU} (h : f_215_79 v1 v2 v3 v4 v5 U = some (r, U')) : G (d + 1) sm_I215 79 [(0, .ref 280), (1, .int v1), (2, .int v2), (3, .int v3), (4, .int v4), (5, .int v5)] [] U (some (.int r)) U' := by
  first | rw [f_215_79] at h | rw [f_215_79.eq_def] at h
  refine g_iload 81 rfl rfl rfl ?_
  refine g_if_eq 100 84 rfl rfl (fun c54 => ?_) (fun c54 => ?_)
  · rw [if_pos c54] at h
    exact g_sub (Sc rfl (Sc rfl (Sc rfl (Sc rfl (Sc rfl (Sc rfl (Sn _))))))) (F_215_100 d v1 v2 v3 v4 v5 h)
  · rw [if_neg c54] at h
    refine g_aload_n 85 rfl rfl rfl ?_
    refine g_get 88 rfl s_280 (Nat.le_of_ble_eq_true rfl) rfl rfl ?_
    refine g_iload_n 89 rfl rfl rfl ?_
    by_cases i55 : ib v3 8
    case neg => rw [if_neg i55] at h; cases h
    rw [if_pos i55] at h
    refine g_iald 90 rfl s_282 l_282 i55 rfl ?_
    refine g_if_ne 100 93 rfl rfl (fun c56 => ?_) (fun c56 => ?_)
    · rw [if_neg c56] at h
      exact g_sub (Sc rfl (Sc rfl (Sc rfl (Sc rfl (Sc rfl (Sc rfl (Sn _))))))) (F_215_100 d v1 v2 v3 v4 v5 h)
    · rw [if_pos c56] at h
      refine g_aload_n 94 rfl rfl rfl ?_
      refine g_bipush (v := (-3)) 96 rfl (by decide) rfl ?_
      obtain ⟨q57, hq57, h⟩ := Option.bind_eq_some_iff.mp h
      refine g_callV (J := sm_I174) 99 rfl (Nat.le_of_ble_eq_true rfl) rfl rfl (Nat.le_of_ble_eq_true rfl) s_280 (Nat.le_of_ble_eq_true rfl) (Nat.le_of_ble_eq_true rfl) rfl rfl (F_174 d ((-3)) hq57) ?_
      cases h
      exact g_iret rfl rfl
def f_215_57 (v1 : Int32) (v2 : Int32) (v3 : Int32) (v4 : Int32) (v5 : Int32) (U : sU) : Option (Int32 × sU) :=
  if v5 = 0 then
    f_215_79 v1 v2 v3 v4 v5 U
  else
    if ib v3 8 then
    if (U.1 282 v3.toNatClampNeg) = 2 then
      Option.bind (f_174 ((-2)) U) fun q61 =>
      some (q61.1, q61.2)
    else
      f_215_79 v1 v2 v3 v4 v5 U
    else none
set_option maxRecDepth 10000 in
set_option maxHeartbeats 2000000 in
theorem F_215_57 (d : Nat)   (v1 : Int32) (v2 : Int32) (v3 : Int32) (v4 : Int32) (v5 : Int32) {U : sU} {r : Int32} {U' : sU} (h : f_215_57 v1 v2 v3 v4 v5 U = some (r, U')) : G (d + 1) sm_I215 57 [(0, .ref 280), (1, .int v1), (2, .int v2), (3, .int v3), (4, .int v4), (5, .int v5)] [] U (some (.int r)) U' := by
  first | rw [f_215_57] at h | rw [f_215_57.eq_def] at h
  refine g_iload 59 rfl rfl rfl ?_
  refine g_if_eq 79 62 rfl rfl (fun c58 => ?_) (fun c58 => ?_)
  · rw [if_pos c58] at h
    exact g_sub (Sc rfl (Sc rfl (Sc rfl (Sc rfl (Sc rfl (Sc rfl (Sn _))))))) (F_215_79 d v1 v2 v3 v4 v5 h)
  · rw [if_neg c58] at h
    refine g_aload_n 63 rfl rfl rfl ?_
    refine g_get 66 rfl s_280 (Nat.le_of_ble_eq_true rfl) rfl rfl ?_
    refine g_iload_n 67 rfl rfl rfl ?_
    by_cases i59 : ib v3 8
    case neg => rw [if_neg i59] at h; cases h
    rw [if_pos i59] at h
    refine g_iald 68 rfl s_282 l_282 i59 rfl ?_
    refine g_iconst (v := 2) 69 rfl rfl rfl ?_
    refine g_icmp_ne 79 72 rfl rfl (fun c60 => ?_) (fun c60 => ?_)
    · rw [if_neg c60] at h
      exact g_sub (Sc rfl (Sc rfl (Sc rfl (Sc rfl (Sc rfl (Sc rfl (Sn _))))))) (F_215_79 d v1 v2 v3 v4 v5 h)
    · rw [if_pos c60] at h
      refine g_aload_n 73 rfl rfl rfl ?_
      refine g_bipush (v := (-2)) 75 rfl (by decide) rfl ?_
      obtain ⟨q61, hq61, h⟩ := Option.bind_eq_some_iff.mp h
      refine g_callV (J := sm_I174) 78 rfl (Nat.le_of_ble_eq_true rfl) rfl rfl (Nat.le_of_ble_eq_true rfl) s_280 (Nat.le_of_ble_eq_true rfl) (Nat.le_of_ble_eq_true rfl) rfl rfl (F_174 d ((-2)) hq61) ?_
      cases h
      exact g_iret rfl rfl
def f_215_19 (v1 : Int32) (v2 : Int32) (v3 : Int32) (v4 : Int32) (z0 : Int32) (U : sU) : Option (Int32 × sU) :=
  if (f_178 v1 U) = 0 then
    Option.bind (f_174 ((-1)) U) fun q64 =>
    some (q64.1, q64.2)
  else
    if v2 < 0 then
      Option.bind (f_174 ((-1)) U) fun q66 =>
      some (q66.1, q66.2)
    else
      if 5 < v2 then
        Option.bind (f_174 ((-1)) U) fun q68 =>
        some (q68.1, q68.2)
      else
        if z0 = 0 then
          f_215_57 v1 v2 v3 v4 z0 U
        else
          if (f_177 v3 U) = 0 then
            Option.bind (f_174 ((-1)) U) fun q72 =>
            some (q72.1, q72.2)
          else
            f_215_57 v1 v2 v3 v4 z0 U
set_option maxRecDepth 10000 in
set_option maxHeartbeats 2000000 in
theorem F_215_19 (d : Nat)   (v1 : Int32) (v2 : Int32) (v3 : Int32) (v4 : Int32) (z0 : Int32) {U : sU} {r : Int32} {U' : sU} (h : f_215_19 v1 v2 v3 v4 z0 U = some (r, U')) : G (d + 1) sm_I215 19 [(0, .ref 280), (1, .int v1), (2, .int v2), (3, .int v3), (4, .int v4)] [.int z0] U (some (.int r)) U' := by
  first | rw [f_215_19] at h | rw [f_215_19.eq_def] at h
  refine g_istore 21 [(5, .int z0), (0, .ref 280), (1, .int v1), (2, .int v2), (3, .int v3), (4, .int v4)] rfl (Nat.le_of_ble_eq_true rfl) rfl rfl ?_
  refine g_aload_n 22 rfl rfl rfl ?_
  refine g_iload_n 23 rfl rfl rfl ?_
  have r62 := F_178 d v1 U
  refine g_callV (J := sm_I178) 26 rfl (Nat.le_of_ble_eq_true rfl) rfl rfl (Nat.le_of_ble_eq_true rfl) s_280 (Nat.le_of_ble_eq_true rfl) (Nat.le_of_ble_eq_true rfl) rfl rfl r62 ?_
  refine g_if_eq 51 29 rfl rfl (fun c63 => ?_) (fun c63 => ?_)
  · rw [if_pos c63] at h
    refine g_aload_n 52 rfl rfl rfl ?_
    refine g_iconst (v := (-1)) 53 rfl rfl rfl ?_
    obtain ⟨q64, hq64, h⟩ := Option.bind_eq_some_iff.mp h
    refine g_callV (J := sm_I174) 56 rfl (Nat.le_of_ble_eq_true rfl) rfl rfl (Nat.le_of_ble_eq_true rfl) s_280 (Nat.le_of_ble_eq_true rfl) (Nat.le_of_ble_eq_true rfl) rfl rfl (F_174 d ((-1)) hq64) ?_
    cases h
    exact g_iret rfl rfl
  · rw [if_neg c63] at h
    refine g_iload_n 30 rfl rfl rfl ?_
    refine g_if_lt 51 33 rfl rfl (fun c65 => ?_) (fun c65 => ?_)
    · rw [if_pos c65] at h
      refine g_aload_n 52 rfl rfl rfl ?_
      refine g_iconst (v := (-1)) 53 rfl rfl rfl ?_
      obtain ⟨q66, hq66, h⟩ := Option.bind_eq_some_iff.mp h
      refine g_callV (J := sm_I174) 56 rfl (Nat.le_of_ble_eq_true rfl) rfl rfl (Nat.le_of_ble_eq_true rfl) s_280 (Nat.le_of_ble_eq_true rfl) (Nat.le_of_ble_eq_true rfl) rfl rfl (F_174 d ((-1)) hq66) ?_
      cases h
      exact g_iret rfl rfl
    · rw [if_neg c65] at h
      refine g_iload_n 34 rfl rfl rfl ?_
      refine g_iconst (v := 5) 35 rfl rfl rfl ?_
      refine g_icmp_gt 51 38 rfl rfl (fun c67 => ?_) (fun c67 => ?_)
      · rw [if_pos c67] at h
        refine g_aload_n 52 rfl rfl rfl ?_
        refine g_iconst (v := (-1)) 53 rfl rfl rfl ?_
        obtain ⟨q68, hq68, h⟩ := Option.bind_eq_some_iff.mp h
        refine g_callV (J := sm_I174) 56 rfl (Nat.le_of_ble_eq_true rfl) rfl rfl (Nat.le_of_ble_eq_true rfl) s_280 (Nat.le_of_ble_eq_true rfl) (Nat.le_of_ble_eq_true rfl) rfl rfl (F_174 d ((-1)) hq68) ?_
        cases h
        exact g_iret rfl rfl
      · rw [if_neg c67] at h
        refine g_iload 40 rfl rfl rfl ?_
        refine g_if_eq 57 43 rfl rfl (fun c69 => ?_) (fun c69 => ?_)
        · rw [if_pos c69] at h
          exact g_sub (Sc rfl (Sc rfl (Sc rfl (Sc rfl (Sc rfl (Sc rfl (Sn _))))))) (F_215_57 d v1 v2 v3 v4 z0 h)
        · rw [if_neg c69] at h
          refine g_aload_n 44 rfl rfl rfl ?_
          refine g_iload_n 45 rfl rfl rfl ?_
          have r70 := F_177 d v3 U
          refine g_callV (J := sm_I177) 48 rfl (Nat.le_of_ble_eq_true rfl) rfl rfl (Nat.le_of_ble_eq_true rfl) s_280 (Nat.le_of_ble_eq_true rfl) (Nat.le_of_ble_eq_true rfl) rfl rfl r70 ?_
          refine g_if_ne 57 51 rfl rfl (fun c71 => ?_) (fun c71 => ?_)
          · rw [if_neg c71] at h
            exact g_sub (Sc rfl (Sc rfl (Sc rfl (Sc rfl (Sc rfl (Sc rfl (Sn _))))))) (F_215_57 d v1 v2 v3 v4 z0 h)
          · rw [if_pos c71] at h
            refine g_aload_n 52 rfl rfl rfl ?_
            refine g_iconst (v := (-1)) 53 rfl rfl rfl ?_
            obtain ⟨q72, hq72, h⟩ := Option.bind_eq_some_iff.mp h
            refine g_callV (J := sm_I174) 56 rfl (Nat.le_of_ble_eq_true rfl) rfl rfl (Nat.le_of_ble_eq_true rfl) s_280 (Nat.le_of_ble_eq_true rfl) (Nat.le_of_ble_eq_true rfl) rfl rfl (F_174 d ((-1)) hq72) ?_
            cases h
            exact g_iret rfl rfl
def f_215_14 (v1 : Int32) (v2 : Int32) (v3 : Int32) (v4 : Int32) (U : sU) : Option (Int32 × sU) :=
  f_215_19 v1 v2 v3 v4 1 U
set_option maxRecDepth 10000 in
set_option maxHeartbeats 2000000 in
theorem F_215_14 (d : Nat)   (v1 : Int32) (v2 : Int32) (v3 : Int32) (v4 : Int32) {U : sU} {r : Int32} {U' : sU} (h : f_215_14 v1 v2 v3 v4 U = some (r, U')) : G (d + 1) sm_I215 14 [(0, .ref 280), (1, .int v1), (2, .int v2), (3, .int v3), (4, .int v4)] [] U (some (.int r)) U' := by
  first | rw [f_215_14] at h | rw [f_215_14.eq_def] at h
  refine g_iconst (v := 1) 15 rfl rfl rfl ?_
  refine g_goto 19 rfl ?_
  exact g_sub (Sc rfl (Sc rfl (Sc rfl (Sc rfl (Sc rfl (Sn _)))))) (F_215_19 d v1 v2 v3 v4 1 h)
def f_215 (x1 : Int32) (x2 : Int32) (x3 : Int32) (x4 : Int32) (U : sU) : Option (Int32 × sU) :=
  if x2 = 0 then
    f_215_14 x1 x2 x3 x4 U
  else
    if x2 = 2 then
      f_215_14 x1 x2 x3 x4 U
    else
      if x2 = 5 then
        f_215_14 x1 x2 x3 x4 U
      else
        f_215_19 x1 x2 x3 x4 0 U
set_option maxRecDepth 10000 in
set_option maxHeartbeats 2000000 in
theorem F_215 (d : Nat) (x1 : Int32) (x2 : Int32) (x3 : Int32) (x4 : Int32) {U : sU} {r : Int32} {U' : sU} (h : f_215 x1 x2 x3 x4 U = some (r, U')) : Rn (d + 1) sm_I215 [.ref 280, .int x1, .int x2, .int x3, .int x4] U (some (.int r)) U' := by
  refine Rn_of [(0, .ref 280), (1, .int x1), (2, .int x2), (3, .int x3), (4, .int x4)] (Nat.le_of_ble_eq_true rfl) (Sc rfl (Sc rfl (Sc rfl (Sc rfl (Sc rfl (Sn _)))))) ?_
  first | rw [f_215] at h | rw [f_215.eq_def] at h
  refine g_iload_n 1 rfl rfl rfl ?_
  refine g_if_eq 14 4 rfl rfl (fun c73 => ?_) (fun c73 => ?_)
  · rw [if_pos c73] at h
    exact g_sub (Sc rfl (Sc rfl (Sc rfl (Sc rfl (Sc rfl (Sn _)))))) (F_215_14 d x1 x2 x3 x4 h)
  · rw [if_neg c73] at h
    refine g_iload_n 5 rfl rfl rfl ?_
    refine g_iconst (v := 2) 6 rfl rfl rfl ?_
    refine g_icmp_eq 14 9 rfl rfl (fun c74 => ?_) (fun c74 => ?_)
    · rw [if_pos c74] at h
      exact g_sub (Sc rfl (Sc rfl (Sc rfl (Sc rfl (Sc rfl (Sn _)))))) (F_215_14 d x1 x2 x3 x4 h)
    · rw [if_neg c74] at h
      refine g_iload_n 10 rfl rfl rfl ?_
      refine g_iconst (v := 5) 11 rfl rfl rfl ?_
      refine g_icmp_ne 18 14 rfl rfl (fun c75 => ?_) (fun c75 => ?_)
      · rw [if_neg c75] at h
        refine g_iconst (v := 0) 19 rfl rfl rfl ?_
        exact g_sub (Sc rfl (Sc rfl (Sc rfl (Sc rfl (Sc rfl (Sn _)))))) (F_215_19 d x1 x2 x3 x4 0 h)
      · rw [if_pos c75] at h
        exact g_sub (Sc rfl (Sc rfl (Sc rfl (Sc rfl (Sc rfl (Sn _)))))) (F_215_14 d x1 x2 x3 x4 h)

def f_216 (x1 : Int32) (x2 : Int32) (x3 : Int32) (U : sU) : Option (Int32 × sU) :=
  if (f_180 x1 U) = 0 then
    Option.bind (f_174 ((-1)) U) fun q16 =>
    some (q16.1, q16.2)
  else
    if ib x1 12 then
    if (U.1 299 x1.toNatClampNeg) = 5 then
      if x2 < 0 then
        Option.bind (f_174 ((-6)) U) fun q6 =>
        some (q6.1, q6.2)
      else
        if 11 < x2 then
          Option.bind (f_174 ((-6)) U) fun q8 =>
          some (q8.1, q8.2)
        else
          if x3 < 0 then
            Option.bind (f_174 ((-6)) U) fun q10 =>
            some (q10.1, q10.2)
          else
            if x3 ≤ 999 then
              if ib ((12 * x1) + x2) 144 then
              if ib ((12 * x1) + x2) 144 then
              some (U.1 302 ((12 * x1) + x2).toNatClampNeg, sI U 302 ((12 * x1) + x2).toNatClampNeg x3)
              else none
              else none
            else
              Option.bind (f_174 ((-6)) U) fun q14 =>
              some (q14.1, q14.2)
    else
      Option.bind (f_174 ((-2)) U) fun q15 =>
      some (q15.1, q15.2)
    else none
set_option maxRecDepth 10000 in
set_option maxHeartbeats 2000000 in
theorem F_216 (d : Nat) (x1 : Int32) (x2 : Int32) (x3 : Int32) {U : sU} {r : Int32} {U' : sU} (h : f_216 x1 x2 x3 U = some (r, U')) : Rn (d + 1) sm_I216 [.ref 280, .int x1, .int x2, .int x3] U (some (.int r)) U' := by
  refine Rn_of [(0, .ref 280), (1, .int x1), (2, .int x2), (3, .int x3)] (Nat.le_of_ble_eq_true rfl) (Sc rfl (Sc rfl (Sc rfl (Sc rfl (Sn _))))) ?_
  first | rw [f_216] at h | rw [f_216.eq_def] at h
  refine g_aload_n 1 rfl rfl rfl ?_
  refine g_iload_n 2 rfl rfl rfl ?_
  have r1 := F_180 d x1 U
  refine g_callV (J := sm_I180) 5 rfl (Nat.le_of_ble_eq_true rfl) rfl rfl (Nat.le_of_ble_eq_true rfl) s_280 (Nat.le_of_ble_eq_true rfl) (Nat.le_of_ble_eq_true rfl) rfl rfl r1 ?_
  refine g_if_ne 14 8 rfl rfl (fun c2 => ?_) (fun c2 => ?_)
  · rw [if_neg c2] at h
    refine g_aload_n 15 rfl rfl rfl ?_
    refine g_get 18 rfl s_280 (Nat.le_of_ble_eq_true rfl) rfl rfl ?_
    refine g_iload_n 19 rfl rfl rfl ?_
    by_cases i3 : ib x1 12
    case neg => rw [if_neg i3] at h; cases h
    rw [if_pos i3] at h
    refine g_iald 20 rfl s_299 l_299 i3 rfl ?_
    refine g_iconst (v := 5) 21 rfl rfl rfl ?_
    refine g_icmp_eq 31 24 rfl rfl (fun c4 => ?_) (fun c4 => ?_)
    · rw [if_pos c4] at h
      refine g_iload_n 32 rfl rfl rfl ?_
      refine g_if_lt 52 35 rfl rfl (fun c5 => ?_) (fun c5 => ?_)
      · rw [if_pos c5] at h
        refine g_aload_n 53 rfl rfl rfl ?_
        refine g_bipush (v := (-6)) 55 rfl (by decide) rfl ?_
        obtain ⟨q6, hq6, h⟩ := Option.bind_eq_some_iff.mp h
        refine g_callV (J := sm_I174) 58 rfl (Nat.le_of_ble_eq_true rfl) rfl rfl (Nat.le_of_ble_eq_true rfl) s_280 (Nat.le_of_ble_eq_true rfl) (Nat.le_of_ble_eq_true rfl) rfl rfl (F_174 d ((-6)) hq6) ?_
        cases h
        exact g_iret rfl rfl
      · rw [if_neg c5] at h
        refine g_iload_n 36 rfl rfl rfl ?_
        refine g_bipush (v := 11) 38 rfl (by decide) rfl ?_
        refine g_icmp_gt 52 41 rfl rfl (fun c7 => ?_) (fun c7 => ?_)
        · rw [if_pos c7] at h
          refine g_aload_n 53 rfl rfl rfl ?_
          refine g_bipush (v := (-6)) 55 rfl (by decide) rfl ?_
          obtain ⟨q8, hq8, h⟩ := Option.bind_eq_some_iff.mp h
          refine g_callV (J := sm_I174) 58 rfl (Nat.le_of_ble_eq_true rfl) rfl rfl (Nat.le_of_ble_eq_true rfl) s_280 (Nat.le_of_ble_eq_true rfl) (Nat.le_of_ble_eq_true rfl) rfl rfl (F_174 d ((-6)) hq8) ?_
          cases h
          exact g_iret rfl rfl
        · rw [if_neg c7] at h
          refine g_iload_n 42 rfl rfl rfl ?_
          refine g_if_lt 52 45 rfl rfl (fun c9 => ?_) (fun c9 => ?_)
          · rw [if_pos c9] at h
            refine g_aload_n 53 rfl rfl rfl ?_
            refine g_bipush (v := (-6)) 55 rfl (by decide) rfl ?_
            obtain ⟨q10, hq10, h⟩ := Option.bind_eq_some_iff.mp h
            refine g_callV (J := sm_I174) 58 rfl (Nat.le_of_ble_eq_true rfl) rfl rfl (Nat.le_of_ble_eq_true rfl) s_280 (Nat.le_of_ble_eq_true rfl) (Nat.le_of_ble_eq_true rfl) rfl rfl (F_174 d ((-6)) hq10) ?_
            cases h
            exact g_iret rfl rfl
          · rw [if_neg c9] at h
            refine g_iload_n 46 rfl rfl rfl ?_
            refine g_sipush (v := 999) 49 rfl (by decide) rfl ?_
            refine g_icmp_le 59 52 rfl rfl (fun c11 => ?_) (fun c11 => ?_)
            · rw [if_pos c11] at h
              refine g_aload_n 60 rfl rfl rfl ?_
              refine g_get 63 rfl s_280 (Nat.le_of_ble_eq_true rfl) rfl rfl ?_
              refine g_bipush (v := 12) 65 rfl (by decide) rfl ?_
              refine g_iload_n 66 rfl rfl rfl ?_
              refine g_imul 67 rfl rfl ?_
              refine g_iload_n 68 rfl rfl rfl ?_
              refine g_iadd 69 rfl rfl ?_
              by_cases i12 : ib ((12 * x1) + x2) 144
              case neg => rw [if_neg i12] at h; cases h
              rw [if_pos i12] at h
              refine g_iald 70 rfl s_302 l_302 i12 rfl ?_
              refine g_istore 72 [(4, .int (U.1 302 ((12 * x1) + x2).toNatClampNeg)), (0, .ref 280), (1, .int x1), (2, .int x2), (3, .int x3)] rfl (Nat.le_of_ble_eq_true rfl) rfl rfl ?_
              refine g_aload_n 73 rfl rfl rfl ?_
              refine g_get 76 rfl s_280 (Nat.le_of_ble_eq_true rfl) rfl rfl ?_
              refine g_bipush (v := 12) 78 rfl (by decide) rfl ?_
              refine g_iload_n 79 rfl rfl rfl ?_
              refine g_imul 80 rfl rfl ?_
              refine g_iload_n 81 rfl rfl rfl ?_
              refine g_iadd 82 rfl rfl ?_
              refine g_iload_n 83 rfl rfl rfl ?_
              by_cases i13 : ib ((12 * x1) + x2) 144
              case neg => rw [if_neg i13] at h; cases h
              rw [if_pos i13] at h
              refine g_iast 84 rfl s_302 l_302 i13 rfl ?_
              refine g_iload 86 rfl rfl rfl ?_
              cases h
              exact g_iret rfl rfl
            · rw [if_neg c11] at h
              refine g_aload_n 53 rfl rfl rfl ?_
              refine g_bipush (v := (-6)) 55 rfl (by decide) rfl ?_
              obtain ⟨q14, hq14, h⟩ := Option.bind_eq_some_iff.mp h
              refine g_callV (J := sm_I174) 58 rfl (Nat.le_of_ble_eq_true rfl) rfl rfl (Nat.le_of_ble_eq_true rfl) s_280 (Nat.le_of_ble_eq_true rfl) (Nat.le_of_ble_eq_true rfl) rfl rfl (F_174 d ((-6)) hq14) ?_
              cases h
              exact g_iret rfl rfl
    · rw [if_neg c4] at h
      refine g_aload_n 25 rfl rfl rfl ?_
      refine g_bipush (v := (-2)) 27 rfl (by decide) rfl ?_
      obtain ⟨q15, hq15, h⟩ := Option.bind_eq_some_iff.mp h
      refine g_callV (J := sm_I174) 30 rfl (Nat.le_of_ble_eq_true rfl) rfl rfl (Nat.le_of_ble_eq_true rfl) s_280 (Nat.le_of_ble_eq_true rfl) (Nat.le_of_ble_eq_true rfl) rfl rfl (F_174 d ((-2)) hq15) ?_
      cases h
      exact g_iret rfl rfl
  · rw [if_pos c2] at h
    refine g_aload_n 9 rfl rfl rfl ?_
    refine g_iconst (v := (-1)) 10 rfl rfl rfl ?_
    obtain ⟨q16, hq16, h⟩ := Option.bind_eq_some_iff.mp h
    refine g_callV (J := sm_I174) 13 rfl (Nat.le_of_ble_eq_true rfl) rfl rfl (Nat.le_of_ble_eq_true rfl) s_280 (Nat.le_of_ble_eq_true rfl) (Nat.le_of_ble_eq_true rfl) rfl rfl (F_174 d ((-1)) hq16) ?_
    cases h
    exact g_iret rfl rfl

def f_219 (x1 : Int32) (x2 : Int32) (U : sU) : Option Int32 :=
  if x2 < 0 then
    some 0
  else
    if 12 ≤ x2 then
      some 0
    else
      Option.bind (f_217 x1 U) fun q3 =>
      if ((q3 >>> (x2 &&& 31)) &&& 1) = 1 then
        some 1
      else
        some 0
set_option maxRecDepth 10000 in
set_option maxHeartbeats 2000000 in
theorem F_219 (d : Nat) (x1 : Int32) (x2 : Int32) {U : sU} {r : Int32} (h : f_219 x1 x2 U = some r) : Rn (d + 1) sm_I219 [.ref 280, .int x1, .int x2] U (some (.int r)) U := by
  refine Rn_of [(0, .ref 280), (1, .int x1), (2, .int x2)] (Nat.le_of_ble_eq_true rfl) (Sc rfl (Sc rfl (Sc rfl (Sn _)))) ?_
  first | rw [f_219] at h | rw [f_219.eq_def] at h
  refine g_iload_n 1 rfl rfl rfl ?_
  refine g_if_lt 27 4 rfl rfl (fun c1 => ?_) (fun c1 => ?_)
  · rw [if_pos c1] at h
    refine g_iconst (v := 0) 28 rfl rfl rfl ?_
    cases h
    exact g_zret rfl rfl (Or.inl rfl)
  · rw [if_neg c1] at h
    refine g_iload_n 5 rfl rfl rfl ?_
    refine g_bipush (v := 12) 7 rfl (by decide) rfl ?_
    refine g_icmp_ge 27 10 rfl rfl (fun c2 => ?_) (fun c2 => ?_)
    · rw [if_pos c2] at h
      refine g_iconst (v := 0) 28 rfl rfl rfl ?_
      cases h
      exact g_zret rfl rfl (Or.inl rfl)
    · rw [if_neg c2] at h
      refine g_aload_n 11 rfl rfl rfl ?_
      refine g_iload_n 12 rfl rfl rfl ?_
      obtain ⟨q3, hq3, h⟩ := Option.bind_eq_some_iff.mp h
      refine g_callV (J := sm_I217) 15 rfl (Nat.le_of_ble_eq_true rfl) rfl rfl (Nat.le_of_ble_eq_true rfl) s_280 (Nat.le_of_ble_eq_true rfl) (Nat.le_of_ble_eq_true rfl) rfl rfl (F_217 d x1 hq3) ?_
      refine g_iload_n 16 rfl rfl rfl ?_
      refine g_ishr 17 rfl rfl ?_
      refine g_iconst (v := 1) 18 rfl rfl rfl ?_
      refine g_iand 19 rfl rfl ?_
      refine g_iconst (v := 1) 20 rfl rfl rfl ?_
      refine g_icmp_ne 27 23 rfl rfl (fun c4 => ?_) (fun c4 => ?_)
      · rw [if_neg c4] at h
        refine g_iconst (v := 0) 28 rfl rfl rfl ?_
        cases h
        exact g_zret rfl rfl (Or.inl rfl)
      · rw [if_pos c4] at h
        refine g_iconst (v := 1) 24 rfl rfl rfl ?_
        refine g_goto 28 rfl ?_
        cases h
        exact g_zret rfl rfl (Or.inr rfl)

def f_220 (x1 : Int32) (x2 : Int32) (U : sU) : Option (Int32 × sU) :=
  if (f_180 x1 U) = 0 then
    Option.bind (f_174 ((-5)) U) fun q3 =>
    some (q3.1, q3.2)
  else
    if x2 < 0 then
      Option.bind (f_174 ((-5)) U) fun q5 =>
      some (q5.1, q5.2)
    else
      if x2 ≤ 3 then
        if x2 = 0 then
          if ib x1 12 then
          some (U.1 299 x1.toNatClampNeg, U)
          else none
        else
          if x2 = 1 then
            if ib x1 12 then
            some (U.1 298 x1.toNatClampNeg, U)
            else none
          else
            if x2 = 2 then
              Option.bind (f_218 x1 U) fun q11 =>
              some (q11, U)
            else
              Option.bind (f_217 x1 U) fun q10 =>
              some (q10, U)
      else
        Option.bind (f_174 ((-5)) U) fun q14 =>
        some (q14.1, q14.2)
set_option maxRecDepth 10000 in
set_option maxHeartbeats 2000000 in
theorem F_220 (d : Nat) (x1 : Int32) (x2 : Int32) {U : sU} {r : Int32} {U' : sU} (h : f_220 x1 x2 U = some (r, U')) : Rn (d + 2) sm_I220 [.ref 280, .int x1, .int x2] U (some (.int r)) U' := by
  refine Rn_of [(0, .ref 280), (1, .int x1), (2, .int x2)] (Nat.le_of_ble_eq_true rfl) (Sc rfl (Sc rfl (Sc rfl (Sn _)))) ?_
  first | rw [f_220] at h | rw [f_220.eq_def] at h
  refine g_aload_n 1 rfl rfl rfl ?_
  refine g_iload_n 2 rfl rfl rfl ?_
  have r1 := F_180 (d + 1) x1 U
  refine g_callV (J := sm_I180) 5 rfl (Nat.le_of_ble_eq_true rfl) rfl rfl (Nat.le_of_ble_eq_true rfl) s_280 (Nat.le_of_ble_eq_true rfl) (Nat.le_of_ble_eq_true rfl) rfl rfl r1 ?_
  refine g_if_eq 17 8 rfl rfl (fun c2 => ?_) (fun c2 => ?_)
  · rw [if_pos c2] at h
    refine g_aload_n 18 rfl rfl rfl ?_
    refine g_bipush (v := (-5)) 20 rfl (by decide) rfl ?_
    obtain ⟨q3, hq3, h⟩ := Option.bind_eq_some_iff.mp h
    refine g_callV (J := sm_I174) 23 rfl (Nat.le_of_ble_eq_true rfl) rfl rfl (Nat.le_of_ble_eq_true rfl) s_280 (Nat.le_of_ble_eq_true rfl) (Nat.le_of_ble_eq_true rfl) rfl rfl (F_174 (d + 1) ((-5)) hq3) ?_
    cases h
    exact g_iret rfl rfl
  · rw [if_neg c2] at h
    refine g_iload_n 9 rfl rfl rfl ?_
    refine g_if_lt 17 12 rfl rfl (fun c4 => ?_) (fun c4 => ?_)
    · rw [if_pos c4] at h
      refine g_aload_n 18 rfl rfl rfl ?_
      refine g_bipush (v := (-5)) 20 rfl (by decide) rfl ?_
      obtain ⟨q5, hq5, h⟩ := Option.bind_eq_some_iff.mp h
      refine g_callV (J := sm_I174) 23 rfl (Nat.le_of_ble_eq_true rfl) rfl rfl (Nat.le_of_ble_eq_true rfl) s_280 (Nat.le_of_ble_eq_true rfl) (Nat.le_of_ble_eq_true rfl) rfl rfl (F_174 (d + 1) ((-5)) hq5) ?_
      cases h
      exact g_iret rfl rfl
    · rw [if_neg c4] at h
      refine g_iload_n 13 rfl rfl rfl ?_
      refine g_iconst (v := 3) 14 rfl rfl rfl ?_
      refine g_icmp_le 24 17 rfl rfl (fun c6 => ?_) (fun c6 => ?_)
      · rw [if_pos c6] at h
        refine g_iload_n 25 rfl rfl rfl ?_
        refine g_if_ne 37 28 rfl rfl (fun c7 => ?_) (fun c7 => ?_)
        · rw [if_neg c7] at h
          refine g_iload_n 38 rfl rfl rfl ?_
          refine g_iconst (v := 1) 39 rfl rfl rfl ?_
          refine g_icmp_ne 51 42 rfl rfl (fun c8 => ?_) (fun c8 => ?_)
          · rw [if_neg c8] at h
            refine g_iload_n 52 rfl rfl rfl ?_
            refine g_iconst (v := 2) 53 rfl rfl rfl ?_
            refine g_icmp_ne 64 56 rfl rfl (fun c9 => ?_) (fun c9 => ?_)
            · rw [if_neg c9] at h
              refine g_aload_n 65 rfl rfl rfl ?_
              refine g_iload_n 66 rfl rfl rfl ?_
              obtain ⟨q10, hq10, h⟩ := Option.bind_eq_some_iff.mp h
              refine g_callV (J := sm_I217) 69 rfl (Nat.le_of_ble_eq_true rfl) rfl rfl (Nat.le_of_ble_eq_true rfl) s_280 (Nat.le_of_ble_eq_true rfl) (Nat.le_of_ble_eq_true rfl) rfl rfl (F_217 (d + 1) x1 hq10) ?_
              cases h
              exact g_iret rfl rfl
            · rw [if_pos c9] at h
              refine g_aload_n 57 rfl rfl rfl ?_
              refine g_iload_n 58 rfl rfl rfl ?_
              obtain ⟨q11, hq11, h⟩ := Option.bind_eq_some_iff.mp h
              refine g_callV (J := sm_I218) 61 rfl (Nat.le_of_ble_eq_true rfl) rfl rfl (Nat.le_of_ble_eq_true rfl) s_280 (Nat.le_of_ble_eq_true rfl) (Nat.le_of_ble_eq_true rfl) rfl rfl (F_218 d x1 hq11) ?_
              refine g_goto 69 rfl ?_
              cases h
              exact g_iret rfl rfl
          · rw [if_pos c8] at h
            refine g_aload_n 43 rfl rfl rfl ?_
            refine g_get 46 rfl s_280 (Nat.le_of_ble_eq_true rfl) rfl rfl ?_
            refine g_iload_n 47 rfl rfl rfl ?_
            by_cases i12 : ib x1 12
            case neg => rw [if_neg i12] at h; cases h
            rw [if_pos i12] at h
            refine g_iald 48 rfl s_298 l_298 i12 rfl ?_
            refine g_goto 69 rfl ?_
            cases h
            exact g_iret rfl rfl
        · rw [if_pos c7] at h
          refine g_aload_n 29 rfl rfl rfl ?_
          refine g_get 32 rfl s_280 (Nat.le_of_ble_eq_true rfl) rfl rfl ?_
          refine g_iload_n 33 rfl rfl rfl ?_
          by_cases i13 : ib x1 12
          case neg => rw [if_neg i13] at h; cases h
          rw [if_pos i13] at h
          refine g_iald 34 rfl s_299 l_299 i13 rfl ?_
          refine g_goto 69 rfl ?_
          cases h
          exact g_iret rfl rfl
      · rw [if_neg c6] at h
        refine g_aload_n 18 rfl rfl rfl ?_
        refine g_bipush (v := (-5)) 20 rfl (by decide) rfl ?_
        obtain ⟨q14, hq14, h⟩ := Option.bind_eq_some_iff.mp h
        refine g_callV (J := sm_I174) 23 rfl (Nat.le_of_ble_eq_true rfl) rfl rfl (Nat.le_of_ble_eq_true rfl) s_280 (Nat.le_of_ble_eq_true rfl) (Nat.le_of_ble_eq_true rfl) rfl rfl (F_174 (d + 1) ((-5)) hq14) ?_
        cases h
        exact g_iret rfl rfl

def f_221 (x1 : Int32) (x2 : Int32) (U : sU) : Option (Int32 × sU) :=
  if (f_180 x1 U) = 0 then
    Option.bind (f_174 ((-5)) U) fun q3 =>
    some (q3.1, q3.2)
  else
    if ib x1 12 then
    Option.bind (f_179 (U.1 298 x1.toNatClampNeg) x2 U) fun q5 =>
    if q5 = 0 then
      Option.bind (f_174 ((-5)) U) fun q9 =>
      some (q9.1, q9.2)
    else
      if ib ((12 * x1) + x2) 144 then
      some (U.1 301 ((12 * x1) + x2).toNatClampNeg, U)
      else none
    else none
set_option maxRecDepth 10000 in
set_option maxHeartbeats 2000000 in
theorem F_221 (d : Nat) (x1 : Int32) (x2 : Int32) {U : sU} {r : Int32} {U' : sU} (h : f_221 x1 x2 U = some (r, U')) : Rn (d + 2) sm_I221 [.ref 280, .int x1, .int x2] U (some (.int r)) U' := by
  refine Rn_of [(0, .ref 280), (1, .int x1), (2, .int x2)] (Nat.le_of_ble_eq_true rfl) (Sc rfl (Sc rfl (Sc rfl (Sn _)))) ?_
  first | rw [f_221] at h | rw [f_221.eq_def] at h
  refine g_aload_n 1 rfl rfl rfl ?_
  refine g_iload_n 2 rfl rfl rfl ?_
  have r1 := F_180 (d + 1) x1 U
  refine g_callV (J := sm_I180) 5 rfl (Nat.le_of_ble_eq_true rfl) rfl rfl (Nat.le_of_ble_eq_true rfl) s_280 (Nat.le_of_ble_eq_true rfl) (Nat.le_of_ble_eq_true rfl) rfl rfl r1 ?_
  refine g_if_eq 22 8 rfl rfl (fun c2 => ?_) (fun c2 => ?_)
  · rw [if_pos c2] at h
    refine g_aload_n 23 rfl rfl rfl ?_
    refine g_bipush (v := (-5)) 25 rfl (by decide) rfl ?_
    obtain ⟨q3, hq3, h⟩ := Option.bind_eq_some_iff.mp h
    refine g_callV (J := sm_I174) 28 rfl (Nat.le_of_ble_eq_true rfl) rfl rfl (Nat.le_of_ble_eq_true rfl) s_280 (Nat.le_of_ble_eq_true rfl) (Nat.le_of_ble_eq_true rfl) rfl rfl (F_174 (d + 1) ((-5)) hq3) ?_
    cases h
    exact g_iret rfl rfl
  · rw [if_neg c2] at h
    refine g_aload_n 9 rfl rfl rfl ?_
    refine g_aload_n 10 rfl rfl rfl ?_
    refine g_get 13 rfl s_280 (Nat.le_of_ble_eq_true rfl) rfl rfl ?_
    refine g_iload_n 14 rfl rfl rfl ?_
    by_cases i4 : ib x1 12
    case neg => rw [if_neg i4] at h; cases h
    rw [if_pos i4] at h
    refine g_iald 15 rfl s_298 l_298 i4 rfl ?_
    refine g_iload_n 16 rfl rfl rfl ?_
    obtain ⟨q5, hq5, h⟩ := Option.bind_eq_some_iff.mp h
    have r6 := (F_179 d (U.1 298 x1.toNatClampNeg) x2 hq5)
    refine g_callV (J := sm_I179) 19 rfl (Nat.le_of_ble_eq_true rfl) rfl rfl (Nat.le_of_ble_eq_true rfl) s_280 (Nat.le_of_ble_eq_true rfl) (Nat.le_of_ble_eq_true rfl) rfl rfl r6 ?_
    refine g_if_ne 29 22 rfl rfl (fun c7 => ?_) (fun c7 => ?_)
    · rw [if_neg c7] at h
      refine g_aload_n 30 rfl rfl rfl ?_
      refine g_get 33 rfl s_280 (Nat.le_of_ble_eq_true rfl) rfl rfl ?_
      refine g_bipush (v := 12) 35 rfl (by decide) rfl ?_
      refine g_iload_n 36 rfl rfl rfl ?_
      refine g_imul 37 rfl rfl ?_
      refine g_iload_n 38 rfl rfl rfl ?_
      refine g_iadd 39 rfl rfl ?_
      by_cases i8 : ib ((12 * x1) + x2) 144
      case neg => rw [if_neg i8] at h; cases h
      rw [if_pos i8] at h
      refine g_iald 40 rfl s_301 l_301 i8 rfl ?_
      cases h
      exact g_iret rfl rfl
    · rw [if_pos c7] at h
      refine g_aload_n 23 rfl rfl rfl ?_
      refine g_bipush (v := (-5)) 25 rfl (by decide) rfl ?_
      obtain ⟨q9, hq9, h⟩ := Option.bind_eq_some_iff.mp h
      refine g_callV (J := sm_I174) 28 rfl (Nat.le_of_ble_eq_true rfl) rfl rfl (Nat.le_of_ble_eq_true rfl) s_280 (Nat.le_of_ble_eq_true rfl) (Nat.le_of_ble_eq_true rfl) rfl rfl (F_174 (d + 1) ((-5)) hq9) ?_
      cases h
      exact g_iret rfl rfl

def f_222_29 : Nat → Int32 → Int32 → Int32 → Int32 → sU → Option (Int32 × sU)
  | 0, _, _, _, _, _ => none
  | n + 1, v1, v2, v3, v4, U =>
    if ib v1 12 then
    if ib (U.1 298 v1.toNatClampNeg) 8 then
    if (U.1 288 (U.1 298 v1.toNatClampNeg).toNatClampNeg) ≤ v4 then
      some (v3, U)
    else
      if ib ((12 * v1) + v4) 144 then
      if (U.1 301 ((12 * v1) + v4).toNatClampNeg) = v2 then
        f_222_29 n v1 v2 (v3 ||| (1 <<< (v4 &&& 31))) (v4 + 1) U
      else
        f_222_29 n v1 v2 v3 (v4 + 1) U
      else none
    else none
    else none
set_option maxRecDepth 10000 in
set_option maxHeartbeats 2000000 in
theorem F_222_29 (d : Nat)   : ∀ (n : Nat) (v1 : Int32) (v2 : Int32) (v3 : Int32) (v4 : Int32) (U : sU) (r : Int32) (U' : sU), f_222_29 n v1 v2 v3 v4 U = some (r, U') → G (d + 2) sm_I222 29 [(0, .ref 280), (1, .int v1), (2, .int v2), (3, .int v3), (4, .int v4)] [] U (some (.int r)) U' := by
  intro n
  induction n with
  | zero => intro v1 v2 v3 v4 U r U' h; cases h
  | succ n ih =>
    intro v1 v2 v3 v4 U r U' h
    first | rw [f_222_29] at h | (rw [f_222_29.eq_def] at h; dsimp only at h)
    refine g_iload 31 rfl rfl rfl ?_
    refine g_aload_n 32 rfl rfl rfl ?_
    refine g_get 35 rfl s_280 (Nat.le_of_ble_eq_true rfl) rfl rfl ?_
    refine g_aload_n 36 rfl rfl rfl ?_
    refine g_get 39 rfl s_280 (Nat.le_of_ble_eq_true rfl) rfl rfl ?_
    refine g_iload_n 40 rfl rfl rfl ?_
    by_cases i1 : ib v1 12
    case neg => rw [if_neg i1] at h; cases h
    rw [if_pos i1] at h
    refine g_iald 41 rfl s_298 l_298 i1 rfl ?_
    by_cases i2 : ib (U.1 298 v1.toNatClampNeg) 8
    case neg => rw [if_neg i2] at h; cases h
    rw [if_pos i2] at h
    refine g_iald 42 rfl s_288 l_288 i2 rfl ?_
    refine g_icmp_ge 74 45 rfl rfl (fun c3 => ?_) (fun c3 => ?_)
    · rw [if_pos c3] at h
      refine g_iload_n 75 rfl rfl rfl ?_
      cases h
      exact g_iret rfl rfl
    · rw [if_neg c3] at h
      refine g_aload_n 46 rfl rfl rfl ?_
      refine g_get 49 rfl s_280 (Nat.le_of_ble_eq_true rfl) rfl rfl ?_
      refine g_bipush (v := 12) 51 rfl (by decide) rfl ?_
      refine g_iload_n 52 rfl rfl rfl ?_
      refine g_imul 53 rfl rfl ?_
      refine g_iload 55 rfl rfl rfl ?_
      refine g_iadd 56 rfl rfl ?_
      by_cases i4 : ib ((12 * v1) + v4) 144
      case neg => rw [if_neg i4] at h; cases h
      rw [if_pos i4] at h
      refine g_iald 57 rfl s_301 l_301 i4 rfl ?_
      refine g_iload_n 58 rfl rfl rfl ?_
      refine g_icmp_ne 68 61 rfl rfl (fun c5 => ?_) (fun c5 => ?_)
      · rw [if_neg c5] at h
        refine g_iinc (v := v4 + 1) 71 [(4, .int (v4 + 1)), (0, .ref 280), (1, .int v1), (2, .int v2), (3, .int v3)] rfl rfl (Nat.le_of_ble_eq_true rfl) rfl rfl rfl ?_
        refine g_goto 29 rfl ?_
        exact g_sub (Sc rfl (Sc rfl (Sc rfl (Sc rfl (Sc rfl (Sn _)))))) (ih v1 v2 v3 (v4 + 1) _ _ _ h)
      · rw [if_pos c5] at h
        refine g_iload_n 62 rfl rfl rfl ?_
        refine g_iconst (v := 1) 63 rfl rfl rfl ?_
        refine g_iload 65 rfl rfl rfl ?_
        refine g_ishl 66 rfl rfl ?_
        refine g_ior 67 rfl rfl ?_
        refine g_istore_n 68 [(3, .int (v3 ||| (1 <<< (v4 &&& 31)))), (0, .ref 280), (1, .int v1), (2, .int v2), (4, .int v4)] rfl (Nat.le_of_ble_eq_true rfl) rfl rfl ?_
        refine g_iinc (v := v4 + 1) 71 [(4, .int (v4 + 1)), (3, .int (v3 ||| (1 <<< (v4 &&& 31)))), (0, .ref 280), (1, .int v1), (2, .int v2)] rfl rfl (Nat.le_of_ble_eq_true rfl) rfl rfl rfl ?_
        refine g_goto 29 rfl ?_
        exact g_sub (Sc rfl (Sc rfl (Sc rfl (Sc rfl (Sc rfl (Sn _)))))) (ih v1 v2 (v3 ||| (1 <<< (v4 &&& 31))) (v4 + 1) _ _ _ h)
def f_222 (x1 : Int32) (x2 : Int32) (U : sU) : Option (Int32 × sU) :=
  if (f_180 x1 U) = 0 then
    Option.bind (f_174 ((-5)) U) fun q8 =>
    some (q8.1, q8.2)
  else
    Option.bind (f_219 x1 x2 U) fun q9 =>
    if q9 = 0 then
      Option.bind (f_174 ((-5)) U) fun q12 =>
      some (q12.1, q12.2)
    else
      f_222_29 FU x1 x2 0 0 U
set_option maxRecDepth 10000 in
set_option maxHeartbeats 2000000 in
theorem F_222 (d : Nat) (x1 : Int32) (x2 : Int32) {U : sU} {r : Int32} {U' : sU} (h : f_222 x1 x2 U = some (r, U')) : Rn (d + 2) sm_I222 [.ref 280, .int x1, .int x2] U (some (.int r)) U' := by
  refine Rn_of [(0, .ref 280), (1, .int x1), (2, .int x2)] (Nat.le_of_ble_eq_true rfl) (Sc rfl (Sc rfl (Sc rfl (Sn _)))) ?_
  first | rw [f_222] at h | rw [f_222.eq_def] at h
  refine g_aload_n 1 rfl rfl rfl ?_
  refine g_iload_n 2 rfl rfl rfl ?_
  have r6 := F_180 (d + 1) x1 U
  refine g_callV (J := sm_I180) 5 rfl (Nat.le_of_ble_eq_true rfl) rfl rfl (Nat.le_of_ble_eq_true rfl) s_280 (Nat.le_of_ble_eq_true rfl) (Nat.le_of_ble_eq_true rfl) rfl rfl r6 ?_
  refine g_if_eq 17 8 rfl rfl (fun c7 => ?_) (fun c7 => ?_)
  · rw [if_pos c7] at h
    refine g_aload_n 18 rfl rfl rfl ?_
    refine g_bipush (v := (-5)) 20 rfl (by decide) rfl ?_
    obtain ⟨q8, hq8, h⟩ := Option.bind_eq_some_iff.mp h
    refine g_callV (J := sm_I174) 23 rfl (Nat.le_of_ble_eq_true rfl) rfl rfl (Nat.le_of_ble_eq_true rfl) s_280 (Nat.le_of_ble_eq_true rfl) (Nat.le_of_ble_eq_true rfl) rfl rfl (F_174 (d + 1) ((-5)) hq8) ?_
    cases h
    exact g_iret rfl rfl
  · rw [if_neg c7] at h
    refine g_aload_n 9 rfl rfl rfl ?_
    refine g_iload_n 10 rfl rfl rfl ?_
    refine g_iload_n 11 rfl rfl rfl ?_
    obtain ⟨q9, hq9, h⟩ := Option.bind_eq_some_iff.mp h
    have r10 := (F_219 d x1 x2 hq9)
    refine g_callV (J := sm_I219) 14 rfl (Nat.le_of_ble_eq_true rfl) rfl rfl (Nat.le_of_ble_eq_true rfl) s_280 (Nat.le_of_ble_eq_true rfl) (Nat.le_of_ble_eq_true rfl) rfl rfl r10 ?_
    refine g_if_ne 24 17 rfl rfl (fun c11 => ?_) (fun c11 => ?_)
    · rw [if_neg c11] at h
      refine g_iconst (v := 0) 25 rfl rfl rfl ?_
      refine g_istore_n 26 [(3, .int 0), (0, .ref 280), (1, .int x1), (2, .int x2)] rfl (Nat.le_of_ble_eq_true rfl) rfl rfl ?_
      refine g_iconst (v := 0) 27 rfl rfl rfl ?_
      refine g_istore 29 [(4, .int 0), (3, .int 0), (0, .ref 280), (1, .int x1), (2, .int x2)] rfl (Nat.le_of_ble_eq_true rfl) rfl rfl ?_
      exact g_sub (Sc rfl (Sc rfl (Sc rfl (Sc rfl (Sc rfl (Sn _)))))) (F_222_29 d _ x1 x2 0 0 _ _ _ h)
    · rw [if_pos c11] at h
      refine g_aload_n 18 rfl rfl rfl ?_
      refine g_bipush (v := (-5)) 20 rfl (by decide) rfl ?_
      obtain ⟨q12, hq12, h⟩ := Option.bind_eq_some_iff.mp h
      refine g_callV (J := sm_I174) 23 rfl (Nat.le_of_ble_eq_true rfl) rfl rfl (Nat.le_of_ble_eq_true rfl) s_280 (Nat.le_of_ble_eq_true rfl) (Nat.le_of_ble_eq_true rfl) rfl rfl (F_174 (d + 1) ((-5)) hq12) ?_
      cases h
      exact g_iret rfl rfl

def f_223_49 (k17 : Int32 → Int32 → Int32 → Int32 → Int32 → sU → Option sU) (v1 : Int32) (v2 : Int32) (v3 : Int32) (v4 : Int32) (v5 : Int32) (z0 : Int32) (U : sU) : Option sU :=
  if ib ((12 * v3) + v5) 96 then
  if ib v1 12 then
  if (U.1 299 v1.toNatClampNeg) = 2 then
    if z0 = 0 then
      if ib v1 12 then
      if ib v5 12 then
      k17 v1 v2 v3 v4 (v5 + 1) (sJ U 305 v5.toNatClampNeg (((U.1 297 ((12 * v3) + v5).toNatClampNeg).toInt64) * (((0 + 100) - (U.1 300 v1.toNatClampNeg)).toInt64)))
      else none
      else none
    else
      if ib v1 12 then
      if ib v1 12 then
      if ib v5 12 then
      k17 v1 v2 v3 v4 (v5 + 1) (sJ U 305 v5.toNatClampNeg (((U.1 297 ((12 * v3) + v5).toNatClampNeg).toInt64) * (((((U.1 300 v1.toNatClampNeg) * v4) + 100) - (U.1 300 v1.toNatClampNeg)).toInt64)))
      else none
      else none
      else none
  else
    if z0 = 0 then
      if ib v5 12 then
      k17 v1 v2 v3 v4 (v5 + 1) (sJ U 305 v5.toNatClampNeg 0)
      else none
    else
      if ib v5 12 then
      k17 v1 v2 v3 v4 (v5 + 1) (sJ U 305 v5.toNatClampNeg ((U.1 297 ((12 * v3) + v5).toNatClampNeg).toInt64))
      else none
  else none
  else none
set_option maxRecDepth 10000 in
set_option maxHeartbeats 2000000 in
theorem F_223_49 (d : Nat) {k17 : Int32 → Int32 → Int32 → Int32 → Int32 → sU → Option sU} (hk17 : ∀ (v1 : Int32) (v2 : Int32) (v3 : Int32) (v4 : Int32) (v5 : Int32) (U : sU) (U' : sU), k17 v1 v2 v3 v4 v5 U = some U' → G (d + 2) sm_I223 17 [(0, .ref 280), (1, .int v1), (2, .int v2), (3, .int v3), (4, .int v4), (5, .int v5)] [] U none U') (v1 : Int32) (v2 : Int32) (v3 : Int32) (v4 : Int32) (v5 : Int32) (z0 : Int32) {U : sU} {U' : sU} (h : f_223_49 k17 v1 v2 v3 v4 v5 z0 U = some U') : G (d + 2) sm_I223 49 [(0, .ref 280), (1, .int v1), (2, .int v2), (3, .int v3), (4, .int v4), (5, .int v5)] [.int z0] U none U' := by
  first | rw [f_223_49] at h | rw [f_223_49.eq_def] at h
  refine g_istore 51 [(6, .int z0), (0, .ref 280), (1, .int v1), (2, .int v2), (3, .int v3), (4, .int v4), (5, .int v5)] rfl (Nat.le_of_ble_eq_true rfl) rfl rfl ?_
  refine g_aload_n 52 rfl rfl rfl ?_
  refine g_get 55 rfl s_280 (Nat.le_of_ble_eq_true rfl) rfl rfl ?_
  refine g_bipush (v := 12) 57 rfl (by decide) rfl ?_
  refine g_iload_n 58 rfl rfl rfl ?_
  refine g_imul 59 rfl rfl ?_
  refine g_iload 61 rfl rfl rfl ?_
  refine g_iadd 62 rfl rfl ?_
  by_cases i1 : ib ((12 * v3) + v5) 96
  case neg => rw [if_neg i1] at h; cases h
  rw [if_pos i1] at h
  refine g_iald 63 rfl s_297 l_297 i1 rfl ?_
  refine g_i2l 64 rfl rfl ?_
  refine g_lstore 66 [(7, .long ((U.1 297 ((12 * v3) + v5).toNatClampNeg).toInt64)), (6, .int z0), (0, .ref 280), (1, .int v1), (2, .int v2), (3, .int v3), (4, .int v4), (5, .int v5)] rfl (Nat.le_of_ble_eq_true rfl) rfl rfl ?_
  refine g_aload_n 67 rfl rfl rfl ?_
  refine g_get 70 rfl s_280 (Nat.le_of_ble_eq_true rfl) rfl rfl ?_
  refine g_iload 72 rfl rfl rfl ?_
  refine g_aload_n 73 rfl rfl rfl ?_
  refine g_get 76 rfl s_280 (Nat.le_of_ble_eq_true rfl) rfl rfl ?_
  refine g_iload_n 77 rfl rfl rfl ?_
  by_cases i2 : ib v1 12
  case neg => rw [if_neg i2] at h; cases h
  rw [if_pos i2] at h
  refine g_iald 78 rfl s_299 l_299 i2 rfl ?_
  refine g_iconst (v := 2) 79 rfl rfl rfl ?_
  refine g_icmp_ne 117 82 rfl rfl (fun c3 => ?_) (fun c3 => ?_)
  · rw [if_neg c3] at h
    refine g_iload 119 rfl rfl rfl ?_
    refine g_if_eq 127 122 rfl rfl (fun c4 => ?_) (fun c4 => ?_)
    · rw [if_pos c4] at h
      refine g_lconst (v := 0) 128 rfl rfl rfl ?_
      by_cases i5 : ib v5 12
      case neg => rw [if_neg i5] at h; cases h
      rw [if_pos i5] at h
      refine g_last 129 rfl s_305 l_305 i5 rfl ?_
      refine g_iinc (v := v5 + 1) 132 [(5, .int (v5 + 1)), (7, .long ((U.1 297 ((12 * v3) + v5).toNatClampNeg).toInt64)), (6, .int z0), (0, .ref 280), (1, .int v1), (2, .int v2), (3, .int v3), (4, .int v4)] rfl rfl (Nat.le_of_ble_eq_true rfl) rfl rfl rfl ?_
      refine g_goto 17 rfl ?_
      exact g_sub (Sc rfl (Sc rfl (Sc rfl (Sc rfl (Sc rfl (Sc rfl (Sn _))))))) (hk17 v1 v2 v3 v4 (v5 + 1) _ _ h)
    · rw [if_neg c4] at h
      refine g_lload 124 rfl rfl rfl ?_
      refine g_goto 128 rfl ?_
      by_cases i6 : ib v5 12
      case neg => rw [if_neg i6] at h; cases h
      rw [if_pos i6] at h
      refine g_last 129 rfl s_305 l_305 i6 rfl ?_
      refine g_iinc (v := v5 + 1) 132 [(5, .int (v5 + 1)), (7, .long ((U.1 297 ((12 * v3) + v5).toNatClampNeg).toInt64)), (6, .int z0), (0, .ref 280), (1, .int v1), (2, .int v2), (3, .int v3), (4, .int v4)] rfl rfl (Nat.le_of_ble_eq_true rfl) rfl rfl rfl ?_
      refine g_goto 17 rfl ?_
      exact g_sub (Sc rfl (Sc rfl (Sc rfl (Sc rfl (Sc rfl (Sc rfl (Sn _))))))) (hk17 v1 v2 v3 v4 (v5 + 1) _ _ h)
  · rw [if_pos c3] at h
    refine g_lload 84 rfl rfl rfl ?_
    refine g_iload 86 rfl rfl rfl ?_
    refine g_if_eq 101 89 rfl rfl (fun c7 => ?_) (fun c7 => ?_)
    · rw [if_pos c7] at h
      refine g_iconst (v := 0) 102 rfl rfl rfl ?_
      refine g_bipush (v := 100) 104 rfl (by decide) rfl ?_
      refine g_iadd 105 rfl rfl ?_
      refine g_aload_n 106 rfl rfl rfl ?_
      refine g_get 109 rfl s_280 (Nat.le_of_ble_eq_true rfl) rfl rfl ?_
      refine g_iload_n 110 rfl rfl rfl ?_
      by_cases i8 : ib v1 12
      case neg => rw [if_neg i8] at h; cases h
      rw [if_pos i8] at h
      refine g_iald 111 rfl s_300 l_300 i8 rfl ?_
      refine g_isub 112 rfl rfl ?_
      refine g_i2l 113 rfl rfl ?_
      refine g_lmul 114 rfl rfl ?_
      refine g_goto 128 rfl ?_
      by_cases i9 : ib v5 12
      case neg => rw [if_neg i9] at h; cases h
      rw [if_pos i9] at h
      refine g_last 129 rfl s_305 l_305 i9 rfl ?_
      refine g_iinc (v := v5 + 1) 132 [(5, .int (v5 + 1)), (7, .long ((U.1 297 ((12 * v3) + v5).toNatClampNeg).toInt64)), (6, .int z0), (0, .ref 280), (1, .int v1), (2, .int v2), (3, .int v3), (4, .int v4)] rfl rfl (Nat.le_of_ble_eq_true rfl) rfl rfl rfl ?_
      refine g_goto 17 rfl ?_
      exact g_sub (Sc rfl (Sc rfl (Sc rfl (Sc rfl (Sc rfl (Sc rfl (Sn _))))))) (hk17 v1 v2 v3 v4 (v5 + 1) _ _ h)
    · rw [if_neg c7] at h
      refine g_aload_n 90 rfl rfl rfl ?_
      refine g_get 93 rfl s_280 (Nat.le_of_ble_eq_true rfl) rfl rfl ?_
      refine g_iload_n 94 rfl rfl rfl ?_
      by_cases i10 : ib v1 12
      case neg => rw [if_neg i10] at h; cases h
      rw [if_pos i10] at h
      refine g_iald 95 rfl s_300 l_300 i10 rfl ?_
      refine g_iload 97 rfl rfl rfl ?_
      refine g_imul 98 rfl rfl ?_
      refine g_goto 102 rfl ?_
      refine g_bipush (v := 100) 104 rfl (by decide) rfl ?_
      refine g_iadd 105 rfl rfl ?_
      refine g_aload_n 106 rfl rfl rfl ?_
      refine g_get 109 rfl s_280 (Nat.le_of_ble_eq_true rfl) rfl rfl ?_
      refine g_iload_n 110 rfl rfl rfl ?_
      by_cases i11 : ib v1 12
      case neg => rw [if_neg i11] at h; cases h
      rw [if_pos i11] at h
      refine g_iald 111 rfl s_300 l_300 i11 rfl ?_
      refine g_isub 112 rfl rfl ?_
      refine g_i2l 113 rfl rfl ?_
      refine g_lmul 114 rfl rfl ?_
      refine g_goto 128 rfl ?_
      by_cases i12 : ib v5 12
      case neg => rw [if_neg i12] at h; cases h
      rw [if_pos i12] at h
      refine g_last 129 rfl s_305 l_305 i12 rfl ?_
      refine g_iinc (v := v5 + 1) 132 [(5, .int (v5 + 1)), (7, .long ((U.1 297 ((12 * v3) + v5).toNatClampNeg).toInt64)), (6, .int z0), (0, .ref 280), (1, .int v1), (2, .int v2), (3, .int v3), (4, .int v4)] rfl rfl (Nat.le_of_ble_eq_true rfl) rfl rfl rfl ?_
      refine g_goto 17 rfl ?_
      exact g_sub (Sc rfl (Sc rfl (Sc rfl (Sc rfl (Sc rfl (Sc rfl (Sn _))))))) (hk17 v1 v2 v3 v4 (v5 + 1) _ _ h)
def f_223_17 : Nat → Int32 → Int32 → Int32 → Int32 → Int32 → sU → Option sU
  | 0, _, _, _, _, _, _ => none
  | n + 1, v1, v2, v3, v4, v5, U =>
    if ib v3 8 then
    if (U.1 288 v3.toNatClampNeg) ≤ v5 then
      some U
    else
      if ib ((12 * v1) + v5) 144 then
      if (U.1 301 ((12 * v1) + v5).toNatClampNeg) = v2 then
        f_223_49 (fun v1 v2 v3 v4 v5 U => f_223_17 n v1 v2 v3 v4 v5 U) v1 v2 v3 v4 v5 1 U
      else
        f_223_49 (fun v1 v2 v3 v4 v5 U => f_223_17 n v1 v2 v3 v4 v5 U) v1 v2 v3 v4 v5 0 U
      else none
    else none
set_option maxRecDepth 10000 in
set_option maxHeartbeats 2000000 in
theorem F_223_17 (d : Nat)   : ∀ (n : Nat) (v1 : Int32) (v2 : Int32) (v3 : Int32) (v4 : Int32) (v5 : Int32) (U : sU) (U' : sU), f_223_17 n v1 v2 v3 v4 v5 U = some U' → G (d + 2) sm_I223 17 [(0, .ref 280), (1, .int v1), (2, .int v2), (3, .int v3), (4, .int v4), (5, .int v5)] [] U none U' := by
  intro n
  induction n with
  | zero => intro v1 v2 v3 v4 v5 U U' h; cases h
  | succ n ih =>
    intro v1 v2 v3 v4 v5 U U' h
    first | rw [f_223_17] at h | (rw [f_223_17.eq_def] at h; dsimp only at h)
    refine g_iload 19 rfl rfl rfl ?_
    refine g_aload_n 20 rfl rfl rfl ?_
    refine g_get 23 rfl s_280 (Nat.le_of_ble_eq_true rfl) rfl rfl ?_
    refine g_iload_n 24 rfl rfl rfl ?_
    by_cases i13 : ib v3 8
    case neg => rw [if_neg i13] at h; cases h
    rw [if_pos i13] at h
    refine g_iald 25 rfl s_288 l_288 i13 rfl ?_
    refine g_icmp_ge 135 28 rfl rfl (fun c14 => ?_) (fun c14 => ?_)
    · rw [if_pos c14] at h
      cases h
      exact g_vret rfl rfl
    · rw [if_neg c14] at h
      refine g_aload_n 29 rfl rfl rfl ?_
      refine g_get 32 rfl s_280 (Nat.le_of_ble_eq_true rfl) rfl rfl ?_
      refine g_bipush (v := 12) 34 rfl (by decide) rfl ?_
      refine g_iload_n 35 rfl rfl rfl ?_
      refine g_imul 36 rfl rfl ?_
      refine g_iload 38 rfl rfl rfl ?_
      refine g_iadd 39 rfl rfl ?_
      by_cases i15 : ib ((12 * v1) + v5) 144
      case neg => rw [if_neg i15] at h; cases h
      rw [if_pos i15] at h
      refine g_iald 40 rfl s_301 l_301 i15 rfl ?_
      refine g_iload_n 41 rfl rfl rfl ?_
      refine g_icmp_ne 48 44 rfl rfl (fun c16 => ?_) (fun c16 => ?_)
      · rw [if_neg c16] at h
        refine g_iconst (v := 0) 49 rfl rfl rfl ?_
        exact g_sub (Sc rfl (Sc rfl (Sc rfl (Sc rfl (Sc rfl (Sc rfl (Sn _))))))) (F_223_49 d (fun v1 v2 v3 v4 v5 U U' h => ih v1 v2 v3 v4 v5 U U' h) v1 v2 v3 v4 v5 0 h)
      · rw [if_pos c16] at h
        refine g_iconst (v := 1) 45 rfl rfl rfl ?_
        refine g_goto 49 rfl ?_
        exact g_sub (Sc rfl (Sc rfl (Sc rfl (Sc rfl (Sc rfl (Sc rfl (Sn _))))))) (F_223_49 d (fun v1 v2 v3 v4 v5 U U' h => ih v1 v2 v3 v4 v5 U U' h) v1 v2 v3 v4 v5 1 h)
def f_223 (x1 : Int32) (x2 : Int32) (U : sU) : Option sU :=
  if ib x1 12 then
  Option.bind (f_218 x1 U) fun q18 =>
  f_223_17 FU x1 x2 (U.1 298 x1.toNatClampNeg) q18 0 U
  else none
set_option maxRecDepth 10000 in
set_option maxHeartbeats 2000000 in
theorem F_223 (d : Nat) (x1 : Int32) (x2 : Int32) {U : sU} {U' : sU} (h : f_223 x1 x2 U = some U') : Rn (d + 2) sm_I223 [.ref 280, .int x1, .int x2] U none U' := by
  refine Rn_of [(0, .ref 280), (1, .int x1), (2, .int x2)] (Nat.le_of_ble_eq_true rfl) (Sc rfl (Sc rfl (Sc rfl (Sn _)))) ?_
  first | rw [f_223] at h | rw [f_223.eq_def] at h
  refine g_aload_n 1 rfl rfl rfl ?_
  refine g_get 4 rfl s_280 (Nat.le_of_ble_eq_true rfl) rfl rfl ?_
  refine g_iload_n 5 rfl rfl rfl ?_
  by_cases i17 : ib x1 12
  case neg => rw [if_neg i17] at h; cases h
  rw [if_pos i17] at h
  refine g_iald 6 rfl s_298 l_298 i17 rfl ?_
  refine g_istore_n 7 [(3, .int (U.1 298 x1.toNatClampNeg)), (0, .ref 280), (1, .int x1), (2, .int x2)] rfl (Nat.le_of_ble_eq_true rfl) rfl rfl ?_
  refine g_aload_n 8 rfl rfl rfl ?_
  refine g_iload_n 9 rfl rfl rfl ?_
  obtain ⟨q18, hq18, h⟩ := Option.bind_eq_some_iff.mp h
  refine g_callV (J := sm_I218) 12 rfl (Nat.le_of_ble_eq_true rfl) rfl rfl (Nat.le_of_ble_eq_true rfl) s_280 (Nat.le_of_ble_eq_true rfl) (Nat.le_of_ble_eq_true rfl) rfl rfl (F_218 d x1 hq18) ?_
  refine g_istore 14 [(4, .int q18), (3, .int (U.1 298 x1.toNatClampNeg)), (0, .ref 280), (1, .int x1), (2, .int x2)] rfl (Nat.le_of_ble_eq_true rfl) rfl rfl ?_
  refine g_iconst (v := 0) 15 rfl rfl rfl ?_
  refine g_istore 17 [(5, .int 0), (4, .int q18), (3, .int (U.1 298 x1.toNatClampNeg)), (0, .ref 280), (1, .int x1), (2, .int x2)] rfl (Nat.le_of_ble_eq_true rfl) rfl rfl ?_
  exact g_sub (Sc rfl (Sc rfl (Sc rfl (Sc rfl (Sc rfl (Sc rfl (Sn _))))))) (F_223_17 d _ x1 x2 (U.1 298 x1.toNatClampNeg) q18 0 _ _ h)

def f_224 (x1 : Int32) (x2 : Int32) (U : sU) : Option (Int32 × sU) :=
  if ib x1 12 then
  if (U.1 299 x1.toNatClampNeg) = 5 then
    if ib ((12 * x1) + x2) 144 then
    some (U.1 302 ((12 * x1) + x2).toNatClampNeg, U)
    else none
  else
    Option.bind (f_223 x1 x2 U) fun q3 =>
    if ib x1 12 then
    if ib x1 12 then
    if ib (q3.1 298 x1.toNatClampNeg) 8 then
    Option.bind (f_209 (q3.1 298 x1.toNatClampNeg) (q3.1 290 (q3.1 298 x1.toNatClampNeg).toNatClampNeg) q3) fun q7 =>
    some (q7, q3)
    else none
    else none
    else none
  else none
set_option maxRecDepth 10000 in
set_option maxHeartbeats 2000000 in
theorem F_224 (d : Nat) (x1 : Int32) (x2 : Int32) {U : sU} {r : Int32} {U' : sU} (h : f_224 x1 x2 U = some (r, U')) : Rn (d + 3) sm_I224 [.ref 280, .int x1, .int x2] U (some (.int r)) U' := by
  refine Rn_of [(0, .ref 280), (1, .int x1), (2, .int x2)] (Nat.le_of_ble_eq_true rfl) (Sc rfl (Sc rfl (Sc rfl (Sn _)))) ?_
  first | rw [f_224] at h | rw [f_224.eq_def] at h
  refine g_aload_n 1 rfl rfl rfl ?_
  refine g_get 4 rfl s_280 (Nat.le_of_ble_eq_true rfl) rfl rfl ?_
  refine g_iload_n 5 rfl rfl rfl ?_
  by_cases i1 : ib x1 12
  case neg => rw [if_neg i1] at h; cases h
  rw [if_pos i1] at h
  refine g_iald 6 rfl s_299 l_299 i1 rfl ?_
  refine g_iconst (v := 5) 7 rfl rfl rfl ?_
  refine g_icmp_ne 22 10 rfl rfl (fun c2 => ?_) (fun c2 => ?_)
  · rw [if_neg c2] at h
    refine g_aload_n 23 rfl rfl rfl ?_
    refine g_iload_n 24 rfl rfl rfl ?_
    refine g_iload_n 25 rfl rfl rfl ?_
    obtain ⟨q3, hq3, h⟩ := Option.bind_eq_some_iff.mp h
    refine g_callV (J := sm_I223) 28 rfl (Nat.le_of_ble_eq_true rfl) rfl rfl (Nat.le_of_ble_eq_true rfl) s_280 (Nat.le_of_ble_eq_true rfl) (Nat.le_of_ble_eq_true rfl) rfl rfl (F_223 d x1 x2 hq3) ?_
    refine g_aload_n 29 rfl rfl rfl ?_
    refine g_aload_n 30 rfl rfl rfl ?_
    refine g_get 33 rfl s_280 (Nat.le_of_ble_eq_true rfl) rfl rfl ?_
    refine g_iload_n 34 rfl rfl rfl ?_
    by_cases i4 : ib x1 12
    case neg => rw [if_neg i4] at h; cases h
    rw [if_pos i4] at h
    refine g_iald 35 rfl s_298 l_298 i4 rfl ?_
    refine g_aload_n 36 rfl rfl rfl ?_
    refine g_get 39 rfl s_280 (Nat.le_of_ble_eq_true rfl) rfl rfl ?_
    refine g_aload_n 40 rfl rfl rfl ?_
    refine g_get 43 rfl s_280 (Nat.le_of_ble_eq_true rfl) rfl rfl ?_
    refine g_iload_n 44 rfl rfl rfl ?_
    by_cases i5 : ib x1 12
    case neg => rw [if_neg i5] at h; cases h
    rw [if_pos i5] at h
    refine g_iald 45 rfl s_298 l_298 i5 rfl ?_
    by_cases i6 : ib (q3.1 298 x1.toNatClampNeg) 8
    case neg => rw [if_neg i6] at h; cases h
    rw [if_pos i6] at h
    refine g_iald 46 rfl s_290 l_290 i6 rfl ?_
    obtain ⟨q7, hq7, h⟩ := Option.bind_eq_some_iff.mp h
    refine g_callV (J := sm_I209) 49 rfl (Nat.le_of_ble_eq_true rfl) rfl rfl (Nat.le_of_ble_eq_true rfl) s_280 (Nat.le_of_ble_eq_true rfl) (Nat.le_of_ble_eq_true rfl) rfl rfl (F_209 (d + 2) (q3.1 298 x1.toNatClampNeg) (q3.1 290 (q3.1 298 x1.toNatClampNeg).toNatClampNeg) hq7) ?_
    cases h
    exact g_iret rfl rfl
  · rw [if_pos c2] at h
    refine g_aload_n 11 rfl rfl rfl ?_
    refine g_get 14 rfl s_280 (Nat.le_of_ble_eq_true rfl) rfl rfl ?_
    refine g_bipush (v := 12) 16 rfl (by decide) rfl ?_
    refine g_iload_n 17 rfl rfl rfl ?_
    refine g_imul 18 rfl rfl ?_
    refine g_iload_n 19 rfl rfl rfl ?_
    refine g_iadd 20 rfl rfl ?_
    by_cases i8 : ib ((12 * x1) + x2) 144
    case neg => rw [if_neg i8] at h; cases h
    rw [if_pos i8] at h
    refine g_iald 21 rfl s_302 l_302 i8 rfl ?_
    cases h
    exact g_iret rfl rfl

def f_225 (x1 : Int32) (x2 : Int32) (U : sU) : Option (Int32 × sU) :=
  if (f_180 x1 U) = 0 then
    Option.bind (f_174 ((-5)) U) fun q3 =>
    some (q3.1, q3.2)
  else
    Option.bind (f_219 x1 x2 U) fun q4 =>
    if q4 = 0 then
      Option.bind (f_174 ((-5)) U) fun q8 =>
      some (q8.1, q8.2)
    else
      Option.bind (f_224 x1 x2 U) fun q7 =>
      some (q7.1, q7.2)
set_option maxRecDepth 10000 in
set_option maxHeartbeats 2000000 in
theorem F_225 (d : Nat) (x1 : Int32) (x2 : Int32) {U : sU} {r : Int32} {U' : sU} (h : f_225 x1 x2 U = some (r, U')) : Rn (d + 4) sm_I225 [.ref 280, .int x1, .int x2] U (some (.int r)) U' := by
  refine Rn_of [(0, .ref 280), (1, .int x1), (2, .int x2)] (Nat.le_of_ble_eq_true rfl) (Sc rfl (Sc rfl (Sc rfl (Sn _)))) ?_
  first | rw [f_225] at h | rw [f_225.eq_def] at h
  refine g_aload_n 1 rfl rfl rfl ?_
  refine g_iload_n 2 rfl rfl rfl ?_
  have r1 := F_180 (d + 3) x1 U
  refine g_callV (J := sm_I180) 5 rfl (Nat.le_of_ble_eq_true rfl) rfl rfl (Nat.le_of_ble_eq_true rfl) s_280 (Nat.le_of_ble_eq_true rfl) (Nat.le_of_ble_eq_true rfl) rfl rfl r1 ?_
  refine g_if_eq 17 8 rfl rfl (fun c2 => ?_) (fun c2 => ?_)
  · rw [if_pos c2] at h
    refine g_aload_n 18 rfl rfl rfl ?_
    refine g_bipush (v := (-5)) 20 rfl (by decide) rfl ?_
    obtain ⟨q3, hq3, h⟩ := Option.bind_eq_some_iff.mp h
    refine g_callV (J := sm_I174) 23 rfl (Nat.le_of_ble_eq_true rfl) rfl rfl (Nat.le_of_ble_eq_true rfl) s_280 (Nat.le_of_ble_eq_true rfl) (Nat.le_of_ble_eq_true rfl) rfl rfl (F_174 (d + 3) ((-5)) hq3) ?_
    cases h
    exact g_iret rfl rfl
  · rw [if_neg c2] at h
    refine g_aload_n 9 rfl rfl rfl ?_
    refine g_iload_n 10 rfl rfl rfl ?_
    refine g_iload_n 11 rfl rfl rfl ?_
    obtain ⟨q4, hq4, h⟩ := Option.bind_eq_some_iff.mp h
    have r5 := (F_219 (d + 2) x1 x2 hq4)
    refine g_callV (J := sm_I219) 14 rfl (Nat.le_of_ble_eq_true rfl) rfl rfl (Nat.le_of_ble_eq_true rfl) s_280 (Nat.le_of_ble_eq_true rfl) (Nat.le_of_ble_eq_true rfl) rfl rfl r5 ?_
    refine g_if_ne 24 17 rfl rfl (fun c6 => ?_) (fun c6 => ?_)
    · rw [if_neg c6] at h
      refine g_aload_n 25 rfl rfl rfl ?_
      refine g_iload_n 26 rfl rfl rfl ?_
      refine g_iload_n 27 rfl rfl rfl ?_
      obtain ⟨q7, hq7, h⟩ := Option.bind_eq_some_iff.mp h
      refine g_callV (J := sm_I224) 30 rfl (Nat.le_of_ble_eq_true rfl) rfl rfl (Nat.le_of_ble_eq_true rfl) s_280 (Nat.le_of_ble_eq_true rfl) (Nat.le_of_ble_eq_true rfl) rfl rfl (F_224 d x1 x2 hq7) ?_
      cases h
      exact g_iret rfl rfl
    · rw [if_pos c6] at h
      refine g_aload_n 18 rfl rfl rfl ?_
      refine g_bipush (v := (-5)) 20 rfl (by decide) rfl ?_
      obtain ⟨q8, hq8, h⟩ := Option.bind_eq_some_iff.mp h
      refine g_callV (J := sm_I174) 23 rfl (Nat.le_of_ble_eq_true rfl) rfl rfl (Nat.le_of_ble_eq_true rfl) s_280 (Nat.le_of_ble_eq_true rfl) (Nat.le_of_ble_eq_true rfl) rfl rfl (F_174 (d + 3) ((-5)) hq8) ?_
      cases h
      exact g_iret rfl rfl

def f_226_20 : Nat → Int32 → Int32 → sU → Option sU
  | 0, _, _, _ => none
  | n + 1, v1, v2, U =>
    if 12 ≤ v2 then
      some U
    else
      if (((U.1 280 43) >>> (v2 &&& 31)) &&& 1) = 1 then
        Option.bind (f_224 v1 v2 U) fun q3 =>
        if ib v2 12 then
        f_226_20 n v1 (v2 + 1) (sI q3.2 306 v2.toNatClampNeg q3.1)
        else none
      else
        f_226_20 n v1 (v2 + 1) U
set_option maxRecDepth 10000 in
set_option maxHeartbeats 2000000 in
theorem F_226_20 (d : Nat)   : ∀ (n : Nat) (v1 : Int32) (v2 : Int32) (U : sU) (U' : sU), f_226_20 n v1 v2 U = some U' → G (d + 4) sm_I226 20 [(0, .ref 280), (1, .int v1), (2, .int v2)] [] U none U' := by
  intro n
  induction n with
  | zero => intro v1 v2 U U' h; cases h
  | succ n ih =>
    intro v1 v2 U U' h
    first | rw [f_226_20] at h | (rw [f_226_20.eq_def] at h; dsimp only at h)
    refine g_iload_n 21 rfl rfl rfl ?_
    refine g_bipush (v := 12) 23 rfl (by decide) rfl ?_
    refine g_icmp_ge 56 26 rfl rfl (fun c1 => ?_) (fun c1 => ?_)
    · rw [if_pos c1] at h
      cases h
      exact g_vret rfl rfl
    · rw [if_neg c1] at h
      refine g_aload_n 27 rfl rfl rfl ?_
      refine g_get 30 rfl s_280 (Nat.le_of_ble_eq_true rfl) rfl rfl ?_
      refine g_iload_n 31 rfl rfl rfl ?_
      refine g_ishr 32 rfl rfl ?_
      refine g_iconst (v := 1) 33 rfl rfl rfl ?_
      refine g_iand 34 rfl rfl ?_
      refine g_iconst (v := 1) 35 rfl rfl rfl ?_
      refine g_icmp_ne 50 38 rfl rfl (fun c2 => ?_) (fun c2 => ?_)
      · rw [if_neg c2] at h
        refine g_iinc (v := v2 + 1) 53 [(2, .int (v2 + 1)), (0, .ref 280), (1, .int v1)] rfl rfl (Nat.le_of_ble_eq_true rfl) rfl rfl rfl ?_
        refine g_goto 20 rfl ?_
        exact g_sub (Sc rfl (Sc rfl (Sc rfl (Sn _)))) (ih v1 (v2 + 1) _ _ h)
      · rw [if_pos c2] at h
        refine g_aload_n 39 rfl rfl rfl ?_
        refine g_get 42 rfl s_280 (Nat.le_of_ble_eq_true rfl) rfl rfl ?_
        refine g_iload_n 43 rfl rfl rfl ?_
        refine g_aload_n 44 rfl rfl rfl ?_
        refine g_iload_n 45 rfl rfl rfl ?_
        refine g_iload_n 46 rfl rfl rfl ?_
        obtain ⟨q3, hq3, h⟩ := Option.bind_eq_some_iff.mp h
        refine g_callV (J := sm_I224) 49 rfl (Nat.le_of_ble_eq_true rfl) rfl rfl (Nat.le_of_ble_eq_true rfl) s_280 (Nat.le_of_ble_eq_true rfl) (Nat.le_of_ble_eq_true rfl) rfl rfl (F_224 d v1 v2 hq3) ?_
        by_cases i4 : ib v2 12
        case neg => rw [if_neg i4] at h; cases h
        rw [if_pos i4] at h
        refine g_iast 50 rfl s_306 l_306 i4 rfl ?_
        refine g_iinc (v := v2 + 1) 53 [(2, .int (v2 + 1)), (0, .ref 280), (1, .int v1)] rfl rfl (Nat.le_of_ble_eq_true rfl) rfl rfl rfl ?_
        refine g_goto 20 rfl ?_
        exact g_sub (Sc rfl (Sc rfl (Sc rfl (Sn _)))) (ih v1 (v2 + 1) _ _ h)
def f_226 (x1 : Int32) (U : sU) : Option sU :=
  Option.bind (f_217 x1 U) fun q5 =>
  Option.bind (f_218 x1 (sI U 280 43 q5)) fun q6 =>
  f_226_20 FU x1 0 (sI (sI U 280 43 q5) 280 44 q6)
set_option maxRecDepth 10000 in
set_option maxHeartbeats 2000000 in
theorem F_226 (d : Nat) (x1 : Int32) {U : sU} {U' : sU} (h : f_226 x1 U = some U') : Rn (d + 4) sm_I226 [.ref 280, .int x1] U none U' := by
  refine Rn_of [(0, .ref 280), (1, .int x1)] (Nat.le_of_ble_eq_true rfl) (Sc rfl (Sc rfl (Sn _))) ?_
  first | rw [f_226] at h | rw [f_226.eq_def] at h
  refine g_aload_n 1 rfl rfl rfl ?_
  refine g_aload_n 2 rfl rfl rfl ?_
  refine g_iload_n 3 rfl rfl rfl ?_
  obtain ⟨q5, hq5, h⟩ := Option.bind_eq_some_iff.mp h
  refine g_callV (J := sm_I217) 6 rfl (Nat.le_of_ble_eq_true rfl) rfl rfl (Nat.le_of_ble_eq_true rfl) s_280 (Nat.le_of_ble_eq_true rfl) (Nat.le_of_ble_eq_true rfl) rfl rfl (F_217 (d + 3) x1 hq5) ?_
  refine g_putI 9 rfl s_280 (Nat.le_of_ble_eq_true rfl) (Nat.le_of_ble_eq_true rfl) rfl fs_10_43 rfl ?_
  refine g_aload_n 10 rfl rfl rfl ?_
  refine g_aload_n 11 rfl rfl rfl ?_
  refine g_iload_n 12 rfl rfl rfl ?_
  obtain ⟨q6, hq6, h⟩ := Option.bind_eq_some_iff.mp h
  refine g_callV (J := sm_I218) 15 rfl (Nat.le_of_ble_eq_true rfl) rfl rfl (Nat.le_of_ble_eq_true rfl) s_280 (Nat.le_of_ble_eq_true rfl) (Nat.le_of_ble_eq_true rfl) rfl rfl (F_218 (d + 2) x1 hq6) ?_
  refine g_putI 18 rfl s_280 (Nat.le_of_ble_eq_true rfl) (Nat.le_of_ble_eq_true rfl) rfl fs_10_44 rfl ?_
  refine g_iconst (v := 0) 19 rfl rfl rfl ?_
  refine g_istore_n 20 [(2, .int 0), (0, .ref 280), (1, .int x1)] rfl (Nat.le_of_ble_eq_true rfl) rfl rfl ?_
  exact g_sub (Sc rfl (Sc rfl (Sc rfl (Sn _)))) (F_226_20 d _ x1 0 _ _ h)

def f_227_63 : Nat → Int32 → Int32 → Int64 → Int64 → Int64 → Int32 → sU → Option Int64
  | 0, _, _, _, _, _, _, _ => none
  | n + 1, v1, v5, v6, v8, v10, v12, U =>
    if 12 ≤ v12 then
      if ib v1 12 then
      if ib v1 12 then
      some (((((U.1 300 v1.toNatClampNeg) * (U.1 280 44)).toInt64) * v8) + (((100 - (U.1 300 v1.toNatClampNeg)).toInt64) * v10))
      else none
      else none
    else
      if (((U.1 280 43) >>> (v12 &&& 31)) &&& 1) = 1 then
        if ib v12 12 then
        Option.bind (f_208 v5 (((U.1 306 v12.toNatClampNeg).toInt64) - v6) U) fun q6 =>
        f_227_63 n v1 v5 v6 v8 (v10 + q6) (v12 + 1) U
        else none
      else
        f_227_63 n v1 v5 v6 v8 v10 (v12 + 1) U
set_option maxRecDepth 10000 in
set_option maxHeartbeats 2000000 in
theorem F_227_63 (d : Nat)   : ∀ (n : Nat) (v1 : Int32) (v5 : Int32) (v6 : Int64) (v8 : Int64) (v10 : Int64) (v12 : Int32) (U : sU) (r : Int64), f_227_63 n v1 v5 v6 v8 v10 v12 U = some r → G (d + 1) sm_I227 63 [(0, .ref 280), (1, .int v1), (5, .int v5), (6, .long v6), (8, .long v8), (10, .long v10), (12, .int v12)] [] U (some (.long r)) U := by
  intro n
  induction n with
  | zero => intro v1 v5 v6 v8 v10 v12 U r h; cases h
  | succ n ih =>
    intro v1 v5 v6 v8 v10 v12 U r h
    first | rw [f_227_63] at h | (rw [f_227_63.eq_def] at h; dsimp only at h)
    refine g_iload 65 rfl rfl rfl ?_
    refine g_bipush (v := 12) 67 rfl (by decide) rfl ?_
    refine g_icmp_ge 111 70 rfl rfl (fun c1 => ?_) (fun c1 => ?_)
    · rw [if_pos c1] at h
      refine g_aload_n 112 rfl rfl rfl ?_
      refine g_get 115 rfl s_280 (Nat.le_of_ble_eq_true rfl) rfl rfl ?_
      refine g_iload_n 116 rfl rfl rfl ?_
      by_cases i2 : ib v1 12
      case neg => rw [if_neg i2] at h; cases h
      rw [if_pos i2] at h
      refine g_iald 117 rfl s_300 l_300 i2 rfl ?_
      refine g_aload_n 118 rfl rfl rfl ?_
      refine g_get 121 rfl s_280 (Nat.le_of_ble_eq_true rfl) rfl rfl ?_
      refine g_imul 122 rfl rfl ?_
      refine g_i2l 123 rfl rfl ?_
      refine g_lload 125 rfl rfl rfl ?_
      refine g_lmul 126 rfl rfl ?_
      refine g_bipush (v := 100) 128 rfl (by decide) rfl ?_
      refine g_aload_n 129 rfl rfl rfl ?_
      refine g_get 132 rfl s_280 (Nat.le_of_ble_eq_true rfl) rfl rfl ?_
      refine g_iload_n 133 rfl rfl rfl ?_
      by_cases i3 : ib v1 12
      case neg => rw [if_neg i3] at h; cases h
      rw [if_pos i3] at h
      refine g_iald 134 rfl s_300 l_300 i3 rfl ?_
      refine g_isub 135 rfl rfl ?_
      refine g_i2l 136 rfl rfl ?_
      refine g_lload 138 rfl rfl rfl ?_
      refine g_lmul 139 rfl rfl ?_
      refine g_ladd 140 rfl rfl ?_
      cases h
      exact g_lret rfl rfl
    · rw [if_neg c1] at h
      refine g_aload_n 71 rfl rfl rfl ?_
      refine g_get 74 rfl s_280 (Nat.le_of_ble_eq_true rfl) rfl rfl ?_
      refine g_iload 76 rfl rfl rfl ?_
      refine g_ishr 77 rfl rfl ?_
      refine g_iconst (v := 1) 78 rfl rfl rfl ?_
      refine g_iand 79 rfl rfl ?_
      refine g_iconst (v := 1) 80 rfl rfl rfl ?_
      refine g_icmp_ne 105 83 rfl rfl (fun c4 => ?_) (fun c4 => ?_)
      · rw [if_neg c4] at h
        refine g_iinc (v := v12 + 1) 108 [(12, .int (v12 + 1)), (0, .ref 280), (1, .int v1), (5, .int v5), (6, .long v6), (8, .long v8), (10, .long v10)] rfl rfl (Nat.le_of_ble_eq_true rfl) rfl rfl rfl ?_
        refine g_goto 63 rfl ?_
        exact g_sub (Sc rfl (Sc rfl (Sc rfl (Sc rfl (Sc rfl (Sc rfl (Sc rfl (Sn _)))))))) (ih v1 v5 v6 v8 v10 (v12 + 1) _ _ h)
      · rw [if_pos c4] at h
        refine g_lload 85 rfl rfl rfl ?_
        refine g_aload_n 86 rfl rfl rfl ?_
        refine g_iload 88 rfl rfl rfl ?_
        refine g_aload_n 89 rfl rfl rfl ?_
        refine g_get 92 rfl s_280 (Nat.le_of_ble_eq_true rfl) rfl rfl ?_
        refine g_iload 94 rfl rfl rfl ?_
        by_cases i5 : ib v12 12
        case neg => rw [if_neg i5] at h; cases h
        rw [if_pos i5] at h
        refine g_iald 95 rfl s_306 l_306 i5 rfl ?_
        refine g_i2l 96 rfl rfl ?_
        refine g_lload 98 rfl rfl rfl ?_
        refine g_lsub 99 rfl rfl ?_
        obtain ⟨q6, hq6, h⟩ := Option.bind_eq_some_iff.mp h
        refine g_callV (J := sm_I208) 102 rfl (Nat.le_of_ble_eq_true rfl) rfl rfl (Nat.le_of_ble_eq_true rfl) s_280 (Nat.le_of_ble_eq_true rfl) (Nat.le_of_ble_eq_true rfl) rfl rfl (F_208 d v5 (((U.1 306 v12.toNatClampNeg).toInt64) - v6) hq6) ?_
        refine g_ladd 103 rfl rfl ?_
        refine g_lstore 105 [(10, .long (v10 + q6)), (0, .ref 280), (1, .int v1), (5, .int v5), (6, .long v6), (8, .long v8), (12, .int v12)] rfl (Nat.le_of_ble_eq_true rfl) rfl rfl ?_
        refine g_iinc (v := v12 + 1) 108 [(12, .int (v12 + 1)), (10, .long (v10 + q6)), (0, .ref 280), (1, .int v1), (5, .int v5), (6, .long v6), (8, .long v8)] rfl rfl (Nat.le_of_ble_eq_true rfl) rfl rfl rfl ?_
        refine g_goto 63 rfl ?_
        exact g_sub (Sc rfl (Sc rfl (Sc rfl (Sc rfl (Sc rfl (Sc rfl (Sc rfl (Sn _)))))))) (ih v1 v5 v6 v8 (v10 + q6) (v12 + 1) _ _ h)
def f_227 (x1 : Int32) (x2 : Int32) (x3 : Int32) (x4 : Int32) (U : sU) : Option Int64 :=
  if ib x1 12 then
  if ib ((12 * (U.1 298 x1.toNatClampNeg)) + x2) 96 then
  if ib x3 12 then
  Option.bind (f_208 (U.1 298 x1.toNatClampNeg) (((U.1 306 x3.toNatClampNeg).toInt64) - (((U.1 296 ((12 * (U.1 298 x1.toNatClampNeg)) + x2).toNatClampNeg) + x4).toInt64)) U) fun q10 =>
  if ib x1 12 then
  if (U.1 299 x1.toNatClampNeg) = 2 then
    f_227_63 FU x1 (U.1 298 x1.toNatClampNeg) (((U.1 296 ((12 * (U.1 298 x1.toNatClampNeg)) + x2).toNatClampNeg) + x4).toInt64) q10 0 0 U
  else
    some q10
  else none
  else none
  else none
  else none
set_option maxRecDepth 10000 in
set_option maxHeartbeats 2000000 in
theorem F_227 (d : Nat) (x1 : Int32) (x2 : Int32) (x3 : Int32) (x4 : Int32) {U : sU} {r : Int64} (h : f_227 x1 x2 x3 x4 U = some r) : Rn (d + 1) sm_I227 [.ref 280, .int x1, .int x2, .int x3, .int x4] U (some (.long r)) U := by
  refine Rn_of [(0, .ref 280), (1, .int x1), (2, .int x2), (3, .int x3), (4, .int x4)] (Nat.le_of_ble_eq_true rfl) (Sc rfl (Sc rfl (Sc rfl (Sc rfl (Sc rfl (Sn _)))))) ?_
  first | rw [f_227] at h | rw [f_227.eq_def] at h
  refine g_aload_n 1 rfl rfl rfl ?_
  refine g_get 4 rfl s_280 (Nat.le_of_ble_eq_true rfl) rfl rfl ?_
  refine g_iload_n 5 rfl rfl rfl ?_
  by_cases i7 : ib x1 12
  case neg => rw [if_neg i7] at h; cases h
  rw [if_pos i7] at h
  refine g_iald 6 rfl s_298 l_298 i7 rfl ?_
  refine g_istore 8 [(5, .int (U.1 298 x1.toNatClampNeg)), (0, .ref 280), (1, .int x1), (2, .int x2), (3, .int x3), (4, .int x4)] rfl (Nat.le_of_ble_eq_true rfl) rfl rfl ?_
  refine g_aload_n 9 rfl rfl rfl ?_
  refine g_get 12 rfl s_280 (Nat.le_of_ble_eq_true rfl) rfl rfl ?_
  refine g_bipush (v := 12) 14 rfl (by decide) rfl ?_
  refine g_iload 16 rfl rfl rfl ?_
  refine g_imul 17 rfl rfl ?_
  refine g_iload_n 18 rfl rfl rfl ?_
  refine g_iadd 19 rfl rfl ?_
  by_cases i8 : ib ((12 * (U.1 298 x1.toNatClampNeg)) + x2) 96
  case neg => rw [if_neg i8] at h; cases h
  rw [if_pos i8] at h
  refine g_iald 20 rfl s_296 l_296 i8 rfl ?_
  refine g_iload 22 rfl rfl rfl ?_
  refine g_iadd 23 rfl rfl ?_
  refine g_i2l 24 rfl rfl ?_
  refine g_lstore 26 [(6, .long (((U.1 296 ((12 * (U.1 298 x1.toNatClampNeg)) + x2).toNatClampNeg) + x4).toInt64)), (5, .int (U.1 298 x1.toNatClampNeg)), (0, .ref 280), (1, .int x1), (2, .int x2), (3, .int x3), (4, .int x4)] rfl (Nat.le_of_ble_eq_true rfl) rfl rfl ?_
  refine g_aload_n 27 rfl rfl rfl ?_
  refine g_iload 29 rfl rfl rfl ?_
  refine g_aload_n 30 rfl rfl rfl ?_
  refine g_get 33 rfl s_280 (Nat.le_of_ble_eq_true rfl) rfl rfl ?_
  refine g_iload_n 34 rfl rfl rfl ?_
  by_cases i9 : ib x3 12
  case neg => rw [if_neg i9] at h; cases h
  rw [if_pos i9] at h
  refine g_iald 35 rfl s_306 l_306 i9 rfl ?_
  refine g_i2l 36 rfl rfl ?_
  refine g_lload 38 rfl rfl rfl ?_
  refine g_lsub 39 rfl rfl ?_
  obtain ⟨q10, hq10, h⟩ := Option.bind_eq_some_iff.mp h
  refine g_callV (J := sm_I208) 42 rfl (Nat.le_of_ble_eq_true rfl) rfl rfl (Nat.le_of_ble_eq_true rfl) s_280 (Nat.le_of_ble_eq_true rfl) (Nat.le_of_ble_eq_true rfl) rfl rfl (F_208 d (U.1 298 x1.toNatClampNeg) (((U.1 306 x3.toNatClampNeg).toInt64) - (((U.1 296 ((12 * (U.1 298 x1.toNatClampNeg)) + x2).toNatClampNeg) + x4).toInt64)) hq10) ?_
  refine g_lstore 44 [(8, .long q10), (6, .long (((U.1 296 ((12 * (U.1 298 x1.toNatClampNeg)) + x2).toNatClampNeg) + x4).toInt64)), (5, .int (U.1 298 x1.toNatClampNeg)), (0, .ref 280), (1, .int x1), (2, .int x2), (3, .int x3), (4, .int x4)] rfl (Nat.le_of_ble_eq_true rfl) rfl rfl ?_
  refine g_aload_n 45 rfl rfl rfl ?_
  refine g_get 48 rfl s_280 (Nat.le_of_ble_eq_true rfl) rfl rfl ?_
  refine g_iload_n 49 rfl rfl rfl ?_
  by_cases i11 : ib x1 12
  case neg => rw [if_neg i11] at h; cases h
  rw [if_pos i11] at h
  refine g_iald 50 rfl s_299 l_299 i11 rfl ?_
  refine g_iconst (v := 2) 51 rfl rfl rfl ?_
  refine g_icmp_eq 57 54 rfl rfl (fun c12 => ?_) (fun c12 => ?_)
  · rw [if_pos c12] at h
    refine g_lconst (v := 0) 58 rfl rfl rfl ?_
    refine g_lstore 60 [(10, .long 0), (8, .long q10), (6, .long (((U.1 296 ((12 * (U.1 298 x1.toNatClampNeg)) + x2).toNatClampNeg) + x4).toInt64)), (5, .int (U.1 298 x1.toNatClampNeg)), (0, .ref 280), (1, .int x1), (2, .int x2), (3, .int x3), (4, .int x4)] rfl (Nat.le_of_ble_eq_true rfl) rfl rfl ?_
    refine g_iconst (v := 0) 61 rfl rfl rfl ?_
    refine g_istore 63 [(12, .int 0), (10, .long 0), (8, .long q10), (6, .long (((U.1 296 ((12 * (U.1 298 x1.toNatClampNeg)) + x2).toNatClampNeg) + x4).toInt64)), (5, .int (U.1 298 x1.toNatClampNeg)), (0, .ref 280), (1, .int x1), (2, .int x2), (3, .int x3), (4, .int x4)] rfl (Nat.le_of_ble_eq_true rfl) rfl rfl ?_
    exact g_sub (Sc rfl (Sc rfl (Sc rfl (Sc rfl (Sc rfl (Sc rfl (Sc rfl (Sn _)))))))) (F_227_63 d _ x1 (U.1 298 x1.toNatClampNeg) (((U.1 296 ((12 * (U.1 298 x1.toNatClampNeg)) + x2).toNatClampNeg) + x4).toInt64) q10 0 0 _ _ h)
  · rw [if_neg c12] at h
    refine g_lload 56 rfl rfl rfl ?_
    cases h
    exact g_lret rfl rfl

def f_229_35 : Nat → Int32 → Int32 → Int32 → Int64 → Int64 → Int32 → sU → Option (Int32 × sU)
  | 0, _, _, _, _, _, _, _ => none
  | n + 1, v2, v3, v4, v5, v7, v9, U =>
    if ib v3 8 then
    if (U.1 288 v3.toNatClampNeg) ≤ v9 then
      if 0 ≤ (lg_cmp v5 v7) then
        some (0, U)
      else
        some (1, U)
    else
      if ib v9 12 then
      if ib ((12 * v3) + v9) 96 then
      if ib v3 8 then
      Option.bind (f_208 v3 (((v4 - (U.1 296 ((12 * v3) + v9).toNatClampNeg)) - (U.1 290 v3.toNatClampNeg)).toInt64) U) fun q7 =>
      if ib v9 12 then
      if ib v2 12 then
      if ib ((12 * v3) + v9) 96 then
      if ib v3 8 then
      Option.bind (f_208 v3 ((((U.1 306 v2.toNatClampNeg) - (U.1 296 ((12 * v3) + v9).toNatClampNeg)) - (U.1 290 v3.toNatClampNeg)).toInt64) U) fun q12 =>
      f_229_35 n v2 v3 v4 (v5 + ((U.2.1 305 v9.toNatClampNeg) * q7)) (v7 + ((U.2.1 305 v9.toNatClampNeg) * q12)) (v9 + 1) U
      else none
      else none
      else none
      else none
      else none
      else none
      else none
    else none
set_option maxRecDepth 10000 in
set_option maxHeartbeats 2000000 in
theorem F_229_35 (d : Nat)   : ∀ (n : Nat) (v2 : Int32) (v3 : Int32) (v4 : Int32) (v5 : Int64) (v7 : Int64) (v9 : Int32) (U : sU) (r : Int32) (U' : sU), f_229_35 n v2 v3 v4 v5 v7 v9 U = some (r, U') → G (d + 3) sm_I229 35 [(0, .ref 280), (2, .int v2), (3, .int v3), (4, .int v4), (5, .long v5), (7, .long v7), (9, .int v9)] [] U (some (.int r)) U' := by
  intro n
  induction n with
  | zero => intro v2 v3 v4 v5 v7 v9 U r U' h; cases h
  | succ n ih =>
    intro v2 v3 v4 v5 v7 v9 U r U' h
    first | rw [f_229_35] at h | (rw [f_229_35.eq_def] at h; dsimp only at h)
    refine g_iload 37 rfl rfl rfl ?_
    refine g_aload_n 38 rfl rfl rfl ?_
    refine g_get 41 rfl s_280 (Nat.le_of_ble_eq_true rfl) rfl rfl ?_
    refine g_iload_n 42 rfl rfl rfl ?_
    by_cases i1 : ib v3 8
    case neg => rw [if_neg i1] at h; cases h
    rw [if_pos i1] at h
    refine g_iald 43 rfl s_288 l_288 i1 rfl ?_
    refine g_icmp_ge 138 46 rfl rfl (fun c2 => ?_) (fun c2 => ?_)
    · rw [if_pos c2] at h
      refine g_lload 140 rfl rfl rfl ?_
      refine g_lload 142 rfl rfl rfl ?_
      refine g_lcmp 143 rfl rfl ?_
      refine g_if_ge 150 146 rfl rfl (fun c3 => ?_) (fun c3 => ?_)
      · rw [if_pos c3] at h
        refine g_iconst (v := 0) 151 rfl rfl rfl ?_
        cases h
        exact g_zret rfl rfl (Or.inl rfl)
      · rw [if_neg c3] at h
        refine g_iconst (v := 1) 147 rfl rfl rfl ?_
        refine g_goto 151 rfl ?_
        cases h
        exact g_zret rfl rfl (Or.inr rfl)
    · rw [if_neg c2] at h
      refine g_lload 48 rfl rfl rfl ?_
      refine g_aload_n 49 rfl rfl rfl ?_
      refine g_get 52 rfl s_280 (Nat.le_of_ble_eq_true rfl) rfl rfl ?_
      refine g_iload 54 rfl rfl rfl ?_
      by_cases i4 : ib v9 12
      case neg => rw [if_neg i4] at h; cases h
      rw [if_pos i4] at h
      refine g_lald 55 rfl s_305 l_305 i4 rfl ?_
      refine g_aload_n 56 rfl rfl rfl ?_
      refine g_iload_n 57 rfl rfl rfl ?_
      refine g_iload 59 rfl rfl rfl ?_
      refine g_aload_n 60 rfl rfl rfl ?_
      refine g_get 63 rfl s_280 (Nat.le_of_ble_eq_true rfl) rfl rfl ?_
      refine g_bipush (v := 12) 65 rfl (by decide) rfl ?_
      refine g_iload_n 66 rfl rfl rfl ?_
      refine g_imul 67 rfl rfl ?_
      refine g_iload 69 rfl rfl rfl ?_
      refine g_iadd 70 rfl rfl ?_
      by_cases i5 : ib ((12 * v3) + v9) 96
      case neg => rw [if_neg i5] at h; cases h
      rw [if_pos i5] at h
      refine g_iald 71 rfl s_296 l_296 i5 rfl ?_
      refine g_isub 72 rfl rfl ?_
      refine g_aload_n 73 rfl rfl rfl ?_
      refine g_get 76 rfl s_280 (Nat.le_of_ble_eq_true rfl) rfl rfl ?_
      refine g_iload_n 77 rfl rfl rfl ?_
      by_cases i6 : ib v3 8
      case neg => rw [if_neg i6] at h; cases h
      rw [if_pos i6] at h
      refine g_iald 78 rfl s_290 l_290 i6 rfl ?_
      refine g_isub 79 rfl rfl ?_
      refine g_i2l 80 rfl rfl ?_
      obtain ⟨q7, hq7, h⟩ := Option.bind_eq_some_iff.mp h
      refine g_callV (J := sm_I208) 83 rfl (Nat.le_of_ble_eq_true rfl) rfl rfl (Nat.le_of_ble_eq_true rfl) s_280 (Nat.le_of_ble_eq_true rfl) (Nat.le_of_ble_eq_true rfl) rfl rfl (F_208 (d + 2) v3 (((v4 - (U.1 296 ((12 * v3) + v9).toNatClampNeg)) - (U.1 290 v3.toNatClampNeg)).toInt64) hq7) ?_
      refine g_lmul 84 rfl rfl ?_
      refine g_ladd 85 rfl rfl ?_
      refine g_lstore 87 [(5, .long (v5 + ((U.2.1 305 v9.toNatClampNeg) * q7))), (0, .ref 280), (2, .int v2), (3, .int v3), (4, .int v4), (7, .long v7), (9, .int v9)] rfl (Nat.le_of_ble_eq_true rfl) rfl rfl ?_
      refine g_lload 89 rfl rfl rfl ?_
      refine g_aload_n 90 rfl rfl rfl ?_
      refine g_get 93 rfl s_280 (Nat.le_of_ble_eq_true rfl) rfl rfl ?_
      refine g_iload 95 rfl rfl rfl ?_
      by_cases i8 : ib v9 12
      case neg => rw [if_neg i8] at h; cases h
      rw [if_pos i8] at h
      refine g_lald 96 rfl s_305 l_305 i8 rfl ?_
      refine g_aload_n 97 rfl rfl rfl ?_
      refine g_iload_n 98 rfl rfl rfl ?_
      refine g_aload_n 99 rfl rfl rfl ?_
      refine g_get 102 rfl s_280 (Nat.le_of_ble_eq_true rfl) rfl rfl ?_
      refine g_iload_n 103 rfl rfl rfl ?_
      by_cases i9 : ib v2 12
      case neg => rw [if_neg i9] at h; cases h
      rw [if_pos i9] at h
      refine g_iald 104 rfl s_306 l_306 i9 rfl ?_
      refine g_aload_n 105 rfl rfl rfl ?_
      refine g_get 108 rfl s_280 (Nat.le_of_ble_eq_true rfl) rfl rfl ?_
      refine g_bipush (v := 12) 110 rfl (by decide) rfl ?_
      refine g_iload_n 111 rfl rfl rfl ?_
      refine g_imul 112 rfl rfl ?_
      refine g_iload 114 rfl rfl rfl ?_
      refine g_iadd 115 rfl rfl ?_
      by_cases i10 : ib ((12 * v3) + v9) 96
      case neg => rw [if_neg i10] at h; cases h
      rw [if_pos i10] at h
      refine g_iald 116 rfl s_296 l_296 i10 rfl ?_
      refine g_isub 117 rfl rfl ?_
      refine g_aload_n 118 rfl rfl rfl ?_
      refine g_get 121 rfl s_280 (Nat.le_of_ble_eq_true rfl) rfl rfl ?_
      refine g_iload_n 122 rfl rfl rfl ?_
      by_cases i11 : ib v3 8
      case neg => rw [if_neg i11] at h; cases h
      rw [if_pos i11] at h
      refine g_iald 123 rfl s_290 l_290 i11 rfl ?_
      refine g_isub 124 rfl rfl ?_
      refine g_i2l 125 rfl rfl ?_
      obtain ⟨q12, hq12, h⟩ := Option.bind_eq_some_iff.mp h
      refine g_callV (J := sm_I208) 128 rfl (Nat.le_of_ble_eq_true rfl) rfl rfl (Nat.le_of_ble_eq_true rfl) s_280 (Nat.le_of_ble_eq_true rfl) (Nat.le_of_ble_eq_true rfl) rfl rfl (F_208 (d + 2) v3 ((((U.1 306 v2.toNatClampNeg) - (U.1 296 ((12 * v3) + v9).toNatClampNeg)) - (U.1 290 v3.toNatClampNeg)).toInt64) hq12) ?_
      refine g_lmul 129 rfl rfl ?_
      refine g_ladd 130 rfl rfl ?_
      refine g_lstore 132 [(7, .long (v7 + ((U.2.1 305 v9.toNatClampNeg) * q12))), (5, .long (v5 + ((U.2.1 305 v9.toNatClampNeg) * q7))), (0, .ref 280), (2, .int v2), (3, .int v3), (4, .int v4), (9, .int v9)] rfl (Nat.le_of_ble_eq_true rfl) rfl rfl ?_
      refine g_iinc (v := v9 + 1) 135 [(9, .int (v9 + 1)), (7, .long (v7 + ((U.2.1 305 v9.toNatClampNeg) * q12))), (5, .long (v5 + ((U.2.1 305 v9.toNatClampNeg) * q7))), (0, .ref 280), (2, .int v2), (3, .int v3), (4, .int v4)] rfl rfl (Nat.le_of_ble_eq_true rfl) rfl rfl rfl ?_
      refine g_goto 35 rfl ?_
      exact g_sub (Sc rfl (Sc rfl (Sc rfl (Sc rfl (Sc rfl (Sc rfl (Sc rfl (Sn _)))))))) (ih v2 v3 v4 (v5 + ((U.2.1 305 v9.toNatClampNeg) * q7)) (v7 + ((U.2.1 305 v9.toNatClampNeg) * q12)) (v9 + 1) _ _ _ h)
def f_229 (x1 : Int32) (x2 : Int32) (U : sU) : Option (Int32 × sU) :=
  if ib x1 12 then
  Option.bind (f_223 x1 x2 U) fun q14 =>
  if ib (U.1 298 x1.toNatClampNeg) 8 then
  Option.bind (f_209 (U.1 298 x1.toNatClampNeg) (q14.1 290 (U.1 298 x1.toNatClampNeg).toNatClampNeg) q14) fun q16 =>
  f_229_35 FU x2 (U.1 298 x1.toNatClampNeg) q16 0 0 0 q14
  else none
  else none
set_option maxRecDepth 10000 in
set_option maxHeartbeats 2000000 in
theorem F_229 (d : Nat) (x1 : Int32) (x2 : Int32) {U : sU} {r : Int32} {U' : sU} (h : f_229 x1 x2 U = some (r, U')) : Rn (d + 3) sm_I229 [.ref 280, .int x1, .int x2] U (some (.int r)) U' := by
  refine Rn_of [(0, .ref 280), (1, .int x1), (2, .int x2)] (Nat.le_of_ble_eq_true rfl) (Sc rfl (Sc rfl (Sc rfl (Sn _)))) ?_
  first | rw [f_229] at h | rw [f_229.eq_def] at h
  refine g_aload_n 1 rfl rfl rfl ?_
  refine g_get 4 rfl s_280 (Nat.le_of_ble_eq_true rfl) rfl rfl ?_
  refine g_iload_n 5 rfl rfl rfl ?_
  by_cases i13 : ib x1 12
  case neg => rw [if_neg i13] at h; cases h
  rw [if_pos i13] at h
  refine g_iald 6 rfl s_298 l_298 i13 rfl ?_
  refine g_istore_n 7 [(3, .int (U.1 298 x1.toNatClampNeg)), (0, .ref 280), (1, .int x1), (2, .int x2)] rfl (Nat.le_of_ble_eq_true rfl) rfl rfl ?_
  refine g_aload_n 8 rfl rfl rfl ?_
  refine g_iload_n 9 rfl rfl rfl ?_
  refine g_iload_n 10 rfl rfl rfl ?_
  obtain ⟨q14, hq14, h⟩ := Option.bind_eq_some_iff.mp h
  refine g_callV (J := sm_I223) 13 rfl (Nat.le_of_ble_eq_true rfl) rfl rfl (Nat.le_of_ble_eq_true rfl) s_280 (Nat.le_of_ble_eq_true rfl) (Nat.le_of_ble_eq_true rfl) rfl rfl (F_223 d x1 x2 hq14) ?_
  refine g_aload_n 14 rfl rfl rfl ?_
  refine g_iload_n 15 rfl rfl rfl ?_
  refine g_aload_n 16 rfl rfl rfl ?_
  refine g_get 19 rfl s_280 (Nat.le_of_ble_eq_true rfl) rfl rfl ?_
  refine g_iload_n 20 rfl rfl rfl ?_
  by_cases i15 : ib (U.1 298 x1.toNatClampNeg) 8
  case neg => rw [if_neg i15] at h; cases h
  rw [if_pos i15] at h
  refine g_iald 21 rfl s_290 l_290 i15 rfl ?_
  obtain ⟨q16, hq16, h⟩ := Option.bind_eq_some_iff.mp h
  refine g_callV (J := sm_I209) 24 rfl (Nat.le_of_ble_eq_true rfl) rfl rfl (Nat.le_of_ble_eq_true rfl) s_280 (Nat.le_of_ble_eq_true rfl) (Nat.le_of_ble_eq_true rfl) rfl rfl (F_209 (d + 2) (U.1 298 x1.toNatClampNeg) (q14.1 290 (U.1 298 x1.toNatClampNeg).toNatClampNeg) hq16) ?_
  refine g_istore 26 [(4, .int q16), (3, .int (U.1 298 x1.toNatClampNeg)), (0, .ref 280), (1, .int x1), (2, .int x2)] rfl (Nat.le_of_ble_eq_true rfl) rfl rfl ?_
  refine g_lconst (v := 0) 27 rfl rfl rfl ?_
  refine g_lstore 29 [(5, .long 0), (4, .int q16), (3, .int (U.1 298 x1.toNatClampNeg)), (0, .ref 280), (1, .int x1), (2, .int x2)] rfl (Nat.le_of_ble_eq_true rfl) rfl rfl ?_
  refine g_lconst (v := 0) 30 rfl rfl rfl ?_
  refine g_lstore 32 [(7, .long 0), (5, .long 0), (4, .int q16), (3, .int (U.1 298 x1.toNatClampNeg)), (0, .ref 280), (1, .int x1), (2, .int x2)] rfl (Nat.le_of_ble_eq_true rfl) rfl rfl ?_
  refine g_iconst (v := 0) 33 rfl rfl rfl ?_
  refine g_istore 35 [(9, .int 0), (7, .long 0), (5, .long 0), (4, .int q16), (3, .int (U.1 298 x1.toNatClampNeg)), (0, .ref 280), (1, .int x1), (2, .int x2)] rfl (Nat.le_of_ble_eq_true rfl) rfl rfl ?_
  exact g_sub (Sc rfl (Sc rfl (Sc rfl (Sc rfl (Sc rfl (Sc rfl (Sc rfl (Sn _)))))))) (F_229_35 d _ x2 (U.1 298 x1.toNatClampNeg) q16 0 0 0 _ _ _ h)

def f_228_52 (k14 : Int32 → Int32 → Int32 → sU → Option (Int32 × sU)) : Nat → Int32 → Int32 → Int32 → Int64 → Int32 → sU → Option (Int32 × sU)
  | 0, _, _, _, _, _, _ => none
  | n + 1, v1, v2, v3, v4, v6, U =>
    if 12 ≤ v6 then
      k14 v1 v2 (v3 + 1) U
    else
      if (((U.1 280 43) >>> (v6 &&& 31)) &&& 1) = 1 then
        if ib v2 8 then
        Option.bind (f_227 v1 v3 v6 (U.1 289 v2.toNatClampNeg) U) fun q4 =>
        if 0 ≤ (lg_cmp q4 v4) then
          f_228_52 k14 n v1 v2 v3 v4 (v6 + 1) U
        else
          some ((100 * v3) + v6, U)
        else none
      else
        f_228_52 k14 n v1 v2 v3 v4 (v6 + 1) U
set_option maxRecDepth 10000 in
set_option maxHeartbeats 2000000 in
theorem F_228_52 (d : Nat) {k14 : Int32 → Int32 → Int32 → sU → Option (Int32 × sU)} (hk14 : ∀ (v1 : Int32) (v2 : Int32) (v3 : Int32) (U : sU) (r : Int32) (U' : sU), k14 v1 v2 v3 U = some (r, U') → G (d + 5) sm_I228 14 [(0, .ref 280), (1, .int v1), (2, .int v2), (3, .int v3)] [] U (some (.int r)) U') : ∀ (n : Nat) (v1 : Int32) (v2 : Int32) (v3 : Int32) (v4 : Int64) (v6 : Int32) (U : sU) (r : Int32) (U' : sU), f_228_52 k14 n v1 v2 v3 v4 v6 U = some (r, U') → G (d + 5) sm_I228 52 [(0, .ref 280), (1, .int v1), (2, .int v2), (3, .int v3), (4, .long v4), (6, .int v6)] [] U (some (.int r)) U' := by
  intro n
  induction n with
  | zero => intro v1 v2 v3 v4 v6 U r U' h; cases h
  | succ n ih =>
    intro v1 v2 v3 v4 v6 U r U' h
    first | rw [f_228_52] at h | (rw [f_228_52.eq_def] at h; dsimp only at h)
    refine g_iload 54 rfl rfl rfl ?_
    refine g_bipush (v := 12) 56 rfl (by decide) rfl ?_
    refine g_icmp_ge 106 59 rfl rfl (fun c1 => ?_) (fun c1 => ?_)
    · rw [if_pos c1] at h
      refine g_iinc (v := v3 + 1) 109 [(3, .int (v3 + 1)), (0, .ref 280), (1, .int v1), (2, .int v2), (4, .long v4), (6, .int v6)] rfl rfl (Nat.le_of_ble_eq_true rfl) rfl rfl rfl ?_
      refine g_goto 14 rfl ?_
      exact g_sub (Sc rfl (Sc rfl (Sc rfl (Sc rfl (Sn _))))) (hk14 v1 v2 (v3 + 1) _ _ _ h)
    · rw [if_neg c1] at h
      refine g_aload_n 60 rfl rfl rfl ?_
      refine g_get 63 rfl s_280 (Nat.le_of_ble_eq_true rfl) rfl rfl ?_
      refine g_iload 65 rfl rfl rfl ?_
      refine g_ishr 66 rfl rfl ?_
      refine g_iconst (v := 1) 67 rfl rfl rfl ?_
      refine g_iand 68 rfl rfl ?_
      refine g_iconst (v := 1) 69 rfl rfl rfl ?_
      refine g_icmp_ne 100 72 rfl rfl (fun c2 => ?_) (fun c2 => ?_)
      · rw [if_neg c2] at h
        refine g_iinc (v := v6 + 1) 103 [(6, .int (v6 + 1)), (0, .ref 280), (1, .int v1), (2, .int v2), (3, .int v3), (4, .long v4)] rfl rfl (Nat.le_of_ble_eq_true rfl) rfl rfl rfl ?_
        refine g_goto 52 rfl ?_
        exact g_sub (Sc rfl (Sc rfl (Sc rfl (Sc rfl (Sc rfl (Sc rfl (Sn _))))))) (ih v1 v2 v3 v4 (v6 + 1) _ _ _ h)
      · rw [if_pos c2] at h
        refine g_aload_n 73 rfl rfl rfl ?_
        refine g_iload_n 74 rfl rfl rfl ?_
        refine g_iload_n 75 rfl rfl rfl ?_
        refine g_iload 77 rfl rfl rfl ?_
        refine g_aload_n 78 rfl rfl rfl ?_
        refine g_get 81 rfl s_280 (Nat.le_of_ble_eq_true rfl) rfl rfl ?_
        refine g_iload_n 82 rfl rfl rfl ?_
        by_cases i3 : ib v2 8
        case neg => rw [if_neg i3] at h; cases h
        rw [if_pos i3] at h
        refine g_iald 83 rfl s_289 l_289 i3 rfl ?_
        obtain ⟨q4, hq4, h⟩ := Option.bind_eq_some_iff.mp h
        refine g_callV (J := sm_I227) 86 rfl (Nat.le_of_ble_eq_true rfl) rfl rfl (Nat.le_of_ble_eq_true rfl) s_280 (Nat.le_of_ble_eq_true rfl) (Nat.le_of_ble_eq_true rfl) rfl rfl (F_227 (d + 3) v1 v3 v6 (U.1 289 v2.toNatClampNeg) hq4) ?_
        refine g_lload 88 rfl rfl rfl ?_
        refine g_lcmp 89 rfl rfl ?_
        refine g_if_ge 100 92 rfl rfl (fun c5 => ?_) (fun c5 => ?_)
        · rw [if_pos c5] at h
          refine g_iinc (v := v6 + 1) 103 [(6, .int (v6 + 1)), (0, .ref 280), (1, .int v1), (2, .int v2), (3, .int v3), (4, .long v4)] rfl rfl (Nat.le_of_ble_eq_true rfl) rfl rfl rfl ?_
          refine g_goto 52 rfl ?_
          exact g_sub (Sc rfl (Sc rfl (Sc rfl (Sc rfl (Sc rfl (Sc rfl (Sn _))))))) (ih v1 v2 v3 v4 (v6 + 1) _ _ _ h)
        · rw [if_neg c5] at h
          refine g_bipush (v := 100) 94 rfl (by decide) rfl ?_
          refine g_iload_n 95 rfl rfl rfl ?_
          refine g_imul 96 rfl rfl ?_
          refine g_iload 98 rfl rfl rfl ?_
          refine g_iadd 99 rfl rfl ?_
          cases h
          exact g_iret rfl rfl
def f_228_126 : Nat → Int32 → Int32 → sU → Option (Int32 × sU)
  | 0, _, _, _ => none
  | n + 1, v1, v3, U =>
    if 12 ≤ v3 then
      some ((-1), U)
    else
      if (((U.1 280 43) >>> (v3 &&& 31)) &&& 1) = 1 then
        Option.bind (f_229 v1 v3 U) fun q8 =>
        if q8.1 = 0 then
          f_228_126 n v1 (v3 + 1) q8.2
        else
          some (10000 + v3, q8.2)
      else
        f_228_126 n v1 (v3 + 1) U
set_option maxRecDepth 10000 in
set_option maxHeartbeats 2000000 in
theorem F_228_126 (d : Nat)   : ∀ (n : Nat) (v1 : Int32) (v3 : Int32) (U : sU) (r : Int32) (U' : sU), f_228_126 n v1 v3 U = some (r, U') → G (d + 5) sm_I228 126 [(0, .ref 280), (1, .int v1), (3, .int v3)] [] U (some (.int r)) U' := by
  intro n
  induction n with
  | zero => intro v1 v3 U r U' h; cases h
  | succ n ih =>
    intro v1 v3 U r U' h
    first | rw [f_228_126] at h | (rw [f_228_126.eq_def] at h; dsimp only at h)
    refine g_iload_n 127 rfl rfl rfl ?_
    refine g_bipush (v := 12) 129 rfl (by decide) rfl ?_
    refine g_icmp_ge 165 132 rfl rfl (fun c6 => ?_) (fun c6 => ?_)
    · rw [if_pos c6] at h
      refine g_iconst (v := (-1)) 166 rfl rfl rfl ?_
      cases h
      exact g_iret rfl rfl
    · rw [if_neg c6] at h
      refine g_aload_n 133 rfl rfl rfl ?_
      refine g_get 136 rfl s_280 (Nat.le_of_ble_eq_true rfl) rfl rfl ?_
      refine g_iload_n 137 rfl rfl rfl ?_
      refine g_ishr 138 rfl rfl ?_
      refine g_iconst (v := 1) 139 rfl rfl rfl ?_
      refine g_iand 140 rfl rfl ?_
      refine g_iconst (v := 1) 141 rfl rfl rfl ?_
      refine g_icmp_ne 159 144 rfl rfl (fun c7 => ?_) (fun c7 => ?_)
      · rw [if_neg c7] at h
        refine g_iinc (v := v3 + 1) 162 [(3, .int (v3 + 1)), (0, .ref 280), (1, .int v1)] rfl rfl (Nat.le_of_ble_eq_true rfl) rfl rfl rfl ?_
        refine g_goto 126 rfl ?_
        exact g_sub (Sc rfl (Sc rfl (Sc rfl (Sn _)))) (ih v1 (v3 + 1) _ _ _ h)
      · rw [if_pos c7] at h
        refine g_aload_n 145 rfl rfl rfl ?_
        refine g_iload_n 146 rfl rfl rfl ?_
        refine g_iload_n 147 rfl rfl rfl ?_
        obtain ⟨q8, hq8, h⟩ := Option.bind_eq_some_iff.mp h
        have r9 := (F_229 (d + 1) v1 v3 hq8)
        refine g_callV (J := sm_I229) 150 rfl (Nat.le_of_ble_eq_true rfl) rfl rfl (Nat.le_of_ble_eq_true rfl) s_280 (Nat.le_of_ble_eq_true rfl) (Nat.le_of_ble_eq_true rfl) rfl rfl r9 ?_
        refine g_if_eq 159 153 rfl rfl (fun c10 => ?_) (fun c10 => ?_)
        · rw [if_pos c10] at h
          refine g_iinc (v := v3 + 1) 162 [(3, .int (v3 + 1)), (0, .ref 280), (1, .int v1)] rfl rfl (Nat.le_of_ble_eq_true rfl) rfl rfl rfl ?_
          refine g_goto 126 rfl ?_
          exact g_sub (Sc rfl (Sc rfl (Sc rfl (Sn _)))) (ih v1 (v3 + 1) _ _ _ h)
        · rw [if_neg c10] at h
          refine g_sipush (v := 10000) 156 rfl (by decide) rfl ?_
          refine g_iload_n 157 rfl rfl rfl ?_
          refine g_iadd 158 rfl rfl ?_
          cases h
          exact g_iret rfl rfl
def f_228_14 : Nat → Int32 → Int32 → Int32 → sU → Option (Int32 × sU)
  | 0, _, _, _, _ => none
  | n + 1, v1, v2, v3, U =>
    if ib v2 8 then
    if (U.1 288 v2.toNatClampNeg) ≤ v3 then
      if ib v1 12 then
      if (U.1 299 v1.toNatClampNeg) = 5 then
        f_228_126 FU v1 0 U
      else
        some ((-1), U)
      else none
    else
      if ib ((12 * v1) + v3) 144 then
      if ib v2 8 then
      Option.bind (f_227 v1 v3 (U.1 301 ((12 * v1) + v3).toNatClampNeg) (U.1 289 v2.toNatClampNeg) U) fun q17 =>
      f_228_52 (fun v1 v2 v3 U => f_228_14 n v1 v2 v3 U) FU v1 v2 v3 q17 0 U
      else none
      else none
    else none
set_option maxRecDepth 10000 in
set_option maxHeartbeats 2000000 in
theorem F_228_14 (d : Nat)   : ∀ (n : Nat) (v1 : Int32) (v2 : Int32) (v3 : Int32) (U : sU) (r : Int32) (U' : sU), f_228_14 n v1 v2 v3 U = some (r, U') → G (d + 5) sm_I228 14 [(0, .ref 280), (1, .int v1), (2, .int v2), (3, .int v3)] [] U (some (.int r)) U' := by
  intro n
  induction n with
  | zero => intro v1 v2 v3 U r U' h; cases h
  | succ n ih =>
    intro v1 v2 v3 U r U' h
    first | rw [f_228_14] at h | (rw [f_228_14.eq_def] at h; dsimp only at h)
    refine g_iload_n 15 rfl rfl rfl ?_
    refine g_aload_n 16 rfl rfl rfl ?_
    refine g_get 19 rfl s_280 (Nat.le_of_ble_eq_true rfl) rfl rfl ?_
    refine g_iload_n 20 rfl rfl rfl ?_
    by_cases i11 : ib v2 8
    case neg => rw [if_neg i11] at h; cases h
    rw [if_pos i11] at h
    refine g_iald 21 rfl s_288 l_288 i11 rfl ?_
    refine g_icmp_ge 112 24 rfl rfl (fun c12 => ?_) (fun c12 => ?_)
    · rw [if_pos c12] at h
      refine g_aload_n 113 rfl rfl rfl ?_
      refine g_get 116 rfl s_280 (Nat.le_of_ble_eq_true rfl) rfl rfl ?_
      refine g_iload_n 117 rfl rfl rfl ?_
      by_cases i13 : ib v1 12
      case neg => rw [if_neg i13] at h; cases h
      rw [if_pos i13] at h
      refine g_iald 118 rfl s_299 l_299 i13 rfl ?_
      refine g_iconst (v := 5) 119 rfl rfl rfl ?_
      refine g_icmp_eq 124 122 rfl rfl (fun c14 => ?_) (fun c14 => ?_)
      · rw [if_pos c14] at h
        refine g_iconst (v := 0) 125 rfl rfl rfl ?_
        refine g_istore_n 126 [(3, .int 0), (0, .ref 280), (1, .int v1), (2, .int v2)] rfl (Nat.le_of_ble_eq_true rfl) rfl rfl ?_
        exact g_sub (Sc rfl (Sc rfl (Sc rfl (Sn _)))) (F_228_126 d _ v1 0 _ _ _ h)
      · rw [if_neg c14] at h
        refine g_iconst (v := (-1)) 123 rfl rfl rfl ?_
        cases h
        exact g_iret rfl rfl
    · rw [if_neg c12] at h
      refine g_aload_n 25 rfl rfl rfl ?_
      refine g_iload_n 26 rfl rfl rfl ?_
      refine g_iload_n 27 rfl rfl rfl ?_
      refine g_aload_n 28 rfl rfl rfl ?_
      refine g_get 31 rfl s_280 (Nat.le_of_ble_eq_true rfl) rfl rfl ?_
      refine g_bipush (v := 12) 33 rfl (by decide) rfl ?_
      refine g_iload_n 34 rfl rfl rfl ?_
      refine g_imul 35 rfl rfl ?_
      refine g_iload_n 36 rfl rfl rfl ?_
      refine g_iadd 37 rfl rfl ?_
      by_cases i15 : ib ((12 * v1) + v3) 144
      case neg => rw [if_neg i15] at h; cases h
      rw [if_pos i15] at h
      refine g_iald 38 rfl s_301 l_301 i15 rfl ?_
      refine g_aload_n 39 rfl rfl rfl ?_
      refine g_get 42 rfl s_280 (Nat.le_of_ble_eq_true rfl) rfl rfl ?_
      refine g_iload_n 43 rfl rfl rfl ?_
      by_cases i16 : ib v2 8
      case neg => rw [if_neg i16] at h; cases h
      rw [if_pos i16] at h
      refine g_iald 44 rfl s_289 l_289 i16 rfl ?_
      obtain ⟨q17, hq17, h⟩ := Option.bind_eq_some_iff.mp h
      refine g_callV (J := sm_I227) 47 rfl (Nat.le_of_ble_eq_true rfl) rfl rfl (Nat.le_of_ble_eq_true rfl) s_280 (Nat.le_of_ble_eq_true rfl) (Nat.le_of_ble_eq_true rfl) rfl rfl (F_227 (d + 3) v1 v3 (U.1 301 ((12 * v1) + v3).toNatClampNeg) (U.1 289 v2.toNatClampNeg) hq17) ?_
      refine g_lstore 49 [(4, .long q17), (0, .ref 280), (1, .int v1), (2, .int v2), (3, .int v3)] rfl (Nat.le_of_ble_eq_true rfl) rfl rfl ?_
      refine g_iconst (v := 0) 50 rfl rfl rfl ?_
      refine g_istore 52 [(6, .int 0), (4, .long q17), (0, .ref 280), (1, .int v1), (2, .int v2), (3, .int v3)] rfl (Nat.le_of_ble_eq_true rfl) rfl rfl ?_
      exact g_sub (Sc rfl (Sc rfl (Sc rfl (Sc rfl (Sc rfl (Sc rfl (Sn _))))))) (F_228_52 d (fun v1 v2 v3 U r U' h => ih v1 v2 v3 U r U' h) _ v1 v2 v3 q17 0 _ _ _ h)
def f_228 (x1 : Int32) (U : sU) : Option (Int32 × sU) :=
  if ib x1 12 then
  Option.bind (f_226 x1 U) fun q19 =>
  f_228_14 FU x1 (U.1 298 x1.toNatClampNeg) 0 q19
  else none
set_option maxRecDepth 10000 in
set_option maxHeartbeats 2000000 in
theorem F_228 (d : Nat) (x1 : Int32) {U : sU} {r : Int32} {U' : sU} (h : f_228 x1 U = some (r, U')) : Rn (d + 5) sm_I228 [.ref 280, .int x1] U (some (.int r)) U' := by
  refine Rn_of [(0, .ref 280), (1, .int x1)] (Nat.le_of_ble_eq_true rfl) (Sc rfl (Sc rfl (Sn _))) ?_
  first | rw [f_228] at h | rw [f_228.eq_def] at h
  refine g_aload_n 1 rfl rfl rfl ?_
  refine g_get 4 rfl s_280 (Nat.le_of_ble_eq_true rfl) rfl rfl ?_
  refine g_iload_n 5 rfl rfl rfl ?_
  by_cases i18 : ib x1 12
  case neg => rw [if_neg i18] at h; cases h
  rw [if_pos i18] at h
  refine g_iald 6 rfl s_298 l_298 i18 rfl ?_
  refine g_istore_n 7 [(2, .int (U.1 298 x1.toNatClampNeg)), (0, .ref 280), (1, .int x1)] rfl (Nat.le_of_ble_eq_true rfl) rfl rfl ?_
  refine g_aload_n 8 rfl rfl rfl ?_
  refine g_iload_n 9 rfl rfl rfl ?_
  obtain ⟨q19, hq19, h⟩ := Option.bind_eq_some_iff.mp h
  refine g_callV (J := sm_I226) 12 rfl (Nat.le_of_ble_eq_true rfl) rfl rfl (Nat.le_of_ble_eq_true rfl) s_280 (Nat.le_of_ble_eq_true rfl) (Nat.le_of_ble_eq_true rfl) rfl rfl (F_226 d x1 hq19) ?_
  refine g_iconst (v := 0) 13 rfl rfl rfl ?_
  refine g_istore_n 14 [(3, .int 0), (2, .int (U.1 298 x1.toNatClampNeg)), (0, .ref 280), (1, .int x1)] rfl (Nat.le_of_ble_eq_true rfl) rfl rfl ?_
  exact g_sub (Sc rfl (Sc rfl (Sc rfl (Sc rfl (Sn _))))) (F_228_14 d _ x1 (U.1 298 x1.toNatClampNeg) 0 _ _ _ h)

def f_230 (x1 : Int32) (U : sU) : Option (Int32 × sU) :=
  if (f_180 x1 U) = 0 then
    Option.bind (f_174 ((-5)) U) fun q3 =>
    some (q3.1, q3.2)
  else
    Option.bind (f_228 x1 U) fun q4 =>
    some (q4.1, q4.2)
set_option maxRecDepth 10000 in
set_option maxHeartbeats 2000000 in
theorem F_230 (d : Nat) (x1 : Int32) {U : sU} {r : Int32} {U' : sU} (h : f_230 x1 U = some (r, U')) : Rn (d + 6) sm_I230 [.ref 280, .int x1] U (some (.int r)) U' := by
  refine Rn_of [(0, .ref 280), (1, .int x1)] (Nat.le_of_ble_eq_true rfl) (Sc rfl (Sc rfl (Sn _))) ?_
  first | rw [f_230] at h | rw [f_230.eq_def] at h
  refine g_aload_n 1 rfl rfl rfl ?_
  refine g_iload_n 2 rfl rfl rfl ?_
  have r1 := F_180 (d + 5) x1 U
  refine g_callV (J := sm_I180) 5 rfl (Nat.le_of_ble_eq_true rfl) rfl rfl (Nat.le_of_ble_eq_true rfl) s_280 (Nat.le_of_ble_eq_true rfl) (Nat.le_of_ble_eq_true rfl) rfl rfl r1 ?_
  refine g_if_eq 16 8 rfl rfl (fun c2 => ?_) (fun c2 => ?_)
  · rw [if_pos c2] at h
    refine g_aload_n 17 rfl rfl rfl ?_
    refine g_bipush (v := (-5)) 19 rfl (by decide) rfl ?_
    obtain ⟨q3, hq3, h⟩ := Option.bind_eq_some_iff.mp h
    refine g_callV (J := sm_I174) 22 rfl (Nat.le_of_ble_eq_true rfl) rfl rfl (Nat.le_of_ble_eq_true rfl) s_280 (Nat.le_of_ble_eq_true rfl) (Nat.le_of_ble_eq_true rfl) rfl rfl (F_174 (d + 5) ((-5)) hq3) ?_
    cases h
    exact g_iret rfl rfl
  · rw [if_neg c2] at h
    refine g_aload_n 9 rfl rfl rfl ?_
    refine g_iload_n 10 rfl rfl rfl ?_
    obtain ⟨q4, hq4, h⟩ := Option.bind_eq_some_iff.mp h
    refine g_callV (J := sm_I228) 13 rfl (Nat.le_of_ble_eq_true rfl) rfl rfl (Nat.le_of_ble_eq_true rfl) s_280 (Nat.le_of_ble_eq_true rfl) (Nat.le_of_ble_eq_true rfl) rfl rfl (F_228 d x1 hq4) ?_
    refine g_goto 22 rfl ?_
    cases h
    exact g_iret rfl rfl

def f_231 (x1 : Int32) (x2 : Int32) (x3 : Int32) (U : sU) : Option (Int64 × sU) :=
  if (f_180 x1 U) = 0 then
    Option.bind (f_175 ((-5)) U) fun q3 =>
    some (q3.1.toInt64, q3.2)
  else
    if ib x1 12 then
    Option.bind (f_179 (U.1 298 x1.toNatClampNeg) x2 U) fun q5 =>
    if q5 = 0 then
      Option.bind (f_175 ((-5)) U) fun q8 =>
      some (q8.1.toInt64, q8.2)
    else
      Option.bind (f_219 x1 x3 U) fun q9 =>
      if q9 = 0 then
        Option.bind (f_175 ((-5)) U) fun q16 =>
        some (q16.1.toInt64, q16.2)
      else
        Option.bind (f_226 x1 U) fun q12 =>
        if ib x1 12 then
        if ib (q12.1 298 x1.toNatClampNeg) 8 then
        Option.bind (f_227 x1 x2 x3 (q12.1 289 (q12.1 298 x1.toNatClampNeg).toNatClampNeg) q12) fun q15 =>
        some (q15, q12)
        else none
        else none
    else none
set_option maxRecDepth 10000 in
set_option maxHeartbeats 2000000 in
theorem F_231 (d : Nat) (x1 : Int32) (x2 : Int32) (x3 : Int32) {U : sU} {r : Int64} {U' : sU} (h : f_231 x1 x2 x3 U = some (r, U')) : Rn (d + 5) sm_I231 [.ref 280, .int x1, .int x2, .int x3] U (some (.long r)) U' := by
  refine Rn_of [(0, .ref 280), (1, .int x1), (2, .int x2), (3, .int x3)] (Nat.le_of_ble_eq_true rfl) (Sc rfl (Sc rfl (Sc rfl (Sc rfl (Sn _))))) ?_
  first | rw [f_231] at h | rw [f_231.eq_def] at h
  refine g_aload_n 1 rfl rfl rfl ?_
  refine g_iload_n 2 rfl rfl rfl ?_
  have r1 := F_180 (d + 4) x1 U
  refine g_callV (J := sm_I180) 5 rfl (Nat.le_of_ble_eq_true rfl) rfl rfl (Nat.le_of_ble_eq_true rfl) s_280 (Nat.le_of_ble_eq_true rfl) (Nat.le_of_ble_eq_true rfl) rfl rfl r1 ?_
  refine g_if_eq 31 8 rfl rfl (fun c2 => ?_) (fun c2 => ?_)
  · rw [if_pos c2] at h
    refine g_aload_n 32 rfl rfl rfl ?_
    refine g_bipush (v := (-5)) 34 rfl (by decide) rfl ?_
    obtain ⟨q3, hq3, h⟩ := Option.bind_eq_some_iff.mp h
    refine g_callV (J := sm_I175) 37 rfl (Nat.le_of_ble_eq_true rfl) rfl rfl (Nat.le_of_ble_eq_true rfl) s_280 (Nat.le_of_ble_eq_true rfl) (Nat.le_of_ble_eq_true rfl) rfl rfl (F_175 (d + 4) ((-5)) hq3) ?_
    refine g_i2l 38 rfl rfl ?_
    cases h
    exact g_lret rfl rfl
  · rw [if_neg c2] at h
    refine g_aload_n 9 rfl rfl rfl ?_
    refine g_aload_n 10 rfl rfl rfl ?_
    refine g_get 13 rfl s_280 (Nat.le_of_ble_eq_true rfl) rfl rfl ?_
    refine g_iload_n 14 rfl rfl rfl ?_
    by_cases i4 : ib x1 12
    case neg => rw [if_neg i4] at h; cases h
    rw [if_pos i4] at h
    refine g_iald 15 rfl s_298 l_298 i4 rfl ?_
    refine g_iload_n 16 rfl rfl rfl ?_
    obtain ⟨q5, hq5, h⟩ := Option.bind_eq_some_iff.mp h
    have r6 := (F_179 (d + 3) (U.1 298 x1.toNatClampNeg) x2 hq5)
    refine g_callV (J := sm_I179) 19 rfl (Nat.le_of_ble_eq_true rfl) rfl rfl (Nat.le_of_ble_eq_true rfl) s_280 (Nat.le_of_ble_eq_true rfl) (Nat.le_of_ble_eq_true rfl) rfl rfl r6 ?_
    refine g_if_eq 31 22 rfl rfl (fun c7 => ?_) (fun c7 => ?_)
    · rw [if_pos c7] at h
      refine g_aload_n 32 rfl rfl rfl ?_
      refine g_bipush (v := (-5)) 34 rfl (by decide) rfl ?_
      obtain ⟨q8, hq8, h⟩ := Option.bind_eq_some_iff.mp h
      refine g_callV (J := sm_I175) 37 rfl (Nat.le_of_ble_eq_true rfl) rfl rfl (Nat.le_of_ble_eq_true rfl) s_280 (Nat.le_of_ble_eq_true rfl) (Nat.le_of_ble_eq_true rfl) rfl rfl (F_175 (d + 4) ((-5)) hq8) ?_
      refine g_i2l 38 rfl rfl ?_
      cases h
      exact g_lret rfl rfl
    · rw [if_neg c7] at h
      refine g_aload_n 23 rfl rfl rfl ?_
      refine g_iload_n 24 rfl rfl rfl ?_
      refine g_iload_n 25 rfl rfl rfl ?_
      obtain ⟨q9, hq9, h⟩ := Option.bind_eq_some_iff.mp h
      have r10 := (F_219 (d + 3) x1 x3 hq9)
      refine g_callV (J := sm_I219) 28 rfl (Nat.le_of_ble_eq_true rfl) rfl rfl (Nat.le_of_ble_eq_true rfl) s_280 (Nat.le_of_ble_eq_true rfl) (Nat.le_of_ble_eq_true rfl) rfl rfl r10 ?_
      refine g_if_ne 39 31 rfl rfl (fun c11 => ?_) (fun c11 => ?_)
      · rw [if_neg c11] at h
        refine g_aload_n 40 rfl rfl rfl ?_
        refine g_iload_n 41 rfl rfl rfl ?_
        obtain ⟨q12, hq12, h⟩ := Option.bind_eq_some_iff.mp h
        refine g_callV (J := sm_I226) 44 rfl (Nat.le_of_ble_eq_true rfl) rfl rfl (Nat.le_of_ble_eq_true rfl) s_280 (Nat.le_of_ble_eq_true rfl) (Nat.le_of_ble_eq_true rfl) rfl rfl (F_226 d x1 hq12) ?_
        refine g_aload_n 45 rfl rfl rfl ?_
        refine g_iload_n 46 rfl rfl rfl ?_
        refine g_iload_n 47 rfl rfl rfl ?_
        refine g_iload_n 48 rfl rfl rfl ?_
        refine g_aload_n 49 rfl rfl rfl ?_
        refine g_get 52 rfl s_280 (Nat.le_of_ble_eq_true rfl) rfl rfl ?_
        refine g_aload_n 53 rfl rfl rfl ?_
        refine g_get 56 rfl s_280 (Nat.le_of_ble_eq_true rfl) rfl rfl ?_
        refine g_iload_n 57 rfl rfl rfl ?_
        by_cases i13 : ib x1 12
        case neg => rw [if_neg i13] at h; cases h
        rw [if_pos i13] at h
        refine g_iald 58 rfl s_298 l_298 i13 rfl ?_
        by_cases i14 : ib (q12.1 298 x1.toNatClampNeg) 8
        case neg => rw [if_neg i14] at h; cases h
        rw [if_pos i14] at h
        refine g_iald 59 rfl s_289 l_289 i14 rfl ?_
        obtain ⟨q15, hq15, h⟩ := Option.bind_eq_some_iff.mp h
        refine g_callV (J := sm_I227) 62 rfl (Nat.le_of_ble_eq_true rfl) rfl rfl (Nat.le_of_ble_eq_true rfl) s_280 (Nat.le_of_ble_eq_true rfl) (Nat.le_of_ble_eq_true rfl) rfl rfl (F_227 (d + 3) x1 x2 x3 (q12.1 289 (q12.1 298 x1.toNatClampNeg).toNatClampNeg) hq15) ?_
        cases h
        exact g_lret rfl rfl
      · rw [if_pos c11] at h
        refine g_aload_n 32 rfl rfl rfl ?_
        refine g_bipush (v := (-5)) 34 rfl (by decide) rfl ?_
        obtain ⟨q16, hq16, h⟩ := Option.bind_eq_some_iff.mp h
        refine g_callV (J := sm_I175) 37 rfl (Nat.le_of_ble_eq_true rfl) rfl rfl (Nat.le_of_ble_eq_true rfl) s_280 (Nat.le_of_ble_eq_true rfl) (Nat.le_of_ble_eq_true rfl) rfl rfl (F_175 (d + 4) ((-5)) hq16) ?_
        refine g_i2l 38 rfl rfl ?_
        cases h
        exact g_lret rfl rfl

def f_232_18 : Nat → Int32 → Int32 → Int32 → Int64 → Int32 → sU → Option (Int64 × sU)
  | 0, _, _, _, _, _, _ => none
  | n + 1, v1, v2, v3, v4, v6, U =>
    if ib v3 8 then
    if (U.1 288 v3.toNatClampNeg) ≤ v6 then
      some (v4, U)
    else
      if ib ((12 * v3) + v6) 96 then
      if ib ((12 * v1) + v6) 144 then
      Option.bind (f_227 v1 v6 (U.1 301 ((12 * v1) + v6).toNatClampNeg) v2 U) fun q5 =>
      f_232_18 n v1 v2 v3 (v4 + (((U.1 297 ((12 * v3) + v6).toNatClampNeg).toInt64) * q5)) (v6 + 1) U
      else none
      else none
    else none
set_option maxRecDepth 10000 in
set_option maxHeartbeats 2000000 in
theorem F_232_18 (d : Nat)   : ∀ (n : Nat) (v1 : Int32) (v2 : Int32) (v3 : Int32) (v4 : Int64) (v6 : Int32) (U : sU) (r : Int64) (U' : sU), f_232_18 n v1 v2 v3 v4 v6 U = some (r, U') → G (d + 5) sm_I232 18 [(0, .ref 280), (1, .int v1), (2, .int v2), (3, .int v3), (4, .long v4), (6, .int v6)] [] U (some (.long r)) U' := by
  intro n
  induction n with
  | zero => intro v1 v2 v3 v4 v6 U r U' h; cases h
  | succ n ih =>
    intro v1 v2 v3 v4 v6 U r U' h
    first | rw [f_232_18] at h | (rw [f_232_18.eq_def] at h; dsimp only at h)
    refine g_iload 20 rfl rfl rfl ?_
    refine g_aload_n 21 rfl rfl rfl ?_
    refine g_get 24 rfl s_280 (Nat.le_of_ble_eq_true rfl) rfl rfl ?_
    refine g_iload_n 25 rfl rfl rfl ?_
    by_cases i1 : ib v3 8
    case neg => rw [if_neg i1] at h; cases h
    rw [if_pos i1] at h
    refine g_iald 26 rfl s_288 l_288 i1 rfl ?_
    refine g_icmp_ge 74 29 rfl rfl (fun c2 => ?_) (fun c2 => ?_)
    · rw [if_pos c2] at h
      refine g_lload 76 rfl rfl rfl ?_
      cases h
      exact g_lret rfl rfl
    · rw [if_neg c2] at h
      refine g_lload 31 rfl rfl rfl ?_
      refine g_aload_n 32 rfl rfl rfl ?_
      refine g_get 35 rfl s_280 (Nat.le_of_ble_eq_true rfl) rfl rfl ?_
      refine g_bipush (v := 12) 37 rfl (by decide) rfl ?_
      refine g_iload_n 38 rfl rfl rfl ?_
      refine g_imul 39 rfl rfl ?_
      refine g_iload 41 rfl rfl rfl ?_
      refine g_iadd 42 rfl rfl ?_
      by_cases i3 : ib ((12 * v3) + v6) 96
      case neg => rw [if_neg i3] at h; cases h
      rw [if_pos i3] at h
      refine g_iald 43 rfl s_297 l_297 i3 rfl ?_
      refine g_i2l 44 rfl rfl ?_
      refine g_aload_n 45 rfl rfl rfl ?_
      refine g_iload_n 46 rfl rfl rfl ?_
      refine g_iload 48 rfl rfl rfl ?_
      refine g_aload_n 49 rfl rfl rfl ?_
      refine g_get 52 rfl s_280 (Nat.le_of_ble_eq_true rfl) rfl rfl ?_
      refine g_bipush (v := 12) 54 rfl (by decide) rfl ?_
      refine g_iload_n 55 rfl rfl rfl ?_
      refine g_imul 56 rfl rfl ?_
      refine g_iload 58 rfl rfl rfl ?_
      refine g_iadd 59 rfl rfl ?_
      by_cases i4 : ib ((12 * v1) + v6) 144
      case neg => rw [if_neg i4] at h; cases h
      rw [if_pos i4] at h
      refine g_iald 60 rfl s_301 l_301 i4 rfl ?_
      refine g_iload_n 61 rfl rfl rfl ?_
      obtain ⟨q5, hq5, h⟩ := Option.bind_eq_some_iff.mp h
      refine g_callV (J := sm_I227) 64 rfl (Nat.le_of_ble_eq_true rfl) rfl rfl (Nat.le_of_ble_eq_true rfl) s_280 (Nat.le_of_ble_eq_true rfl) (Nat.le_of_ble_eq_true rfl) rfl rfl (F_227 (d + 3) v1 v6 (U.1 301 ((12 * v1) + v6).toNatClampNeg) v2 hq5) ?_
      refine g_lmul 65 rfl rfl ?_
      refine g_ladd 66 rfl rfl ?_
      refine g_lstore 68 [(4, .long (v4 + (((U.1 297 ((12 * v3) + v6).toNatClampNeg).toInt64) * q5))), (0, .ref 280), (1, .int v1), (2, .int v2), (3, .int v3), (6, .int v6)] rfl (Nat.le_of_ble_eq_true rfl) rfl rfl ?_
      refine g_iinc (v := v6 + 1) 71 [(6, .int (v6 + 1)), (4, .long (v4 + (((U.1 297 ((12 * v3) + v6).toNatClampNeg).toInt64) * q5))), (0, .ref 280), (1, .int v1), (2, .int v2), (3, .int v3)] rfl rfl (Nat.le_of_ble_eq_true rfl) rfl rfl rfl ?_
      refine g_goto 18 rfl ?_
      exact g_sub (Sc rfl (Sc rfl (Sc rfl (Sc rfl (Sc rfl (Sc rfl (Sn _))))))) (ih v1 v2 v3 (v4 + (((U.1 297 ((12 * v3) + v6).toNatClampNeg).toInt64) * q5)) (v6 + 1) _ _ _ h)
def f_232 (x1 : Int32) (x2 : Int32) (U : sU) : Option (Int64 × sU) :=
  if ib x1 12 then
  Option.bind (f_226 x1 U) fun q7 =>
  f_232_18 FU x1 x2 (U.1 298 x1.toNatClampNeg) 0 0 q7
  else none
set_option maxRecDepth 10000 in
set_option maxHeartbeats 2000000 in
theorem F_232 (d : Nat) (x1 : Int32) (x2 : Int32) {U : sU} {r : Int64} {U' : sU} (h : f_232 x1 x2 U = some (r, U')) : Rn (d + 5) sm_I232 [.ref 280, .int x1, .int x2] U (some (.long r)) U' := by
  refine Rn_of [(0, .ref 280), (1, .int x1), (2, .int x2)] (Nat.le_of_ble_eq_true rfl) (Sc rfl (Sc rfl (Sc rfl (Sn _)))) ?_
  first | rw [f_232] at h | rw [f_232.eq_def] at h
  refine g_aload_n 1 rfl rfl rfl ?_
  refine g_get 4 rfl s_280 (Nat.le_of_ble_eq_true rfl) rfl rfl ?_
  refine g_iload_n 5 rfl rfl rfl ?_
  by_cases i6 : ib x1 12
  case neg => rw [if_neg i6] at h; cases h
  rw [if_pos i6] at h
  refine g_iald 6 rfl s_298 l_298 i6 rfl ?_
  refine g_istore_n 7 [(3, .int (U.1 298 x1.toNatClampNeg)), (0, .ref 280), (1, .int x1), (2, .int x2)] rfl (Nat.le_of_ble_eq_true rfl) rfl rfl ?_
  refine g_aload_n 8 rfl rfl rfl ?_
  refine g_iload_n 9 rfl rfl rfl ?_
  obtain ⟨q7, hq7, h⟩ := Option.bind_eq_some_iff.mp h
  refine g_callV (J := sm_I226) 12 rfl (Nat.le_of_ble_eq_true rfl) rfl rfl (Nat.le_of_ble_eq_true rfl) s_280 (Nat.le_of_ble_eq_true rfl) (Nat.le_of_ble_eq_true rfl) rfl rfl (F_226 d x1 hq7) ?_
  refine g_lconst (v := 0) 13 rfl rfl rfl ?_
  refine g_lstore 15 [(4, .long 0), (3, .int (U.1 298 x1.toNatClampNeg)), (0, .ref 280), (1, .int x1), (2, .int x2)] rfl (Nat.le_of_ble_eq_true rfl) rfl rfl ?_
  refine g_iconst (v := 0) 16 rfl rfl rfl ?_
  refine g_istore 18 [(6, .int 0), (4, .long 0), (3, .int (U.1 298 x1.toNatClampNeg)), (0, .ref 280), (1, .int x1), (2, .int x2)] rfl (Nat.le_of_ble_eq_true rfl) rfl rfl ?_
  exact g_sub (Sc rfl (Sc rfl (Sc rfl (Sc rfl (Sc rfl (Sc rfl (Sn _))))))) (F_232_18 d _ x1 x2 (U.1 298 x1.toNatClampNeg) 0 0 _ _ _ h)

def f_233 (x1 : Int32) (x2 : Int32) (U : sU) : Option (Int64 × sU) :=
  if (f_180 x1 U) = 0 then
    Option.bind (f_175 ((-5)) U) fun q3 =>
    some (q3.1.toInt64, q3.2)
  else
    if x2 < 0 then
      Option.bind (f_175 ((-5)) U) fun q5 =>
      some (q5.1.toInt64, q5.2)
    else
      if x2 ≤ 1 then
        if x2 = 0 then
          if ib x1 12 then
          if ib (U.1 298 x1.toNatClampNeg) 8 then
          Option.bind (f_232 x1 (U.1 290 (U.1 298 x1.toNatClampNeg).toNatClampNeg) U) fun q13 =>
          some (q13.1, q13.2)
          else none
          else none
        else
          if ib x1 12 then
          if ib (U.1 298 x1.toNatClampNeg) 8 then
          Option.bind (f_232 x1 (U.1 289 (U.1 298 x1.toNatClampNeg).toNatClampNeg) U) fun q10 =>
          some (q10.1, q10.2)
          else none
          else none
      else
        Option.bind (f_175 ((-5)) U) fun q14 =>
        some (q14.1.toInt64, q14.2)
set_option maxRecDepth 10000 in
set_option maxHeartbeats 2000000 in
theorem F_233 (d : Nat) (x1 : Int32) (x2 : Int32) {U : sU} {r : Int64} {U' : sU} (h : f_233 x1 x2 U = some (r, U')) : Rn (d + 6) sm_I233 [.ref 280, .int x1, .int x2] U (some (.long r)) U' := by
  refine Rn_of [(0, .ref 280), (1, .int x1), (2, .int x2)] (Nat.le_of_ble_eq_true rfl) (Sc rfl (Sc rfl (Sc rfl (Sn _)))) ?_
  first | rw [f_233] at h | rw [f_233.eq_def] at h
  refine g_aload_n 1 rfl rfl rfl ?_
  refine g_iload_n 2 rfl rfl rfl ?_
  have r1 := F_180 (d + 5) x1 U
  refine g_callV (J := sm_I180) 5 rfl (Nat.le_of_ble_eq_true rfl) rfl rfl (Nat.le_of_ble_eq_true rfl) s_280 (Nat.le_of_ble_eq_true rfl) (Nat.le_of_ble_eq_true rfl) rfl rfl r1 ?_
  refine g_if_eq 17 8 rfl rfl (fun c2 => ?_) (fun c2 => ?_)
  · rw [if_pos c2] at h
    refine g_aload_n 18 rfl rfl rfl ?_
    refine g_bipush (v := (-5)) 20 rfl (by decide) rfl ?_
    obtain ⟨q3, hq3, h⟩ := Option.bind_eq_some_iff.mp h
    refine g_callV (J := sm_I175) 23 rfl (Nat.le_of_ble_eq_true rfl) rfl rfl (Nat.le_of_ble_eq_true rfl) s_280 (Nat.le_of_ble_eq_true rfl) (Nat.le_of_ble_eq_true rfl) rfl rfl (F_175 (d + 5) ((-5)) hq3) ?_
    refine g_i2l 24 rfl rfl ?_
    cases h
    exact g_lret rfl rfl
  · rw [if_neg c2] at h
    refine g_iload_n 9 rfl rfl rfl ?_
    refine g_if_lt 17 12 rfl rfl (fun c4 => ?_) (fun c4 => ?_)
    · rw [if_pos c4] at h
      refine g_aload_n 18 rfl rfl rfl ?_
      refine g_bipush (v := (-5)) 20 rfl (by decide) rfl ?_
      obtain ⟨q5, hq5, h⟩ := Option.bind_eq_some_iff.mp h
      refine g_callV (J := sm_I175) 23 rfl (Nat.le_of_ble_eq_true rfl) rfl rfl (Nat.le_of_ble_eq_true rfl) s_280 (Nat.le_of_ble_eq_true rfl) (Nat.le_of_ble_eq_true rfl) rfl rfl (F_175 (d + 5) ((-5)) hq5) ?_
      refine g_i2l 24 rfl rfl ?_
      cases h
      exact g_lret rfl rfl
    · rw [if_neg c4] at h
      refine g_iload_n 13 rfl rfl rfl ?_
      refine g_iconst (v := 1) 14 rfl rfl rfl ?_
      refine g_icmp_le 25 17 rfl rfl (fun c6 => ?_) (fun c6 => ?_)
      · rw [if_pos c6] at h
        refine g_aload_n 26 rfl rfl rfl ?_
        refine g_iload_n 27 rfl rfl rfl ?_
        refine g_iload_n 28 rfl rfl rfl ?_
        refine g_if_ne 45 31 rfl rfl (fun c7 => ?_) (fun c7 => ?_)
        · rw [if_neg c7] at h
          refine g_aload_n 46 rfl rfl rfl ?_
          refine g_get 49 rfl s_280 (Nat.le_of_ble_eq_true rfl) rfl rfl ?_
          refine g_aload_n 50 rfl rfl rfl ?_
          refine g_get 53 rfl s_280 (Nat.le_of_ble_eq_true rfl) rfl rfl ?_
          refine g_iload_n 54 rfl rfl rfl ?_
          by_cases i8 : ib x1 12
          case neg => rw [if_neg i8] at h; cases h
          rw [if_pos i8] at h
          refine g_iald 55 rfl s_298 l_298 i8 rfl ?_
          by_cases i9 : ib (U.1 298 x1.toNatClampNeg) 8
          case neg => rw [if_neg i9] at h; cases h
          rw [if_pos i9] at h
          refine g_iald 56 rfl s_289 l_289 i9 rfl ?_
          obtain ⟨q10, hq10, h⟩ := Option.bind_eq_some_iff.mp h
          refine g_callV (J := sm_I232) 59 rfl (Nat.le_of_ble_eq_true rfl) rfl rfl (Nat.le_of_ble_eq_true rfl) s_280 (Nat.le_of_ble_eq_true rfl) (Nat.le_of_ble_eq_true rfl) rfl rfl (F_232 d x1 (U.1 289 (U.1 298 x1.toNatClampNeg).toNatClampNeg) hq10) ?_
          cases h
          exact g_lret rfl rfl
        · rw [if_pos c7] at h
          refine g_aload_n 32 rfl rfl rfl ?_
          refine g_get 35 rfl s_280 (Nat.le_of_ble_eq_true rfl) rfl rfl ?_
          refine g_aload_n 36 rfl rfl rfl ?_
          refine g_get 39 rfl s_280 (Nat.le_of_ble_eq_true rfl) rfl rfl ?_
          refine g_iload_n 40 rfl rfl rfl ?_
          by_cases i11 : ib x1 12
          case neg => rw [if_neg i11] at h; cases h
          rw [if_pos i11] at h
          refine g_iald 41 rfl s_298 l_298 i11 rfl ?_
          by_cases i12 : ib (U.1 298 x1.toNatClampNeg) 8
          case neg => rw [if_neg i12] at h; cases h
          rw [if_pos i12] at h
          refine g_iald 42 rfl s_290 l_290 i12 rfl ?_
          refine g_goto 56 rfl ?_
          obtain ⟨q13, hq13, h⟩ := Option.bind_eq_some_iff.mp h
          refine g_callV (J := sm_I232) 59 rfl (Nat.le_of_ble_eq_true rfl) rfl rfl (Nat.le_of_ble_eq_true rfl) s_280 (Nat.le_of_ble_eq_true rfl) (Nat.le_of_ble_eq_true rfl) rfl rfl (F_232 d x1 (U.1 290 (U.1 298 x1.toNatClampNeg).toNatClampNeg) hq13) ?_
          cases h
          exact g_lret rfl rfl
      · rw [if_neg c6] at h
        refine g_aload_n 18 rfl rfl rfl ?_
        refine g_bipush (v := (-5)) 20 rfl (by decide) rfl ?_
        obtain ⟨q14, hq14, h⟩ := Option.bind_eq_some_iff.mp h
        refine g_callV (J := sm_I175) 23 rfl (Nat.le_of_ble_eq_true rfl) rfl rfl (Nat.le_of_ble_eq_true rfl) s_280 (Nat.le_of_ble_eq_true rfl) (Nat.le_of_ble_eq_true rfl) rfl rfl (F_175 (d + 5) ((-5)) hq14) ?_
        refine g_i2l 24 rfl rfl ?_
        cases h
        exact g_lret rfl rfl

def f_234_12 : Nat → Int32 → Int32 → Int32 → Int32 → sU → Option sU
  | 0, _, _, _, _, _ => none
  | n + 1, v1, v2, v3, v4, U =>
    if ib v1 8 then
    if (U.1 288 v1.toNatClampNeg) ≤ v4 then
      some (sI U 280 48 (v3 + 1))
    else
      if ((v2 >>> ((v4 - 1) &&& 31)) &&& 1) = 1 then
        if ib v4 12 then
        f_234_12 n v1 v2 (v3 + 1) (v4 + 1) (sI U 307 v4.toNatClampNeg (v3 + 1))
        else none
      else
        if ib v4 12 then
        f_234_12 n v1 v2 v3 (v4 + 1) (sI U 307 v4.toNatClampNeg v3)
        else none
    else none
set_option maxRecDepth 10000 in
set_option maxHeartbeats 2000000 in
theorem F_234_12 (d : Nat)   : ∀ (n : Nat) (v1 : Int32) (v2 : Int32) (v3 : Int32) (v4 : Int32) (U : sU) (U' : sU), f_234_12 n v1 v2 v3 v4 U = some U' → G (d + 0) sm_I234 12 [(0, .ref 280), (1, .int v1), (2, .int v2), (3, .int v3), (4, .int v4)] [] U none U' := by
  intro n
  induction n with
  | zero => intro v1 v2 v3 v4 U U' h; cases h
  | succ n ih =>
    intro v1 v2 v3 v4 U U' h
    first | rw [f_234_12] at h | (rw [f_234_12.eq_def] at h; dsimp only at h)
    refine g_iload 14 rfl rfl rfl ?_
    refine g_aload_n 15 rfl rfl rfl ?_
    refine g_get 18 rfl s_280 (Nat.le_of_ble_eq_true rfl) rfl rfl ?_
    refine g_iload_n 19 rfl rfl rfl ?_
    by_cases i1 : ib v1 8
    case neg => rw [if_neg i1] at h; cases h
    rw [if_pos i1] at h
    refine g_iald 20 rfl s_288 l_288 i1 rfl ?_
    refine g_icmp_ge 52 23 rfl rfl (fun c2 => ?_) (fun c2 => ?_)
    · rw [if_pos c2] at h
      refine g_aload_n 53 rfl rfl rfl ?_
      refine g_iload_n 54 rfl rfl rfl ?_
      refine g_iconst (v := 1) 55 rfl rfl rfl ?_
      refine g_iadd 56 rfl rfl ?_
      refine g_putI 59 rfl s_280 (Nat.le_of_ble_eq_true rfl) (Nat.le_of_ble_eq_true rfl) rfl fs_10_48 rfl ?_
      cases h
      exact g_vret rfl rfl
    · rw [if_neg c2] at h
      refine g_iload_n 24 rfl rfl rfl ?_
      refine g_iload 26 rfl rfl rfl ?_
      refine g_iconst (v := 1) 27 rfl rfl rfl ?_
      refine g_isub 28 rfl rfl ?_
      refine g_ishr 29 rfl rfl ?_
      refine g_iconst (v := 1) 30 rfl rfl rfl ?_
      refine g_iand 31 rfl rfl ?_
      refine g_iconst (v := 1) 32 rfl rfl rfl ?_
      refine g_icmp_ne 38 35 rfl rfl (fun c3 => ?_) (fun c3 => ?_)
      · rw [if_neg c3] at h
        refine g_aload_n 39 rfl rfl rfl ?_
        refine g_get 42 rfl s_280 (Nat.le_of_ble_eq_true rfl) rfl rfl ?_
        refine g_iload 44 rfl rfl rfl ?_
        refine g_iload_n 45 rfl rfl rfl ?_
        by_cases i4 : ib v4 12
        case neg => rw [if_neg i4] at h; cases h
        rw [if_pos i4] at h
        refine g_iast 46 rfl s_307 l_307 i4 rfl ?_
        refine g_iinc (v := v4 + 1) 49 [(4, .int (v4 + 1)), (0, .ref 280), (1, .int v1), (2, .int v2), (3, .int v3)] rfl rfl (Nat.le_of_ble_eq_true rfl) rfl rfl rfl ?_
        refine g_goto 12 rfl ?_
        exact g_sub (Sc rfl (Sc rfl (Sc rfl (Sc rfl (Sc rfl (Sn _)))))) (ih v1 v2 v3 (v4 + 1) _ _ h)
      · rw [if_pos c3] at h
        refine g_iinc (v := v3 + 1) 38 [(3, .int (v3 + 1)), (0, .ref 280), (1, .int v1), (2, .int v2), (4, .int v4)] rfl rfl (Nat.le_of_ble_eq_true rfl) rfl rfl rfl ?_
        refine g_aload_n 39 rfl rfl rfl ?_
        refine g_get 42 rfl s_280 (Nat.le_of_ble_eq_true rfl) rfl rfl ?_
        refine g_iload 44 rfl rfl rfl ?_
        refine g_iload_n 45 rfl rfl rfl ?_
        by_cases i5 : ib v4 12
        case neg => rw [if_neg i5] at h; cases h
        rw [if_pos i5] at h
        refine g_iast 46 rfl s_307 l_307 i5 rfl ?_
        refine g_iinc (v := v4 + 1) 49 [(4, .int (v4 + 1)), (3, .int (v3 + 1)), (0, .ref 280), (1, .int v1), (2, .int v2)] rfl rfl (Nat.le_of_ble_eq_true rfl) rfl rfl rfl ?_
        refine g_goto 12 rfl ?_
        exact g_sub (Sc rfl (Sc rfl (Sc rfl (Sc rfl (Sc rfl (Sn _)))))) (ih v1 v2 (v3 + 1) (v4 + 1) _ _ h)
def f_234 (x1 : Int32) (x2 : Int32) (U : sU) : Option sU :=
  f_234_12 FU x1 x2 0 1 (sI U 307 (0 : Int32).toNatClampNeg 0)
set_option maxRecDepth 10000 in
set_option maxHeartbeats 2000000 in
theorem F_234 (d : Nat) (x1 : Int32) (x2 : Int32) {U : sU} {U' : sU} (h : f_234 x1 x2 U = some U') : Rn (d + 0) sm_I234 [.ref 280, .int x1, .int x2] U none U' := by
  refine Rn_of [(0, .ref 280), (1, .int x1), (2, .int x2)] (Nat.le_of_ble_eq_true rfl) (Sc rfl (Sc rfl (Sc rfl (Sn _)))) ?_
  first | rw [f_234] at h | rw [f_234.eq_def] at h
  refine g_iconst (v := 0) 1 rfl rfl rfl ?_
  refine g_istore_n 2 [(3, .int 0), (0, .ref 280), (1, .int x1), (2, .int x2)] rfl (Nat.le_of_ble_eq_true rfl) rfl rfl ?_
  refine g_aload_n 3 rfl rfl rfl ?_
  refine g_get 6 rfl s_280 (Nat.le_of_ble_eq_true rfl) rfl rfl ?_
  refine g_iconst (v := 0) 7 rfl rfl rfl ?_
  refine g_iconst (v := 0) 8 rfl rfl rfl ?_
  refine g_iast 9 rfl s_307 l_307 (by decide) rfl ?_
  refine g_iconst (v := 1) 10 rfl rfl rfl ?_
  refine g_istore 12 [(4, .int 1), (3, .int 0), (0, .ref 280), (1, .int x1), (2, .int x2)] rfl (Nat.le_of_ble_eq_true rfl) rfl rfl ?_
  exact g_sub (Sc rfl (Sc rfl (Sc rfl (Sc rfl (Sc rfl (Sn _)))))) (F_234_12 d _ x1 x2 0 1 _ _ h)

def f_235_15 (k2 : Int32 → Int32 → sU → Option sU) : Nat → Int32 → Int32 → Int32 → Int32 → sU → Option sU
  | 0, _, _, _, _, _ => none
  | n + 1, v1, v2, v3, v4, U =>
    if ib v1 8 then
    if (U.1 288 v1.toNatClampNeg) ≤ v4 then
      if ib v1 8 then
      Option.bind (f_210 v1 v3 (U.1 290 v1.toNatClampNeg) U) fun q4 =>
      if ib v2 12 then
      if ib v1 8 then
      if ((sI q4.2 308 v2.toNatClampNeg q4.1).1 293 v1.toNatClampNeg) = 1 then
        if ib v1 8 then
        Option.bind (f_210 v1 v3 ((sI q4.2 308 v2.toNatClampNeg q4.1).1 294 v1.toNatClampNeg) (sI q4.2 308 v2.toNatClampNeg q4.1)) fun q10 =>
        if ib v2 12 then
        k2 v1 (v2 + 1) (sI q10.2 309 v2.toNatClampNeg q10.1)
        else none
        else none
      else
        if ib v2 12 then
        k2 v1 (v2 + 1) (sI (sI q4.2 308 v2.toNatClampNeg q4.1) 309 v2.toNatClampNeg 0)
        else none
      else none
      else none
      else none
    else
      if ib v4 12 then
      if (U.1 307 v4.toNatClampNeg) = v2 then
        f_235_15 k2 n v1 v2 (v3 ||| (1 <<< (v4 &&& 31))) (v4 + 1) U
      else
        f_235_15 k2 n v1 v2 v3 (v4 + 1) U
      else none
    else none
set_option maxRecDepth 10000 in
set_option maxHeartbeats 2000000 in
theorem F_235_15 (d : Nat) {k2 : Int32 → Int32 → sU → Option sU} (hk2 : ∀ (v1 : Int32) (v2 : Int32) (U : sU) (U' : sU), k2 v1 v2 U = some U' → G (d + 2) sm_I235 2 [(0, .ref 280), (1, .int v1), (2, .int v2)] [] U none U') : ∀ (n : Nat) (v1 : Int32) (v2 : Int32) (v3 : Int32) (v4 : Int32) (U : sU) (U' : sU), f_235_15 k2 n v1 v2 v3 v4 U = some U' → G (d + 2) sm_I235 15 [(0, .ref 280), (1, .int v1), (2, .int v2), (3, .int v3), (4, .int v4)] [] U none U' := by
  intro n
  induction n with
  | zero => intro v1 v2 v3 v4 U U' h; cases h
  | succ n ih =>
    intro v1 v2 v3 v4 U U' h
    first | rw [f_235_15] at h | (rw [f_235_15.eq_def] at h; dsimp only at h)
    refine g_iload 17 rfl rfl rfl ?_
    refine g_aload_n 18 rfl rfl rfl ?_
    refine g_get 21 rfl s_280 (Nat.le_of_ble_eq_true rfl) rfl rfl ?_
    refine g_iload_n 22 rfl rfl rfl ?_
    by_cases i1 : ib v1 8
    case neg => rw [if_neg i1] at h; cases h
    rw [if_pos i1] at h
    refine g_iald 23 rfl s_288 l_288 i1 rfl ?_
    refine g_icmp_ge 50 26 rfl rfl (fun c2 => ?_) (fun c2 => ?_)
    · rw [if_pos c2] at h
      refine g_aload_n 51 rfl rfl rfl ?_
      refine g_get 54 rfl s_280 (Nat.le_of_ble_eq_true rfl) rfl rfl ?_
      refine g_iload_n 55 rfl rfl rfl ?_
      refine g_aload_n 56 rfl rfl rfl ?_
      refine g_iload_n 57 rfl rfl rfl ?_
      refine g_iload_n 58 rfl rfl rfl ?_
      refine g_aload_n 59 rfl rfl rfl ?_
      refine g_get 62 rfl s_280 (Nat.le_of_ble_eq_true rfl) rfl rfl ?_
      refine g_iload_n 63 rfl rfl rfl ?_
      by_cases i3 : ib v1 8
      case neg => rw [if_neg i3] at h; cases h
      rw [if_pos i3] at h
      refine g_iald 64 rfl s_290 l_290 i3 rfl ?_
      obtain ⟨q4, hq4, h⟩ := Option.bind_eq_some_iff.mp h
      refine g_callV (J := sm_I210) 67 rfl (Nat.le_of_ble_eq_true rfl) rfl rfl (Nat.le_of_ble_eq_true rfl) s_280 (Nat.le_of_ble_eq_true rfl) (Nat.le_of_ble_eq_true rfl) rfl rfl (F_210 d v1 v3 (U.1 290 v1.toNatClampNeg) hq4) ?_
      by_cases i5 : ib v2 12
      case neg => rw [if_neg i5] at h; cases h
      rw [if_pos i5] at h
      refine g_iast 68 rfl s_308 l_308 i5 rfl ?_
      refine g_aload_n 69 rfl rfl rfl ?_
      refine g_get 72 rfl s_280 (Nat.le_of_ble_eq_true rfl) rfl rfl ?_
      refine g_iload_n 73 rfl rfl rfl ?_
      refine g_aload_n 74 rfl rfl rfl ?_
      refine g_get 77 rfl s_280 (Nat.le_of_ble_eq_true rfl) rfl rfl ?_
      refine g_iload_n 78 rfl rfl rfl ?_
      by_cases i6 : ib v1 8
      case neg => rw [if_neg i6] at h; cases h
      rw [if_pos i6] at h
      refine g_iald 79 rfl s_293 l_293 i6 rfl ?_
      refine g_iconst (v := 1) 80 rfl rfl rfl ?_
      refine g_icmp_ne 98 83 rfl rfl (fun c7 => ?_) (fun c7 => ?_)
      · rw [if_neg c7] at h
        refine g_iconst (v := 0) 99 rfl rfl rfl ?_
        by_cases i8 : ib v2 12
        case neg => rw [if_neg i8] at h; cases h
        rw [if_pos i8] at h
        refine g_iast 100 rfl s_309 l_309 i8 rfl ?_
        refine g_iinc (v := v2 + 1) 103 [(2, .int (v2 + 1)), (0, .ref 280), (1, .int v1), (3, .int v3), (4, .int v4)] rfl rfl (Nat.le_of_ble_eq_true rfl) rfl rfl rfl ?_
        refine g_goto 2 rfl ?_
        exact g_sub (Sc rfl (Sc rfl (Sc rfl (Sn _)))) (hk2 v1 (v2 + 1) _ _ h)
      · rw [if_pos c7] at h
        refine g_aload_n 84 rfl rfl rfl ?_
        refine g_iload_n 85 rfl rfl rfl ?_
        refine g_iload_n 86 rfl rfl rfl ?_
        refine g_aload_n 87 rfl rfl rfl ?_
        refine g_get 90 rfl s_280 (Nat.le_of_ble_eq_true rfl) rfl rfl ?_
        refine g_iload_n 91 rfl rfl rfl ?_
        by_cases i9 : ib v1 8
        case neg => rw [if_neg i9] at h; cases h
        rw [if_pos i9] at h
        refine g_iald 92 rfl s_294 l_294 i9 rfl ?_
        obtain ⟨q10, hq10, h⟩ := Option.bind_eq_some_iff.mp h
        refine g_callV (J := sm_I210) 95 rfl (Nat.le_of_ble_eq_true rfl) rfl rfl (Nat.le_of_ble_eq_true rfl) s_280 (Nat.le_of_ble_eq_true rfl) (Nat.le_of_ble_eq_true rfl) rfl rfl (F_210 d v1 v3 ((sI q4.2 308 v2.toNatClampNeg q4.1).1 294 v1.toNatClampNeg) hq10) ?_
        refine g_goto 99 rfl ?_
        by_cases i11 : ib v2 12
        case neg => rw [if_neg i11] at h; cases h
        rw [if_pos i11] at h
        refine g_iast 100 rfl s_309 l_309 i11 rfl ?_
        refine g_iinc (v := v2 + 1) 103 [(2, .int (v2 + 1)), (0, .ref 280), (1, .int v1), (3, .int v3), (4, .int v4)] rfl rfl (Nat.le_of_ble_eq_true rfl) rfl rfl rfl ?_
        refine g_goto 2 rfl ?_
        exact g_sub (Sc rfl (Sc rfl (Sc rfl (Sn _)))) (hk2 v1 (v2 + 1) _ _ h)
    · rw [if_neg c2] at h
      refine g_aload_n 27 rfl rfl rfl ?_
      refine g_get 30 rfl s_280 (Nat.le_of_ble_eq_true rfl) rfl rfl ?_
      refine g_iload 32 rfl rfl rfl ?_
      by_cases i12 : ib v4 12
      case neg => rw [if_neg i12] at h; cases h
      rw [if_pos i12] at h
      refine g_iald 33 rfl s_307 l_307 i12 rfl ?_
      refine g_iload_n 34 rfl rfl rfl ?_
      refine g_icmp_ne 44 37 rfl rfl (fun c13 => ?_) (fun c13 => ?_)
      · rw [if_neg c13] at h
        refine g_iinc (v := v4 + 1) 47 [(4, .int (v4 + 1)), (0, .ref 280), (1, .int v1), (2, .int v2), (3, .int v3)] rfl rfl (Nat.le_of_ble_eq_true rfl) rfl rfl rfl ?_
        refine g_goto 15 rfl ?_
        exact g_sub (Sc rfl (Sc rfl (Sc rfl (Sc rfl (Sc rfl (Sn _)))))) (ih v1 v2 v3 (v4 + 1) _ _ h)
      · rw [if_pos c13] at h
        refine g_iload_n 38 rfl rfl rfl ?_
        refine g_iconst (v := 1) 39 rfl rfl rfl ?_
        refine g_iload 41 rfl rfl rfl ?_
        refine g_ishl 42 rfl rfl ?_
        refine g_ior 43 rfl rfl ?_
        refine g_istore_n 44 [(3, .int (v3 ||| (1 <<< (v4 &&& 31)))), (0, .ref 280), (1, .int v1), (2, .int v2), (4, .int v4)] rfl (Nat.le_of_ble_eq_true rfl) rfl rfl ?_
        refine g_iinc (v := v4 + 1) 47 [(4, .int (v4 + 1)), (3, .int (v3 ||| (1 <<< (v4 &&& 31)))), (0, .ref 280), (1, .int v1), (2, .int v2)] rfl rfl (Nat.le_of_ble_eq_true rfl) rfl rfl rfl ?_
        refine g_goto 15 rfl ?_
        exact g_sub (Sc rfl (Sc rfl (Sc rfl (Sc rfl (Sc rfl (Sn _)))))) (ih v1 v2 (v3 ||| (1 <<< (v4 &&& 31))) (v4 + 1) _ _ h)
def f_235_2 : Nat → Int32 → Int32 → sU → Option sU
  | 0, _, _, _ => none
  | n + 1, v1, v2, U =>
    if (U.1 280 48) ≤ v2 then
      some U
    else
      f_235_15 (fun v1 v2 U => f_235_2 n v1 v2 U) FU v1 v2 0 0 U
set_option maxRecDepth 10000 in
set_option maxHeartbeats 2000000 in
theorem F_235_2 (d : Nat)   : ∀ (n : Nat) (v1 : Int32) (v2 : Int32) (U : sU) (U' : sU), f_235_2 n v1 v2 U = some U' → G (d + 2) sm_I235 2 [(0, .ref 280), (1, .int v1), (2, .int v2)] [] U none U' := by
  intro n
  induction n with
  | zero => intro v1 v2 U U' h; cases h
  | succ n ih =>
    intro v1 v2 U U' h
    first | rw [f_235_2] at h | (rw [f_235_2.eq_def] at h; dsimp only at h)
    refine g_iload_n 3 rfl rfl rfl ?_
    refine g_aload_n 4 rfl rfl rfl ?_
    refine g_get 7 rfl s_280 (Nat.le_of_ble_eq_true rfl) rfl rfl ?_
    refine g_icmp_ge 106 10 rfl rfl (fun c14 => ?_) (fun c14 => ?_)
    · rw [if_pos c14] at h
      cases h
      exact g_vret rfl rfl
    · rw [if_neg c14] at h
      refine g_iconst (v := 0) 11 rfl rfl rfl ?_
      refine g_istore_n 12 [(3, .int 0), (0, .ref 280), (1, .int v1), (2, .int v2)] rfl (Nat.le_of_ble_eq_true rfl) rfl rfl ?_
      refine g_iconst (v := 0) 13 rfl rfl rfl ?_
      refine g_istore 15 [(4, .int 0), (3, .int 0), (0, .ref 280), (1, .int v1), (2, .int v2)] rfl (Nat.le_of_ble_eq_true rfl) rfl rfl ?_
      exact g_sub (Sc rfl (Sc rfl (Sc rfl (Sc rfl (Sc rfl (Sn _)))))) (F_235_15 d (fun v1 v2 U U' h => ih v1 v2 U U' h) _ v1 v2 0 0 _ _ h)
def f_235 (x1 : Int32) (U : sU) : Option sU :=
  f_235_2 FU x1 0 U
set_option maxRecDepth 10000 in
set_option maxHeartbeats 2000000 in
theorem F_235 (d : Nat) (x1 : Int32) {U : sU} {U' : sU} (h : f_235 x1 U = some U') : Rn (d + 2) sm_I235 [.ref 280, .int x1] U none U' := by
  refine Rn_of [(0, .ref 280), (1, .int x1)] (Nat.le_of_ble_eq_true rfl) (Sc rfl (Sc rfl (Sn _))) ?_
  first | rw [f_235] at h | rw [f_235.eq_def] at h
  refine g_iconst (v := 0) 1 rfl rfl rfl ?_
  refine g_istore_n 2 [(2, .int 0), (0, .ref 280), (1, .int x1)] rfl (Nat.le_of_ble_eq_true rfl) rfl rfl ?_
  exact g_sub (Sc rfl (Sc rfl (Sc rfl (Sn _)))) (F_235_2 d _ x1 0 _ _ h)

def f_236_49 (v1 : Int32) (v3 : Int32) (v4 : Int32) (v6 : Int64) (v8 : Int64) (U : sU) : Option Int64 :=
  if (v4 &&& 2) = 2 then
    if ib v3 12 then
    if ib v1 8 then
    Option.bind (f_208 v1 ((((U.1 309 v3.toNatClampNeg).toInt64) - v6) - ((U.1 295 v1.toNatClampNeg).toInt64)) U) fun q4 =>
    some (v8 + q4)
    else none
    else none
  else
    some v8
set_option maxRecDepth 10000 in
set_option maxHeartbeats 2000000 in
theorem F_236_49 (d : Nat)   (v1 : Int32) (v3 : Int32) (v4 : Int32) (v6 : Int64) (v8 : Int64) {U : sU} {r : Int64} (h : f_236_49 v1 v3 v4 v6 v8 U = some r) : G (d + 1) sm_I236 49 [(0, .ref 280), (1, .int v1), (3, .int v3), (4, .int v4), (6, .long v6), (8, .long v8)] [] U (some (.long r)) U := by
  first | rw [f_236_49] at h | rw [f_236_49.eq_def] at h
  refine g_iload 51 rfl rfl rfl ?_
  refine g_iconst (v := 2) 52 rfl rfl rfl ?_
  refine g_iand 53 rfl rfl ?_
  refine g_iconst (v := 2) 54 rfl rfl rfl ?_
  refine g_icmp_ne 85 57 rfl rfl (fun c1 => ?_) (fun c1 => ?_)
  · rw [if_neg c1] at h
    refine g_lload 87 rfl rfl rfl ?_
    cases h
    exact g_lret rfl rfl
  · rw [if_pos c1] at h
    refine g_lload 59 rfl rfl rfl ?_
    refine g_aload_n 60 rfl rfl rfl ?_
    refine g_iload_n 61 rfl rfl rfl ?_
    refine g_aload_n 62 rfl rfl rfl ?_
    refine g_get 65 rfl s_280 (Nat.le_of_ble_eq_true rfl) rfl rfl ?_
    refine g_iload_n 66 rfl rfl rfl ?_
    by_cases i2 : ib v3 12
    case neg => rw [if_neg i2] at h; cases h
    rw [if_pos i2] at h
    refine g_iald 67 rfl s_309 l_309 i2 rfl ?_
    refine g_i2l 68 rfl rfl ?_
    refine g_lload 70 rfl rfl rfl ?_
    refine g_lsub 71 rfl rfl ?_
    refine g_aload_n 72 rfl rfl rfl ?_
    refine g_get 75 rfl s_280 (Nat.le_of_ble_eq_true rfl) rfl rfl ?_
    refine g_iload_n 76 rfl rfl rfl ?_
    by_cases i3 : ib v1 8
    case neg => rw [if_neg i3] at h; cases h
    rw [if_pos i3] at h
    refine g_iald 77 rfl s_295 l_295 i3 rfl ?_
    refine g_i2l 78 rfl rfl ?_
    refine g_lsub 79 rfl rfl ?_
    obtain ⟨q4, hq4, h⟩ := Option.bind_eq_some_iff.mp h
    refine g_callV (J := sm_I208) 82 rfl (Nat.le_of_ble_eq_true rfl) rfl rfl (Nat.le_of_ble_eq_true rfl) s_280 (Nat.le_of_ble_eq_true rfl) (Nat.le_of_ble_eq_true rfl) rfl rfl (F_208 d v1 ((((U.1 309 v3.toNatClampNeg).toInt64) - v6) - ((U.1 295 v1.toNatClampNeg).toInt64)) hq4) ?_
    refine g_ladd 83 rfl rfl ?_
    refine g_lstore 85 [(8, .long (v8 + q4)), (0, .ref 280), (1, .int v1), (3, .int v3), (4, .int v4), (6, .long v6)] rfl (Nat.le_of_ble_eq_true rfl) rfl rfl ?_
    refine g_lload 87 rfl rfl rfl ?_
    cases h
    exact g_lret rfl rfl
def f_236 (x1 : Int32) (x2 : Int32) (x3 : Int32) (x4 : Int32) (x5 : Int32) (U : sU) : Option Int64 :=
  if ib ((12 * x1) + x2) 96 then
  if (x4 &&& 1) = 1 then
    if ib x3 12 then
    Option.bind (f_208 x1 ((((U.1 308 x3.toNatClampNeg).toInt64) - ((U.1 296 ((12 * x1) + x2).toNatClampNeg).toInt64)) - x5.toInt64) U) fun q8 =>
    f_236_49 x1 x3 x4 ((U.1 296 ((12 * x1) + x2).toNatClampNeg).toInt64) (0 + q8) U
    else none
  else
    f_236_49 x1 x3 x4 ((U.1 296 ((12 * x1) + x2).toNatClampNeg).toInt64) 0 U
  else none
set_option maxRecDepth 10000 in
set_option maxHeartbeats 2000000 in
theorem F_236 (d : Nat) (x1 : Int32) (x2 : Int32) (x3 : Int32) (x4 : Int32) (x5 : Int32) {U : sU} {r : Int64} (h : f_236 x1 x2 x3 x4 x5 U = some r) : Rn (d + 1) sm_I236 [.ref 280, .int x1, .int x2, .int x3, .int x4, .int x5] U (some (.long r)) U := by
  refine Rn_of [(0, .ref 280), (1, .int x1), (2, .int x2), (3, .int x3), (4, .int x4), (5, .int x5)] (Nat.le_of_ble_eq_true rfl) (Sc rfl (Sc rfl (Sc rfl (Sc rfl (Sc rfl (Sc rfl (Sn _))))))) ?_
  first | rw [f_236] at h | rw [f_236.eq_def] at h
  refine g_aload_n 1 rfl rfl rfl ?_
  refine g_get 4 rfl s_280 (Nat.le_of_ble_eq_true rfl) rfl rfl ?_
  refine g_bipush (v := 12) 6 rfl (by decide) rfl ?_
  refine g_iload_n 7 rfl rfl rfl ?_
  refine g_imul 8 rfl rfl ?_
  refine g_iload_n 9 rfl rfl rfl ?_
  refine g_iadd 10 rfl rfl ?_
  by_cases i5 : ib ((12 * x1) + x2) 96
  case neg => rw [if_neg i5] at h; cases h
  rw [if_pos i5] at h
  refine g_iald 11 rfl s_296 l_296 i5 rfl ?_
  refine g_i2l 12 rfl rfl ?_
  refine g_lstore 14 [(6, .long ((U.1 296 ((12 * x1) + x2).toNatClampNeg).toInt64)), (0, .ref 280), (1, .int x1), (2, .int x2), (3, .int x3), (4, .int x4), (5, .int x5)] rfl (Nat.le_of_ble_eq_true rfl) rfl rfl ?_
  refine g_lconst (v := 0) 15 rfl rfl rfl ?_
  refine g_lstore 17 [(8, .long 0), (6, .long ((U.1 296 ((12 * x1) + x2).toNatClampNeg).toInt64)), (0, .ref 280), (1, .int x1), (2, .int x2), (3, .int x3), (4, .int x4), (5, .int x5)] rfl (Nat.le_of_ble_eq_true rfl) rfl rfl ?_
  refine g_iload 19 rfl rfl rfl ?_
  refine g_iconst (v := 1) 20 rfl rfl rfl ?_
  refine g_iand 21 rfl rfl ?_
  refine g_iconst (v := 1) 22 rfl rfl rfl ?_
  refine g_icmp_ne 49 25 rfl rfl (fun c6 => ?_) (fun c6 => ?_)
  · rw [if_neg c6] at h
    exact g_sub (Sc rfl (Sc rfl (Sc rfl (Sc rfl (Sc rfl (Sc rfl (Sn _))))))) (F_236_49 d x1 x3 x4 ((U.1 296 ((12 * x1) + x2).toNatClampNeg).toInt64) 0 h)
  · rw [if_pos c6] at h
    refine g_lload 27 rfl rfl rfl ?_
    refine g_aload_n 28 rfl rfl rfl ?_
    refine g_iload_n 29 rfl rfl rfl ?_
    refine g_aload_n 30 rfl rfl rfl ?_
    refine g_get 33 rfl s_280 (Nat.le_of_ble_eq_true rfl) rfl rfl ?_
    refine g_iload_n 34 rfl rfl rfl ?_
    by_cases i7 : ib x3 12
    case neg => rw [if_neg i7] at h; cases h
    rw [if_pos i7] at h
    refine g_iald 35 rfl s_308 l_308 i7 rfl ?_
    refine g_i2l 36 rfl rfl ?_
    refine g_lload 38 rfl rfl rfl ?_
    refine g_lsub 39 rfl rfl ?_
    refine g_iload 41 rfl rfl rfl ?_
    refine g_i2l 42 rfl rfl ?_
    refine g_lsub 43 rfl rfl ?_
    obtain ⟨q8, hq8, h⟩ := Option.bind_eq_some_iff.mp h
    refine g_callV (J := sm_I208) 46 rfl (Nat.le_of_ble_eq_true rfl) rfl rfl (Nat.le_of_ble_eq_true rfl) s_280 (Nat.le_of_ble_eq_true rfl) (Nat.le_of_ble_eq_true rfl) rfl rfl (F_208 d x1 ((((U.1 308 x3.toNatClampNeg).toInt64) - ((U.1 296 ((12 * x1) + x2).toNatClampNeg).toInt64)) - x5.toInt64) hq8) ?_
    refine g_ladd 47 rfl rfl ?_
    refine g_lstore 49 [(8, .long (0 + q8)), (6, .long ((U.1 296 ((12 * x1) + x2).toNatClampNeg).toInt64)), (0, .ref 280), (1, .int x1), (2, .int x2), (3, .int x3), (4, .int x4), (5, .int x5)] rfl (Nat.le_of_ble_eq_true rfl) rfl rfl ?_
    exact g_sub (Sc rfl (Sc rfl (Sc rfl (Sc rfl (Sc rfl (Sc rfl (Sn _))))))) (F_236_49 d x1 x3 x4 ((U.1 296 ((12 * x1) + x2).toNatClampNeg).toInt64) (0 + q8) h)

def f_237_35 (k3 : Int32 → Int32 → Int32 → Int32 → sU → Option Int32) : Nat → Int32 → Int32 → Int32 → Int32 → Int64 → Int32 → sU → Option Int32
  | 0, _, _, _, _, _, _, _ => none
  | n + 1, v1, v2, v3, v4, v5, v7, U =>
    if (U.1 280 48) ≤ v7 then
      k3 v1 v2 v3 (v4 + 1) U
    else
      Option.bind (f_236 v1 v4 v7 v2 v3 U) fun q2 =>
      if 0 ≤ (lg_cmp q2 v5) then
        f_237_35 k3 n v1 v2 v3 v4 v5 (v7 + 1) U
      else
        some 0
set_option maxRecDepth 10000 in
set_option maxHeartbeats 2000000 in
theorem F_237_35 (d : Nat) {k3 : Int32 → Int32 → Int32 → Int32 → sU → Option Int32} (hk3 : ∀ (v1 : Int32) (v2 : Int32) (v3 : Int32) (v4 : Int32) (U : sU) (r : Int32), k3 v1 v2 v3 v4 U = some r → G (d + 2) sm_I237 3 [(0, .ref 280), (1, .int v1), (2, .int v2), (3, .int v3), (4, .int v4)] [] U (some (.int r)) U) : ∀ (n : Nat) (v1 : Int32) (v2 : Int32) (v3 : Int32) (v4 : Int32) (v5 : Int64) (v7 : Int32) (U : sU) (r : Int32), f_237_35 k3 n v1 v2 v3 v4 v5 v7 U = some r → G (d + 2) sm_I237 35 [(0, .ref 280), (1, .int v1), (2, .int v2), (3, .int v3), (4, .int v4), (5, .long v5), (7, .int v7)] [] U (some (.int r)) U := by
  intro n
  induction n with
  | zero => intro v1 v2 v3 v4 v5 v7 U r h; cases h
  | succ n ih =>
    intro v1 v2 v3 v4 v5 v7 U r h
    first | rw [f_237_35] at h | (rw [f_237_35.eq_def] at h; dsimp only at h)
    refine g_iload 37 rfl rfl rfl ?_
    refine g_aload_n 38 rfl rfl rfl ?_
    refine g_get 41 rfl s_280 (Nat.le_of_ble_eq_true rfl) rfl rfl ?_
    refine g_icmp_ge 69 44 rfl rfl (fun c1 => ?_) (fun c1 => ?_)
    · rw [if_pos c1] at h
      refine g_iinc (v := v4 + 1) 72 [(4, .int (v4 + 1)), (0, .ref 280), (1, .int v1), (2, .int v2), (3, .int v3), (5, .long v5), (7, .int v7)] rfl rfl (Nat.le_of_ble_eq_true rfl) rfl rfl rfl ?_
      refine g_goto 3 rfl ?_
      exact g_sub (Sc rfl (Sc rfl (Sc rfl (Sc rfl (Sc rfl (Sn _)))))) (hk3 v1 v2 v3 (v4 + 1) _ _ h)
    · rw [if_neg c1] at h
      refine g_aload_n 45 rfl rfl rfl ?_
      refine g_iload_n 46 rfl rfl rfl ?_
      refine g_iload 48 rfl rfl rfl ?_
      refine g_iload 50 rfl rfl rfl ?_
      refine g_iload_n 51 rfl rfl rfl ?_
      refine g_iload_n 52 rfl rfl rfl ?_
      obtain ⟨q2, hq2, h⟩ := Option.bind_eq_some_iff.mp h
      refine g_callV (J := sm_I236) 55 rfl (Nat.le_of_ble_eq_true rfl) rfl rfl (Nat.le_of_ble_eq_true rfl) s_280 (Nat.le_of_ble_eq_true rfl) (Nat.le_of_ble_eq_true rfl) rfl rfl (F_236 d v1 v4 v7 v2 v3 hq2) ?_
      refine g_lload 57 rfl rfl rfl ?_
      refine g_lcmp 58 rfl rfl ?_
      refine g_if_ge 63 61 rfl rfl (fun c3 => ?_) (fun c3 => ?_)
      · rw [if_pos c3] at h
        refine g_iinc (v := v7 + 1) 66 [(7, .int (v7 + 1)), (0, .ref 280), (1, .int v1), (2, .int v2), (3, .int v3), (4, .int v4), (5, .long v5)] rfl rfl (Nat.le_of_ble_eq_true rfl) rfl rfl rfl ?_
        refine g_goto 35 rfl ?_
        exact g_sub (Sc rfl (Sc rfl (Sc rfl (Sc rfl (Sc rfl (Sc rfl (Sc rfl (Sn _)))))))) (ih v1 v2 v3 v4 v5 (v7 + 1) _ _ h)
      · rw [if_neg c3] at h
        refine g_iconst (v := 0) 62 rfl rfl rfl ?_
        cases h
        exact g_zret rfl rfl (Or.inl rfl)
def f_237_3 : Nat → Int32 → Int32 → Int32 → Int32 → sU → Option Int32
  | 0, _, _, _, _, _ => none
  | n + 1, v1, v2, v3, v4, U =>
    if ib v1 8 then
    if (U.1 288 v1.toNatClampNeg) ≤ v4 then
      some 1
    else
      if ib v4 12 then
      Option.bind (f_236 v1 v4 (U.1 307 v4.toNatClampNeg) v2 v3 U) fun q7 =>
      f_237_35 (fun v1 v2 v3 v4 U => f_237_3 n v1 v2 v3 v4 U) FU v1 v2 v3 v4 q7 0 U
      else none
    else none
set_option maxRecDepth 10000 in
set_option maxHeartbeats 2000000 in
theorem F_237_3 (d : Nat)   : ∀ (n : Nat) (v1 : Int32) (v2 : Int32) (v3 : Int32) (v4 : Int32) (U : sU) (r : Int32), f_237_3 n v1 v2 v3 v4 U = some r → G (d + 2) sm_I237 3 [(0, .ref 280), (1, .int v1), (2, .int v2), (3, .int v3), (4, .int v4)] [] U (some (.int r)) U := by
  intro n
  induction n with
  | zero => intro v1 v2 v3 v4 U r h; cases h
  | succ n ih =>
    intro v1 v2 v3 v4 U r h
    first | rw [f_237_3] at h | (rw [f_237_3.eq_def] at h; dsimp only at h)
    refine g_iload 5 rfl rfl rfl ?_
    refine g_aload_n 6 rfl rfl rfl ?_
    refine g_get 9 rfl s_280 (Nat.le_of_ble_eq_true rfl) rfl rfl ?_
    refine g_iload_n 10 rfl rfl rfl ?_
    by_cases i4 : ib v1 8
    case neg => rw [if_neg i4] at h; cases h
    rw [if_pos i4] at h
    refine g_iald 11 rfl s_288 l_288 i4 rfl ?_
    refine g_icmp_ge 75 14 rfl rfl (fun c5 => ?_) (fun c5 => ?_)
    · rw [if_pos c5] at h
      refine g_iconst (v := 1) 76 rfl rfl rfl ?_
      cases h
      exact g_zret rfl rfl (Or.inr rfl)
    · rw [if_neg c5] at h
      refine g_aload_n 15 rfl rfl rfl ?_
      refine g_iload_n 16 rfl rfl rfl ?_
      refine g_iload 18 rfl rfl rfl ?_
      refine g_aload_n 19 rfl rfl rfl ?_
      refine g_get 22 rfl s_280 (Nat.le_of_ble_eq_true rfl) rfl rfl ?_
      refine g_iload 24 rfl rfl rfl ?_
      by_cases i6 : ib v4 12
      case neg => rw [if_neg i6] at h; cases h
      rw [if_pos i6] at h
      refine g_iald 25 rfl s_307 l_307 i6 rfl ?_
      refine g_iload_n 26 rfl rfl rfl ?_
      refine g_iload_n 27 rfl rfl rfl ?_
      obtain ⟨q7, hq7, h⟩ := Option.bind_eq_some_iff.mp h
      refine g_callV (J := sm_I236) 30 rfl (Nat.le_of_ble_eq_true rfl) rfl rfl (Nat.le_of_ble_eq_true rfl) s_280 (Nat.le_of_ble_eq_true rfl) (Nat.le_of_ble_eq_true rfl) rfl rfl (F_236 d v1 v4 (U.1 307 v4.toNatClampNeg) v2 v3 hq7) ?_
      refine g_lstore 32 [(5, .long q7), (0, .ref 280), (1, .int v1), (2, .int v2), (3, .int v3), (4, .int v4)] rfl (Nat.le_of_ble_eq_true rfl) rfl rfl ?_
      refine g_iconst (v := 0) 33 rfl rfl rfl ?_
      refine g_istore 35 [(7, .int 0), (5, .long q7), (0, .ref 280), (1, .int v1), (2, .int v2), (3, .int v3), (4, .int v4)] rfl (Nat.le_of_ble_eq_true rfl) rfl rfl ?_
      exact g_sub (Sc rfl (Sc rfl (Sc rfl (Sc rfl (Sc rfl (Sc rfl (Sc rfl (Sn _)))))))) (F_237_35 d (fun v1 v2 v3 v4 U r h => ih v1 v2 v3 v4 U r h) _ v1 v2 v3 v4 q7 0 _ _ h)
def f_237 (x1 : Int32) (x2 : Int32) (x3 : Int32) (U : sU) : Option Int32 :=
  f_237_3 FU x1 x2 x3 0 U
set_option maxRecDepth 10000 in
set_option maxHeartbeats 2000000 in
theorem F_237 (d : Nat) (x1 : Int32) (x2 : Int32) (x3 : Int32) {U : sU} {r : Int32} (h : f_237 x1 x2 x3 U = some r) : Rn (d + 2) sm_I237 [.ref 280, .int x1, .int x2, .int x3] U (some (.int r)) U := by
  refine Rn_of [(0, .ref 280), (1, .int x1), (2, .int x2), (3, .int x3)] (Nat.le_of_ble_eq_true rfl) (Sc rfl (Sc rfl (Sc rfl (Sc rfl (Sn _))))) ?_
  first | rw [f_237] at h | rw [f_237.eq_def] at h
  refine g_iconst (v := 0) 1 rfl rfl rfl ?_
  refine g_istore 3 [(4, .int 0), (0, .ref 280), (1, .int x1), (2, .int x2), (3, .int x3)] rfl (Nat.le_of_ble_eq_true rfl) rfl rfl ?_
  exact g_sub (Sc rfl (Sc rfl (Sc rfl (Sc rfl (Sc rfl (Sn _)))))) (F_237_3 d _ x1 x2 x3 0 _ _ h)

def f_238 (x1 : Int32) (x2 : Int32) (U : sU) : Option Int32 :=
  Option.bind (f_214 x2 U) fun q1 =>
  if ib x1 8 then
  if (U.1 291 x1.toNatClampNeg) < (q1 + 1) then
    some 0
  else
    some 1
  else none
set_option maxRecDepth 10000 in
set_option maxHeartbeats 2000000 in
theorem F_238 (d : Nat) (x1 : Int32) (x2 : Int32) {U : sU} {r : Int32} (h : f_238 x1 x2 U = some r) : Rn (d + 1) sm_I238 [.ref 280, .int x1, .int x2] U (some (.int r)) U := by
  refine Rn_of [(0, .ref 280), (1, .int x1), (2, .int x2)] (Nat.le_of_ble_eq_true rfl) (Sc rfl (Sc rfl (Sc rfl (Sn _)))) ?_
  first | rw [f_238] at h | rw [f_238.eq_def] at h
  refine g_aload_n 1 rfl rfl rfl ?_
  refine g_iload_n 2 rfl rfl rfl ?_
  obtain ⟨q1, hq1, h⟩ := Option.bind_eq_some_iff.mp h
  refine g_callV (J := sm_I214) 5 rfl (Nat.le_of_ble_eq_true rfl) rfl rfl (Nat.le_of_ble_eq_true rfl) s_280 (Nat.le_of_ble_eq_true rfl) (Nat.le_of_ble_eq_true rfl) rfl rfl (F_214 d x2 hq1) ?_
  refine g_iconst (v := 1) 6 rfl rfl rfl ?_
  refine g_iadd 7 rfl rfl ?_
  refine g_aload_n 8 rfl rfl rfl ?_
  refine g_get 11 rfl s_280 (Nat.le_of_ble_eq_true rfl) rfl rfl ?_
  refine g_iload_n 12 rfl rfl rfl ?_
  by_cases i2 : ib x1 8
  case neg => rw [if_neg i2] at h; cases h
  rw [if_pos i2] at h
  refine g_iald 13 rfl s_291 l_291 i2 rfl ?_
  refine g_icmp_gt 20 16 rfl rfl (fun c3 => ?_) (fun c3 => ?_)
  · rw [if_pos c3] at h
    refine g_iconst (v := 0) 21 rfl rfl rfl ?_
    cases h
    exact g_zret rfl rfl (Or.inl rfl)
  · rw [if_neg c3] at h
    refine g_iconst (v := 1) 17 rfl rfl rfl ?_
    refine g_goto 21 rfl ?_
    cases h
    exact g_zret rfl rfl (Or.inr rfl)

def f_239 (x1 : Int32) (U : sU) : Option Int32 :=
  if ib x1 8 then
  some (1 <<< (((U.1 288 x1.toNatClampNeg) - 1) &&& 31))
  else none
set_option maxRecDepth 10000 in
set_option maxHeartbeats 2000000 in
theorem F_239 (d : Nat) (x1 : Int32) {U : sU} {r : Int32} (h : f_239 x1 U = some r) : Rn (d + 0) sm_I239 [.ref 280, .int x1] U (some (.int r)) U := by
  refine Rn_of [(0, .ref 280), (1, .int x1)] (Nat.le_of_ble_eq_true rfl) (Sc rfl (Sc rfl (Sn _))) ?_
  first | rw [f_239] at h | rw [f_239.eq_def] at h
  refine g_iconst (v := 1) 1 rfl rfl rfl ?_
  refine g_aload_n 2 rfl rfl rfl ?_
  refine g_get 5 rfl s_280 (Nat.le_of_ble_eq_true rfl) rfl rfl ?_
  refine g_iload_n 6 rfl rfl rfl ?_
  by_cases i1 : ib x1 8
  case neg => rw [if_neg i1] at h; cases h
  rw [if_pos i1] at h
  refine g_iald 7 rfl s_288 l_288 i1 rfl ?_
  refine g_iconst (v := 1) 8 rfl rfl rfl ?_
  refine g_isub 9 rfl rfl ?_
  refine g_ishl 10 rfl rfl ?_
  cases h
  exact g_iret rfl rfl

def f_240 (x1 : Int32) (x2 : Int32) (x3 : Int32) (x4 : Int32) (U : sU) : Option (Int32 × sU) :=
  Option.bind (f_234 x1 x2 U) fun q1 =>
  Option.bind (f_235 x1 q1) fun q2 =>
  Option.bind (f_237 x1 x3 x4 q2) fun q3 =>
  some (q3, q2)
set_option maxRecDepth 10000 in
set_option maxHeartbeats 2000000 in
theorem F_240 (d : Nat) (x1 : Int32) (x2 : Int32) (x3 : Int32) (x4 : Int32) {U : sU} {r : Int32} {U' : sU} (h : f_240 x1 x2 x3 x4 U = some (r, U')) : Rn (d + 3) sm_I240 [.ref 280, .int x1, .int x2, .int x3, .int x4] U (some (.int r)) U' := by
  refine Rn_of [(0, .ref 280), (1, .int x1), (2, .int x2), (3, .int x3), (4, .int x4)] (Nat.le_of_ble_eq_true rfl) (Sc rfl (Sc rfl (Sc rfl (Sc rfl (Sc rfl (Sn _)))))) ?_
  first | rw [f_240] at h | rw [f_240.eq_def] at h
  refine g_aload_n 1 rfl rfl rfl ?_
  refine g_iload_n 2 rfl rfl rfl ?_
  refine g_iload_n 3 rfl rfl rfl ?_
  obtain ⟨q1, hq1, h⟩ := Option.bind_eq_some_iff.mp h
  refine g_callV (J := sm_I234) 6 rfl (Nat.le_of_ble_eq_true rfl) rfl rfl (Nat.le_of_ble_eq_true rfl) s_280 (Nat.le_of_ble_eq_true rfl) (Nat.le_of_ble_eq_true rfl) rfl rfl (F_234 (d + 2) x1 x2 hq1) ?_
  refine g_aload_n 7 rfl rfl rfl ?_
  refine g_iload_n 8 rfl rfl rfl ?_
  obtain ⟨q2, hq2, h⟩ := Option.bind_eq_some_iff.mp h
  refine g_callV (J := sm_I235) 11 rfl (Nat.le_of_ble_eq_true rfl) rfl rfl (Nat.le_of_ble_eq_true rfl) s_280 (Nat.le_of_ble_eq_true rfl) (Nat.le_of_ble_eq_true rfl) rfl rfl (F_235 d x1 hq2) ?_
  refine g_aload_n 12 rfl rfl rfl ?_
  refine g_iload_n 13 rfl rfl rfl ?_
  refine g_iload_n 14 rfl rfl rfl ?_
  refine g_iload 16 rfl rfl rfl ?_
  obtain ⟨q3, hq3, h⟩ := Option.bind_eq_some_iff.mp h
  have r4 := (F_237 d x1 x3 x4 hq3)
  refine g_callV (J := sm_I237) 19 rfl (Nat.le_of_ble_eq_true rfl) rfl rfl (Nat.le_of_ble_eq_true rfl) s_280 (Nat.le_of_ble_eq_true rfl) (Nat.le_of_ble_eq_true rfl) rfl rfl r4 ?_
  cases h
  exact g_zret rfl rfl (Rn_z rfl r4)

def f_241_5 : Nat → Int32 → Int32 → Int64 → Int32 → sU → Option Int64
  | 0, _, _, _, _, _ => none
  | n + 1, v1, v2, v3, v5, U =>
    if ib v1 8 then
    if (U.1 288 v1.toNatClampNeg) ≤ v5 then
      some v3
    else
      if ib ((12 * v1) + v5) 96 then
      if ib v5 12 then
      if ib (U.1 307 v5.toNatClampNeg) 12 then
      if ib ((12 * v1) + v5) 96 then
      Option.bind (f_208 v1 ((((U.1 308 (U.1 307 v5.toNatClampNeg).toNatClampNeg) - (U.1 296 ((12 * v1) + v5).toNatClampNeg)) - v2).toInt64) U) fun q7 =>
      f_241_5 n v1 v2 (v3 + (((U.1 297 ((12 * v1) + v5).toNatClampNeg).toInt64) * q7)) (v5 + 1) U
      else none
      else none
      else none
      else none
    else none
set_option maxRecDepth 10000 in
set_option maxHeartbeats 2000000 in
theorem F_241_5 (d : Nat)   : ∀ (n : Nat) (v1 : Int32) (v2 : Int32) (v3 : Int64) (v5 : Int32) (U : sU) (r : Int64), f_241_5 n v1 v2 v3 v5 U = some r → G (d + 1) sm_I241 5 [(0, .ref 280), (1, .int v1), (2, .int v2), (3, .long v3), (5, .int v5)] [] U (some (.long r)) U := by
  intro n
  induction n with
  | zero => intro v1 v2 v3 v5 U r h; cases h
  | succ n ih =>
    intro v1 v2 v3 v5 U r h
    first | rw [f_241_5] at h | (rw [f_241_5.eq_def] at h; dsimp only at h)
    refine g_iload 7 rfl rfl rfl ?_
    refine g_aload_n 8 rfl rfl rfl ?_
    refine g_get 11 rfl s_280 (Nat.le_of_ble_eq_true rfl) rfl rfl ?_
    refine g_iload_n 12 rfl rfl rfl ?_
    by_cases i1 : ib v1 8
    case neg => rw [if_neg i1] at h; cases h
    rw [if_pos i1] at h
    refine g_iald 13 rfl s_288 l_288 i1 rfl ?_
    refine g_icmp_ge 72 16 rfl rfl (fun c2 => ?_) (fun c2 => ?_)
    · rw [if_pos c2] at h
      refine g_lload_n 73 rfl rfl rfl ?_
      cases h
      exact g_lret rfl rfl
    · rw [if_neg c2] at h
      refine g_lload_n 17 rfl rfl rfl ?_
      refine g_aload_n 18 rfl rfl rfl ?_
      refine g_get 21 rfl s_280 (Nat.le_of_ble_eq_true rfl) rfl rfl ?_
      refine g_bipush (v := 12) 23 rfl (by decide) rfl ?_
      refine g_iload_n 24 rfl rfl rfl ?_
      refine g_imul 25 rfl rfl ?_
      refine g_iload 27 rfl rfl rfl ?_
      refine g_iadd 28 rfl rfl ?_
      by_cases i3 : ib ((12 * v1) + v5) 96
      case neg => rw [if_neg i3] at h; cases h
      rw [if_pos i3] at h
      refine g_iald 29 rfl s_297 l_297 i3 rfl ?_
      refine g_i2l 30 rfl rfl ?_
      refine g_aload_n 31 rfl rfl rfl ?_
      refine g_iload_n 32 rfl rfl rfl ?_
      refine g_aload_n 33 rfl rfl rfl ?_
      refine g_get 36 rfl s_280 (Nat.le_of_ble_eq_true rfl) rfl rfl ?_
      refine g_aload_n 37 rfl rfl rfl ?_
      refine g_get 40 rfl s_280 (Nat.le_of_ble_eq_true rfl) rfl rfl ?_
      refine g_iload 42 rfl rfl rfl ?_
      by_cases i4 : ib v5 12
      case neg => rw [if_neg i4] at h; cases h
      rw [if_pos i4] at h
      refine g_iald 43 rfl s_307 l_307 i4 rfl ?_
      by_cases i5 : ib (U.1 307 v5.toNatClampNeg) 12
      case neg => rw [if_neg i5] at h; cases h
      rw [if_pos i5] at h
      refine g_iald 44 rfl s_308 l_308 i5 rfl ?_
      refine g_aload_n 45 rfl rfl rfl ?_
      refine g_get 48 rfl s_280 (Nat.le_of_ble_eq_true rfl) rfl rfl ?_
      refine g_bipush (v := 12) 50 rfl (by decide) rfl ?_
      refine g_iload_n 51 rfl rfl rfl ?_
      refine g_imul 52 rfl rfl ?_
      refine g_iload 54 rfl rfl rfl ?_
      refine g_iadd 55 rfl rfl ?_
      by_cases i6 : ib ((12 * v1) + v5) 96
      case neg => rw [if_neg i6] at h; cases h
      rw [if_pos i6] at h
      refine g_iald 56 rfl s_296 l_296 i6 rfl ?_
      refine g_isub 57 rfl rfl ?_
      refine g_iload_n 58 rfl rfl rfl ?_
      refine g_isub 59 rfl rfl ?_
      refine g_i2l 60 rfl rfl ?_
      obtain ⟨q7, hq7, h⟩ := Option.bind_eq_some_iff.mp h
      refine g_callV (J := sm_I208) 63 rfl (Nat.le_of_ble_eq_true rfl) rfl rfl (Nat.le_of_ble_eq_true rfl) s_280 (Nat.le_of_ble_eq_true rfl) (Nat.le_of_ble_eq_true rfl) rfl rfl (F_208 d v1 ((((U.1 308 (U.1 307 v5.toNatClampNeg).toNatClampNeg) - (U.1 296 ((12 * v1) + v5).toNatClampNeg)) - v2).toInt64) hq7) ?_
      refine g_lmul 64 rfl rfl ?_
      refine g_ladd 65 rfl rfl ?_
      refine g_lstore_n 66 [(3, .long (v3 + (((U.1 297 ((12 * v1) + v5).toNatClampNeg).toInt64) * q7))), (0, .ref 280), (1, .int v1), (2, .int v2), (5, .int v5)] rfl (Nat.le_of_ble_eq_true rfl) rfl rfl ?_
      refine g_iinc (v := v5 + 1) 69 [(5, .int (v5 + 1)), (3, .long (v3 + (((U.1 297 ((12 * v1) + v5).toNatClampNeg).toInt64) * q7))), (0, .ref 280), (1, .int v1), (2, .int v2)] rfl rfl (Nat.le_of_ble_eq_true rfl) rfl rfl rfl ?_
      refine g_goto 5 rfl ?_
      exact g_sub (Sc rfl (Sc rfl (Sc rfl (Sc rfl (Sc rfl (Sn _)))))) (ih v1 v2 (v3 + (((U.1 297 ((12 * v1) + v5).toNatClampNeg).toInt64) * q7)) (v5 + 1) _ _ h)
def f_241 (x1 : Int32) (x2 : Int32) (U : sU) : Option Int64 :=
  f_241_5 FU x1 x2 0 0 U
set_option maxRecDepth 10000 in
set_option maxHeartbeats 2000000 in
theorem F_241 (d : Nat) (x1 : Int32) (x2 : Int32) {U : sU} {r : Int64} (h : f_241 x1 x2 U = some r) : Rn (d + 1) sm_I241 [.ref 280, .int x1, .int x2] U (some (.long r)) U := by
  refine Rn_of [(0, .ref 280), (1, .int x1), (2, .int x2)] (Nat.le_of_ble_eq_true rfl) (Sc rfl (Sc rfl (Sc rfl (Sn _)))) ?_
  first | rw [f_241] at h | rw [f_241.eq_def] at h
  refine g_lconst (v := 0) 1 rfl rfl rfl ?_
  refine g_lstore_n 2 [(3, .long 0), (0, .ref 280), (1, .int x1), (2, .int x2)] rfl (Nat.le_of_ble_eq_true rfl) rfl rfl ?_
  refine g_iconst (v := 0) 3 rfl rfl rfl ?_
  refine g_istore 5 [(5, .int 0), (3, .long 0), (0, .ref 280), (1, .int x1), (2, .int x2)] rfl (Nat.le_of_ble_eq_true rfl) rfl rfl ?_
  exact g_sub (Sc rfl (Sc rfl (Sc rfl (Sc rfl (Sc rfl (Sn _)))))) (F_241_5 d _ x1 x2 0 0 _ _ h)

def f_242_44 (v1 : Int32) (z0 : Int32) (U : sU) : Option (Int64 × sU) :=
  Option.bind (f_234 v1 0 U) fun q1 =>
  Option.bind (f_235 v1 q1) fun q2 =>
  Option.bind (f_241 v1 z0 q2) fun q3 =>
  Option.bind (f_239 v1 q2) fun q4 =>
  Option.bind (f_234 v1 (q4 - 1) q2) fun q5 =>
  Option.bind (f_235 v1 q5) fun q6 =>
  Option.bind (f_241 v1 z0 q6) fun q7 =>
  some (q3 - q7, q6)
set_option maxRecDepth 10000 in
set_option maxHeartbeats 2000000 in
theorem F_242_44 (d : Nat)   (v1 : Int32) (z0 : Int32) {U : sU} {r : Int64} {U' : sU} (h : f_242_44 v1 z0 U = some (r, U')) : G (d + 3) sm_I242 44 [(0, .ref 280), (1, .int v1)] [.int z0] U (some (.long r)) U' := by
  first | rw [f_242_44] at h | rw [f_242_44.eq_def] at h
  refine g_istore_n 45 [(3, .int z0), (0, .ref 280), (1, .int v1)] rfl (Nat.le_of_ble_eq_true rfl) rfl rfl ?_
  refine g_aload_n 46 rfl rfl rfl ?_
  refine g_iload_n 47 rfl rfl rfl ?_
  refine g_iconst (v := 0) 48 rfl rfl rfl ?_
  obtain ⟨q1, hq1, h⟩ := Option.bind_eq_some_iff.mp h
  refine g_callV (J := sm_I234) 51 rfl (Nat.le_of_ble_eq_true rfl) rfl rfl (Nat.le_of_ble_eq_true rfl) s_280 (Nat.le_of_ble_eq_true rfl) (Nat.le_of_ble_eq_true rfl) rfl rfl (F_234 (d + 2) v1 0 hq1) ?_
  refine g_aload_n 52 rfl rfl rfl ?_
  refine g_iload_n 53 rfl rfl rfl ?_
  obtain ⟨q2, hq2, h⟩ := Option.bind_eq_some_iff.mp h
  refine g_callV (J := sm_I235) 56 rfl (Nat.le_of_ble_eq_true rfl) rfl rfl (Nat.le_of_ble_eq_true rfl) s_280 (Nat.le_of_ble_eq_true rfl) (Nat.le_of_ble_eq_true rfl) rfl rfl (F_235 d v1 hq2) ?_
  refine g_aload_n 57 rfl rfl rfl ?_
  refine g_iload_n 58 rfl rfl rfl ?_
  refine g_iload_n 59 rfl rfl rfl ?_
  obtain ⟨q3, hq3, h⟩ := Option.bind_eq_some_iff.mp h
  refine g_callV (J := sm_I241) 62 rfl (Nat.le_of_ble_eq_true rfl) rfl rfl (Nat.le_of_ble_eq_true rfl) s_280 (Nat.le_of_ble_eq_true rfl) (Nat.le_of_ble_eq_true rfl) rfl rfl (F_241 (d + 1) v1 z0 hq3) ?_
  refine g_lstore 64 [(4, .long q3), (3, .int z0), (0, .ref 280), (1, .int v1)] rfl (Nat.le_of_ble_eq_true rfl) rfl rfl ?_
  refine g_aload_n 65 rfl rfl rfl ?_
  refine g_iload_n 66 rfl rfl rfl ?_
  refine g_aload_n 67 rfl rfl rfl ?_
  refine g_iload_n 68 rfl rfl rfl ?_
  obtain ⟨q4, hq4, h⟩ := Option.bind_eq_some_iff.mp h
  refine g_callV (J := sm_I239) 71 rfl (Nat.le_of_ble_eq_true rfl) rfl rfl (Nat.le_of_ble_eq_true rfl) s_280 (Nat.le_of_ble_eq_true rfl) (Nat.le_of_ble_eq_true rfl) rfl rfl (F_239 (d + 2) v1 hq4) ?_
  refine g_iconst (v := 1) 72 rfl rfl rfl ?_
  refine g_isub 73 rfl rfl ?_
  obtain ⟨q5, hq5, h⟩ := Option.bind_eq_some_iff.mp h
  refine g_callV (J := sm_I234) 76 rfl (Nat.le_of_ble_eq_true rfl) rfl rfl (Nat.le_of_ble_eq_true rfl) s_280 (Nat.le_of_ble_eq_true rfl) (Nat.le_of_ble_eq_true rfl) rfl rfl (F_234 (d + 2) v1 (q4 - 1) hq5) ?_
  refine g_aload_n 77 rfl rfl rfl ?_
  refine g_iload_n 78 rfl rfl rfl ?_
  obtain ⟨q6, hq6, h⟩ := Option.bind_eq_some_iff.mp h
  refine g_callV (J := sm_I235) 81 rfl (Nat.le_of_ble_eq_true rfl) rfl rfl (Nat.le_of_ble_eq_true rfl) s_280 (Nat.le_of_ble_eq_true rfl) (Nat.le_of_ble_eq_true rfl) rfl rfl (F_235 d v1 hq6) ?_
  refine g_lload 83 rfl rfl rfl ?_
  refine g_aload_n 84 rfl rfl rfl ?_
  refine g_iload_n 85 rfl rfl rfl ?_
  refine g_iload_n 86 rfl rfl rfl ?_
  obtain ⟨q7, hq7, h⟩ := Option.bind_eq_some_iff.mp h
  refine g_callV (J := sm_I241) 89 rfl (Nat.le_of_ble_eq_true rfl) rfl rfl (Nat.le_of_ble_eq_true rfl) s_280 (Nat.le_of_ble_eq_true rfl) (Nat.le_of_ble_eq_true rfl) rfl rfl (F_241 (d + 1) v1 z0 hq7) ?_
  refine g_lsub 90 rfl rfl ?_
  cases h
  exact g_lret rfl rfl
def f_242 (x1 : Int32) (x2 : Int32) (U : sU) : Option (Int64 × sU) :=
  if (f_178 x1 U) = 0 then
    Option.bind (f_175 ((-5)) U) fun q10 =>
    some (q10.1.toInt64, q10.2)
  else
    if x2 < 0 then
      Option.bind (f_175 ((-5)) U) fun q12 =>
      some (q12.1.toInt64, q12.2)
    else
      if x2 ≤ 1 then
        if x2 = 0 then
          if ib x1 8 then
          f_242_44 x1 (U.1 290 x1.toNatClampNeg) U
          else none
        else
          if ib x1 8 then
          f_242_44 x1 (U.1 289 x1.toNatClampNeg) U
          else none
      else
        Option.bind (f_175 ((-5)) U) fun q17 =>
        some (q17.1.toInt64, q17.2)
set_option maxRecDepth 10000 in
set_option maxHeartbeats 2000000 in
theorem F_242 (d : Nat) (x1 : Int32) (x2 : Int32) {U : sU} {r : Int64} {U' : sU} (h : f_242 x1 x2 U = some (r, U')) : Rn (d + 3) sm_I242 [.ref 280, .int x1, .int x2] U (some (.long r)) U' := by
  refine Rn_of [(0, .ref 280), (1, .int x1), (2, .int x2)] (Nat.le_of_ble_eq_true rfl) (Sc rfl (Sc rfl (Sc rfl (Sn _)))) ?_
  first | rw [f_242] at h | rw [f_242.eq_def] at h
  refine g_aload_n 1 rfl rfl rfl ?_
  refine g_iload_n 2 rfl rfl rfl ?_
  have r8 := F_178 (d + 2) x1 U
  refine g_callV (J := sm_I178) 5 rfl (Nat.le_of_ble_eq_true rfl) rfl rfl (Nat.le_of_ble_eq_true rfl) s_280 (Nat.le_of_ble_eq_true rfl) (Nat.le_of_ble_eq_true rfl) rfl rfl r8 ?_
  refine g_if_eq 17 8 rfl rfl (fun c9 => ?_) (fun c9 => ?_)
  · rw [if_pos c9] at h
    refine g_aload_n 18 rfl rfl rfl ?_
    refine g_bipush (v := (-5)) 20 rfl (by decide) rfl ?_
    obtain ⟨q10, hq10, h⟩ := Option.bind_eq_some_iff.mp h
    refine g_callV (J := sm_I175) 23 rfl (Nat.le_of_ble_eq_true rfl) rfl rfl (Nat.le_of_ble_eq_true rfl) s_280 (Nat.le_of_ble_eq_true rfl) (Nat.le_of_ble_eq_true rfl) rfl rfl (F_175 (d + 2) ((-5)) hq10) ?_
    refine g_i2l 24 rfl rfl ?_
    cases h
    exact g_lret rfl rfl
  · rw [if_neg c9] at h
    refine g_iload_n 9 rfl rfl rfl ?_
    refine g_if_lt 17 12 rfl rfl (fun c11 => ?_) (fun c11 => ?_)
    · rw [if_pos c11] at h
      refine g_aload_n 18 rfl rfl rfl ?_
      refine g_bipush (v := (-5)) 20 rfl (by decide) rfl ?_
      obtain ⟨q12, hq12, h⟩ := Option.bind_eq_some_iff.mp h
      refine g_callV (J := sm_I175) 23 rfl (Nat.le_of_ble_eq_true rfl) rfl rfl (Nat.le_of_ble_eq_true rfl) s_280 (Nat.le_of_ble_eq_true rfl) (Nat.le_of_ble_eq_true rfl) rfl rfl (F_175 (d + 2) ((-5)) hq12) ?_
      refine g_i2l 24 rfl rfl ?_
      cases h
      exact g_lret rfl rfl
    · rw [if_neg c11] at h
      refine g_iload_n 13 rfl rfl rfl ?_
      refine g_iconst (v := 1) 14 rfl rfl rfl ?_
      refine g_icmp_le 25 17 rfl rfl (fun c13 => ?_) (fun c13 => ?_)
      · rw [if_pos c13] at h
        refine g_iload_n 26 rfl rfl rfl ?_
        refine g_if_ne 38 29 rfl rfl (fun c14 => ?_) (fun c14 => ?_)
        · rw [if_neg c14] at h
          refine g_aload_n 39 rfl rfl rfl ?_
          refine g_get 42 rfl s_280 (Nat.le_of_ble_eq_true rfl) rfl rfl ?_
          refine g_iload_n 43 rfl rfl rfl ?_
          by_cases i15 : ib x1 8
          case neg => rw [if_neg i15] at h; cases h
          rw [if_pos i15] at h
          refine g_iald 44 rfl s_289 l_289 i15 rfl ?_
          exact g_sub (Sc rfl (Sc rfl (Sn _))) (F_242_44 d x1 (U.1 289 x1.toNatClampNeg) h)
        · rw [if_pos c14] at h
          refine g_aload_n 30 rfl rfl rfl ?_
          refine g_get 33 rfl s_280 (Nat.le_of_ble_eq_true rfl) rfl rfl ?_
          refine g_iload_n 34 rfl rfl rfl ?_
          by_cases i16 : ib x1 8
          case neg => rw [if_neg i16] at h; cases h
          rw [if_pos i16] at h
          refine g_iald 35 rfl s_290 l_290 i16 rfl ?_
          refine g_goto 44 rfl ?_
          exact g_sub (Sc rfl (Sc rfl (Sn _))) (F_242_44 d x1 (U.1 290 x1.toNatClampNeg) h)
      · rw [if_neg c13] at h
        refine g_aload_n 18 rfl rfl rfl ?_
        refine g_bipush (v := (-5)) 20 rfl (by decide) rfl ?_
        obtain ⟨q17, hq17, h⟩ := Option.bind_eq_some_iff.mp h
        refine g_callV (J := sm_I175) 23 rfl (Nat.le_of_ble_eq_true rfl) rfl rfl (Nat.le_of_ble_eq_true rfl) s_280 (Nat.le_of_ble_eq_true rfl) (Nat.le_of_ble_eq_true rfl) rfl rfl (F_175 (d + 2) ((-5)) hq17) ?_
        refine g_i2l 24 rfl rfl ?_
        cases h
        exact g_lret rfl rfl

def f_243_18 : Nat → Int32 → Int32 → Int32 → sU → Option (Int32 × sU)
  | 0, _, _, _, _ => none
  | n + 1, v1, v2, v3, U =>
    Option.bind (f_239 v1 U) fun q1 =>
    if q1 ≤ v3 then
      some (v2, U)
    else
      Option.bind (f_238 v1 v3 U) fun q3 =>
      if q3 = 0 then
        f_243_18 n v1 v2 (v3 + 1) U
      else
        if ib v1 8 then
        Option.bind (f_240 v1 v3 1 (U.1 289 v1.toNatClampNeg) U) fun q7 =>
        if q7.1 = 0 then
          f_243_18 n v1 v2 (v3 + 1) q7.2
        else
          f_243_18 n v1 (v2 + 1) (v3 + 1) q7.2
        else none
set_option maxRecDepth 10000 in
set_option maxHeartbeats 2000000 in
theorem F_243_18 (d : Nat)   : ∀ (n : Nat) (v1 : Int32) (v2 : Int32) (v3 : Int32) (U : sU) (r : Int32) (U' : sU), f_243_18 n v1 v2 v3 U = some (r, U') → G (d + 4) sm_I243 18 [(0, .ref 280), (1, .int v1), (2, .int v2), (3, .int v3)] [] U (some (.int r)) U' := by
  intro n
  induction n with
  | zero => intro v1 v2 v3 U r U' h; cases h
  | succ n ih =>
    intro v1 v2 v3 U r U' h
    first | rw [f_243_18] at h | (rw [f_243_18.eq_def] at h; dsimp only at h)
    refine g_iload_n 19 rfl rfl rfl ?_
    refine g_aload_n 20 rfl rfl rfl ?_
    refine g_iload_n 21 rfl rfl rfl ?_
    obtain ⟨q1, hq1, h⟩ := Option.bind_eq_some_iff.mp h
    refine g_callV (J := sm_I239) 24 rfl (Nat.le_of_ble_eq_true rfl) rfl rfl (Nat.le_of_ble_eq_true rfl) s_280 (Nat.le_of_ble_eq_true rfl) (Nat.le_of_ble_eq_true rfl) rfl rfl (F_239 (d + 3) v1 hq1) ?_
    refine g_icmp_ge 61 27 rfl rfl (fun c2 => ?_) (fun c2 => ?_)
    · rw [if_pos c2] at h
      refine g_iload_n 62 rfl rfl rfl ?_
      cases h
      exact g_iret rfl rfl
    · rw [if_neg c2] at h
      refine g_aload_n 28 rfl rfl rfl ?_
      refine g_iload_n 29 rfl rfl rfl ?_
      refine g_iload_n 30 rfl rfl rfl ?_
      obtain ⟨q3, hq3, h⟩ := Option.bind_eq_some_iff.mp h
      have r4 := (F_238 (d + 2) v1 v3 hq3)
      refine g_callV (J := sm_I238) 33 rfl (Nat.le_of_ble_eq_true rfl) rfl rfl (Nat.le_of_ble_eq_true rfl) s_280 (Nat.le_of_ble_eq_true rfl) (Nat.le_of_ble_eq_true rfl) rfl rfl r4 ?_
      refine g_if_eq 55 36 rfl rfl (fun c5 => ?_) (fun c5 => ?_)
      · rw [if_pos c5] at h
        refine g_iinc (v := v3 + 1) 58 [(3, .int (v3 + 1)), (0, .ref 280), (1, .int v1), (2, .int v2)] rfl rfl (Nat.le_of_ble_eq_true rfl) rfl rfl rfl ?_
        refine g_goto 18 rfl ?_
        exact g_sub (Sc rfl (Sc rfl (Sc rfl (Sc rfl (Sn _))))) (ih v1 v2 (v3 + 1) _ _ _ h)
      · rw [if_neg c5] at h
        refine g_aload_n 37 rfl rfl rfl ?_
        refine g_iload_n 38 rfl rfl rfl ?_
        refine g_iload_n 39 rfl rfl rfl ?_
        refine g_iconst (v := 1) 40 rfl rfl rfl ?_
        refine g_aload_n 41 rfl rfl rfl ?_
        refine g_get 44 rfl s_280 (Nat.le_of_ble_eq_true rfl) rfl rfl ?_
        refine g_iload_n 45 rfl rfl rfl ?_
        by_cases i6 : ib v1 8
        case neg => rw [if_neg i6] at h; cases h
        rw [if_pos i6] at h
        refine g_iald 46 rfl s_289 l_289 i6 rfl ?_
        obtain ⟨q7, hq7, h⟩ := Option.bind_eq_some_iff.mp h
        have r8 := (F_240 d v1 v3 1 (U.1 289 v1.toNatClampNeg) hq7)
        refine g_callV (J := sm_I240) 49 rfl (Nat.le_of_ble_eq_true rfl) rfl rfl (Nat.le_of_ble_eq_true rfl) s_280 (Nat.le_of_ble_eq_true rfl) (Nat.le_of_ble_eq_true rfl) rfl rfl r8 ?_
        refine g_if_eq 55 52 rfl rfl (fun c9 => ?_) (fun c9 => ?_)
        · rw [if_pos c9] at h
          refine g_iinc (v := v3 + 1) 58 [(3, .int (v3 + 1)), (0, .ref 280), (1, .int v1), (2, .int v2)] rfl rfl (Nat.le_of_ble_eq_true rfl) rfl rfl rfl ?_
          refine g_goto 18 rfl ?_
          exact g_sub (Sc rfl (Sc rfl (Sc rfl (Sc rfl (Sn _))))) (ih v1 v2 (v3 + 1) _ _ _ h)
        · rw [if_neg c9] at h
          refine g_iinc (v := v2 + 1) 55 [(2, .int (v2 + 1)), (0, .ref 280), (1, .int v1), (3, .int v3)] rfl rfl (Nat.le_of_ble_eq_true rfl) rfl rfl rfl ?_
          refine g_iinc (v := v3 + 1) 58 [(3, .int (v3 + 1)), (2, .int (v2 + 1)), (0, .ref 280), (1, .int v1)] rfl rfl (Nat.le_of_ble_eq_true rfl) rfl rfl rfl ?_
          refine g_goto 18 rfl ?_
          exact g_sub (Sc rfl (Sc rfl (Sc rfl (Sc rfl (Sn _))))) (ih v1 (v2 + 1) (v3 + 1) _ _ _ h)
def f_243 (x1 : Int32) (U : sU) : Option (Int32 × sU) :=
  if (f_178 x1 U) = 0 then
    Option.bind (f_174 ((-1)) U) fun q12 =>
    some (q12.1, q12.2)
  else
    f_243_18 FU x1 0 0 U
set_option maxRecDepth 10000 in
set_option maxHeartbeats 2000000 in
theorem F_243 (d : Nat) (x1 : Int32) {U : sU} {r : Int32} {U' : sU} (h : f_243 x1 U = some (r, U')) : Rn (d + 4) sm_I243 [.ref 280, .int x1] U (some (.int r)) U' := by
  refine Rn_of [(0, .ref 280), (1, .int x1)] (Nat.le_of_ble_eq_true rfl) (Sc rfl (Sc rfl (Sn _))) ?_
  first | rw [f_243] at h | rw [f_243.eq_def] at h
  refine g_aload_n 1 rfl rfl rfl ?_
  refine g_iload_n 2 rfl rfl rfl ?_
  have r10 := F_178 (d + 3) x1 U
  refine g_callV (J := sm_I178) 5 rfl (Nat.le_of_ble_eq_true rfl) rfl rfl (Nat.le_of_ble_eq_true rfl) s_280 (Nat.le_of_ble_eq_true rfl) (Nat.le_of_ble_eq_true rfl) rfl rfl r10 ?_
  refine g_if_ne 14 8 rfl rfl (fun c11 => ?_) (fun c11 => ?_)
  · rw [if_neg c11] at h
    refine g_iconst (v := 0) 15 rfl rfl rfl ?_
    refine g_istore_n 16 [(2, .int 0), (0, .ref 280), (1, .int x1)] rfl (Nat.le_of_ble_eq_true rfl) rfl rfl ?_
    refine g_iconst (v := 0) 17 rfl rfl rfl ?_
    refine g_istore_n 18 [(3, .int 0), (2, .int 0), (0, .ref 280), (1, .int x1)] rfl (Nat.le_of_ble_eq_true rfl) rfl rfl ?_
    exact g_sub (Sc rfl (Sc rfl (Sc rfl (Sc rfl (Sn _))))) (F_243_18 d _ x1 0 0 _ _ _ h)
  · rw [if_pos c11] at h
    refine g_aload_n 9 rfl rfl rfl ?_
    refine g_iconst (v := (-1)) 10 rfl rfl rfl ?_
    obtain ⟨q12, hq12, h⟩ := Option.bind_eq_some_iff.mp h
    refine g_callV (J := sm_I174) 13 rfl (Nat.le_of_ble_eq_true rfl) rfl rfl (Nat.le_of_ble_eq_true rfl) s_280 (Nat.le_of_ble_eq_true rfl) (Nat.le_of_ble_eq_true rfl) rfl rfl (F_174 (d + 3) ((-1)) hq12) ?_
    cases h
    exact g_iret rfl rfl

def f_244_8 : Nat → Int32 → Int32 → Int32 → Int32 → Int32 → sU → Option (Int32 × sU)
  | 0, _, _, _, _, _, _ => none
  | n + 1, v1, v2, v3, v4, v5, U =>
    Option.bind (f_239 v1 U) fun q1 =>
    if q1 ≤ v5 then
      some (v4, U)
    else
      Option.bind (f_214 v5 U) fun q3 =>
      if (q3 + 1) ≤ v3 then
        f_244_8 n v1 v2 v3 v4 (v5 + 1) U
      else
        if ib v1 8 then
        if (U.1 291 v1.toNatClampNeg) < (q3 + 1) then
          f_244_8 n v1 v2 v3 v4 (v5 + 1) U
        else
          if ib v1 8 then
          Option.bind (f_240 v1 v5 v2 (U.1 289 v1.toNatClampNeg) U) fun q8 =>
          if q8.1 = 0 then
            f_244_8 n v1 v2 v3 v4 (v5 + 1) q8.2
          else
            f_244_8 n v1 v2 (q3 + 1) v5 (v5 + 1) q8.2
          else none
        else none
set_option maxRecDepth 10000 in
set_option maxHeartbeats 2000000 in
theorem F_244_8 (d : Nat)   : ∀ (n : Nat) (v1 : Int32) (v2 : Int32) (v3 : Int32) (v4 : Int32) (v5 : Int32) (U : sU) (r : Int32) (U' : sU), f_244_8 n v1 v2 v3 v4 v5 U = some (r, U') → G (d + 4) sm_I244 8 [(0, .ref 280), (1, .int v1), (2, .int v2), (3, .int v3), (4, .int v4), (5, .int v5)] [] U (some (.int r)) U' := by
  intro n
  induction n with
  | zero => intro v1 v2 v3 v4 v5 U r U' h; cases h
  | succ n ih =>
    intro v1 v2 v3 v4 v5 U r U' h
    first | rw [f_244_8] at h | (rw [f_244_8.eq_def] at h; dsimp only at h)
    refine g_iload 10 rfl rfl rfl ?_
    refine g_aload_n 11 rfl rfl rfl ?_
    refine g_iload_n 12 rfl rfl rfl ?_
    obtain ⟨q1, hq1, h⟩ := Option.bind_eq_some_iff.mp h
    refine g_callV (J := sm_I239) 15 rfl (Nat.le_of_ble_eq_true rfl) rfl rfl (Nat.le_of_ble_eq_true rfl) s_280 (Nat.le_of_ble_eq_true rfl) (Nat.le_of_ble_eq_true rfl) rfl rfl (F_239 (d + 3) v1 hq1) ?_
    refine g_icmp_ge 75 18 rfl rfl (fun c2 => ?_) (fun c2 => ?_)
    · rw [if_pos c2] at h
      refine g_iload 77 rfl rfl rfl ?_
      cases h
      exact g_iret rfl rfl
    · rw [if_neg c2] at h
      refine g_aload_n 19 rfl rfl rfl ?_
      refine g_iload 21 rfl rfl rfl ?_
      obtain ⟨q3, hq3, h⟩ := Option.bind_eq_some_iff.mp h
      refine g_callV (J := sm_I214) 24 rfl (Nat.le_of_ble_eq_true rfl) rfl rfl (Nat.le_of_ble_eq_true rfl) s_280 (Nat.le_of_ble_eq_true rfl) (Nat.le_of_ble_eq_true rfl) rfl rfl (F_214 (d + 3) v5 hq3) ?_
      refine g_iconst (v := 1) 25 rfl rfl rfl ?_
      refine g_iadd 26 rfl rfl ?_
      refine g_istore 28 [(6, .int (q3 + 1)), (0, .ref 280), (1, .int v1), (2, .int v2), (3, .int v3), (4, .int v4), (5, .int v5)] rfl (Nat.le_of_ble_eq_true rfl) rfl rfl ?_
      refine g_iload 30 rfl rfl rfl ?_
      refine g_iload_n 31 rfl rfl rfl ?_
      refine g_icmp_le 69 34 rfl rfl (fun c4 => ?_) (fun c4 => ?_)
      · rw [if_pos c4] at h
        refine g_iinc (v := v5 + 1) 72 [(5, .int (v5 + 1)), (6, .int (q3 + 1)), (0, .ref 280), (1, .int v1), (2, .int v2), (3, .int v3), (4, .int v4)] rfl rfl (Nat.le_of_ble_eq_true rfl) rfl rfl rfl ?_
        refine g_goto 8 rfl ?_
        exact g_sub (Sc rfl (Sc rfl (Sc rfl (Sc rfl (Sc rfl (Sc rfl (Sn _))))))) (ih v1 v2 v3 v4 (v5 + 1) _ _ _ h)
      · rw [if_neg c4] at h
        refine g_iload 36 rfl rfl rfl ?_
        refine g_aload_n 37 rfl rfl rfl ?_
        refine g_get 40 rfl s_280 (Nat.le_of_ble_eq_true rfl) rfl rfl ?_
        refine g_iload_n 41 rfl rfl rfl ?_
        by_cases i5 : ib v1 8
        case neg => rw [if_neg i5] at h; cases h
        rw [if_pos i5] at h
        refine g_iald 42 rfl s_291 l_291 i5 rfl ?_
        refine g_icmp_gt 69 45 rfl rfl (fun c6 => ?_) (fun c6 => ?_)
        · rw [if_pos c6] at h
          refine g_iinc (v := v5 + 1) 72 [(5, .int (v5 + 1)), (6, .int (q3 + 1)), (0, .ref 280), (1, .int v1), (2, .int v2), (3, .int v3), (4, .int v4)] rfl rfl (Nat.le_of_ble_eq_true rfl) rfl rfl rfl ?_
          refine g_goto 8 rfl ?_
          exact g_sub (Sc rfl (Sc rfl (Sc rfl (Sc rfl (Sc rfl (Sc rfl (Sn _))))))) (ih v1 v2 v3 v4 (v5 + 1) _ _ _ h)
        · rw [if_neg c6] at h
          refine g_aload_n 46 rfl rfl rfl ?_
          refine g_iload_n 47 rfl rfl rfl ?_
          refine g_iload 49 rfl rfl rfl ?_
          refine g_iload_n 50 rfl rfl rfl ?_
          refine g_aload_n 51 rfl rfl rfl ?_
          refine g_get 54 rfl s_280 (Nat.le_of_ble_eq_true rfl) rfl rfl ?_
          refine g_iload_n 55 rfl rfl rfl ?_
          by_cases i7 : ib v1 8
          case neg => rw [if_neg i7] at h; cases h
          rw [if_pos i7] at h
          refine g_iald 56 rfl s_289 l_289 i7 rfl ?_
          obtain ⟨q8, hq8, h⟩ := Option.bind_eq_some_iff.mp h
          have r9 := (F_240 d v1 v5 v2 (U.1 289 v1.toNatClampNeg) hq8)
          refine g_callV (J := sm_I240) 59 rfl (Nat.le_of_ble_eq_true rfl) rfl rfl (Nat.le_of_ble_eq_true rfl) s_280 (Nat.le_of_ble_eq_true rfl) (Nat.le_of_ble_eq_true rfl) rfl rfl r9 ?_
          refine g_if_eq 69 62 rfl rfl (fun c10 => ?_) (fun c10 => ?_)
          · rw [if_pos c10] at h
            refine g_iinc (v := v5 + 1) 72 [(5, .int (v5 + 1)), (6, .int (q3 + 1)), (0, .ref 280), (1, .int v1), (2, .int v2), (3, .int v3), (4, .int v4)] rfl rfl (Nat.le_of_ble_eq_true rfl) rfl rfl rfl ?_
            refine g_goto 8 rfl ?_
            exact g_sub (Sc rfl (Sc rfl (Sc rfl (Sc rfl (Sc rfl (Sc rfl (Sn _))))))) (ih v1 v2 v3 v4 (v5 + 1) _ _ _ h)
          · rw [if_neg c10] at h
            refine g_iload 64 rfl rfl rfl ?_
            refine g_istore_n 65 [(3, .int (q3 + 1)), (6, .int (q3 + 1)), (0, .ref 280), (1, .int v1), (2, .int v2), (4, .int v4), (5, .int v5)] rfl (Nat.le_of_ble_eq_true rfl) rfl rfl ?_
            refine g_iload 67 rfl rfl rfl ?_
            refine g_istore 69 [(4, .int v5), (3, .int (q3 + 1)), (6, .int (q3 + 1)), (0, .ref 280), (1, .int v1), (2, .int v2), (5, .int v5)] rfl (Nat.le_of_ble_eq_true rfl) rfl rfl ?_
            refine g_iinc (v := v5 + 1) 72 [(5, .int (v5 + 1)), (4, .int v5), (3, .int (q3 + 1)), (6, .int (q3 + 1)), (0, .ref 280), (1, .int v1), (2, .int v2)] rfl rfl (Nat.le_of_ble_eq_true rfl) rfl rfl rfl ?_
            refine g_goto 8 rfl ?_
            exact g_sub (Sc rfl (Sc rfl (Sc rfl (Sc rfl (Sc rfl (Sc rfl (Sn _))))))) (ih v1 v2 (q3 + 1) v5 (v5 + 1) _ _ _ h)
def f_244 (x1 : Int32) (x2 : Int32) (U : sU) : Option (Int32 × sU) :=
  f_244_8 FU x1 x2 0 ((-1)) 0 U
set_option maxRecDepth 10000 in
set_option maxHeartbeats 2000000 in
theorem F_244 (d : Nat) (x1 : Int32) (x2 : Int32) {U : sU} {r : Int32} {U' : sU} (h : f_244 x1 x2 U = some (r, U')) : Rn (d + 4) sm_I244 [.ref 280, .int x1, .int x2] U (some (.int r)) U' := by
  refine Rn_of [(0, .ref 280), (1, .int x1), (2, .int x2)] (Nat.le_of_ble_eq_true rfl) (Sc rfl (Sc rfl (Sc rfl (Sn _)))) ?_
  first | rw [f_244] at h | rw [f_244.eq_def] at h
  refine g_iconst (v := 0) 1 rfl rfl rfl ?_
  refine g_istore_n 2 [(3, .int 0), (0, .ref 280), (1, .int x1), (2, .int x2)] rfl (Nat.le_of_ble_eq_true rfl) rfl rfl ?_
  refine g_iconst (v := (-1)) 3 rfl rfl rfl ?_
  refine g_istore 5 [(4, .int ((-1))), (3, .int 0), (0, .ref 280), (1, .int x1), (2, .int x2)] rfl (Nat.le_of_ble_eq_true rfl) rfl rfl ?_
  refine g_iconst (v := 0) 6 rfl rfl rfl ?_
  refine g_istore 8 [(5, .int 0), (4, .int ((-1))), (3, .int 0), (0, .ref 280), (1, .int x1), (2, .int x2)] rfl (Nat.le_of_ble_eq_true rfl) rfl rfl ?_
  exact g_sub (Sc rfl (Sc rfl (Sc rfl (Sc rfl (Sc rfl (Sc rfl (Sn _))))))) (F_244_8 d _ x1 x2 0 ((-1)) 0 _ _ _ h)

def f_245 (x1 : Int32) (U : sU) : Option (Int32 × sU) :=
  if (f_178 x1 U) = 0 then
    Option.bind (f_174 ((-1)) U) fun q3 =>
    some (q3.1, q3.2)
  else
    Option.bind (f_244 x1 1 U) fun q4 =>
    some (q4.1, q4.2)
set_option maxRecDepth 10000 in
set_option maxHeartbeats 2000000 in
theorem F_245 (d : Nat) (x1 : Int32) {U : sU} {r : Int32} {U' : sU} (h : f_245 x1 U = some (r, U')) : Rn (d + 5) sm_I245 [.ref 280, .int x1] U (some (.int r)) U' := by
  refine Rn_of [(0, .ref 280), (1, .int x1)] (Nat.le_of_ble_eq_true rfl) (Sc rfl (Sc rfl (Sn _))) ?_
  first | rw [f_245] at h | rw [f_245.eq_def] at h
  refine g_aload_n 1 rfl rfl rfl ?_
  refine g_iload_n 2 rfl rfl rfl ?_
  have r1 := F_178 (d + 4) x1 U
  refine g_callV (J := sm_I178) 5 rfl (Nat.le_of_ble_eq_true rfl) rfl rfl (Nat.le_of_ble_eq_true rfl) s_280 (Nat.le_of_ble_eq_true rfl) (Nat.le_of_ble_eq_true rfl) rfl rfl r1 ?_
  refine g_if_eq 17 8 rfl rfl (fun c2 => ?_) (fun c2 => ?_)
  · rw [if_pos c2] at h
    refine g_aload_n 18 rfl rfl rfl ?_
    refine g_iconst (v := (-1)) 19 rfl rfl rfl ?_
    obtain ⟨q3, hq3, h⟩ := Option.bind_eq_some_iff.mp h
    refine g_callV (J := sm_I174) 22 rfl (Nat.le_of_ble_eq_true rfl) rfl rfl (Nat.le_of_ble_eq_true rfl) s_280 (Nat.le_of_ble_eq_true rfl) (Nat.le_of_ble_eq_true rfl) rfl rfl (F_174 (d + 4) ((-1)) hq3) ?_
    cases h
    exact g_iret rfl rfl
  · rw [if_neg c2] at h
    refine g_aload_n 9 rfl rfl rfl ?_
    refine g_iload_n 10 rfl rfl rfl ?_
    refine g_iconst (v := 1) 11 rfl rfl rfl ?_
    obtain ⟨q4, hq4, h⟩ := Option.bind_eq_some_iff.mp h
    refine g_callV (J := sm_I244) 14 rfl (Nat.le_of_ble_eq_true rfl) rfl rfl (Nat.le_of_ble_eq_true rfl) s_280 (Nat.le_of_ble_eq_true rfl) (Nat.le_of_ble_eq_true rfl) rfl rfl (F_244 d x1 1 hq4) ?_
    refine g_goto 22 rfl ?_
    cases h
    exact g_iret rfl rfl

def f_246 (x1 : Int32) (U : sU) : Option (Int32 × sU) :=
  if (f_178 x1 U) = 0 then
    Option.bind (f_174 ((-1)) U) fun q3 =>
    some (q3.1, q3.2)
  else
    Option.bind (f_244 x1 1 U) fun q4 =>
    Option.bind (f_214 q4.1 q4.2) fun q5 =>
    some (q5 + 1, q4.2)
set_option maxRecDepth 10000 in
set_option maxHeartbeats 2000000 in
theorem F_246 (d : Nat) (x1 : Int32) {U : sU} {r : Int32} {U' : sU} (h : f_246 x1 U = some (r, U')) : Rn (d + 5) sm_I246 [.ref 280, .int x1] U (some (.int r)) U' := by
  refine Rn_of [(0, .ref 280), (1, .int x1)] (Nat.le_of_ble_eq_true rfl) (Sc rfl (Sc rfl (Sn _))) ?_
  first | rw [f_246] at h | rw [f_246.eq_def] at h
  refine g_aload_n 1 rfl rfl rfl ?_
  refine g_iload_n 2 rfl rfl rfl ?_
  have r1 := F_178 (d + 4) x1 U
  refine g_callV (J := sm_I178) 5 rfl (Nat.le_of_ble_eq_true rfl) rfl rfl (Nat.le_of_ble_eq_true rfl) s_280 (Nat.le_of_ble_eq_true rfl) (Nat.le_of_ble_eq_true rfl) rfl rfl r1 ?_
  refine g_if_eq 23 8 rfl rfl (fun c2 => ?_) (fun c2 => ?_)
  · rw [if_pos c2] at h
    refine g_aload_n 24 rfl rfl rfl ?_
    refine g_iconst (v := (-1)) 25 rfl rfl rfl ?_
    obtain ⟨q3, hq3, h⟩ := Option.bind_eq_some_iff.mp h
    refine g_callV (J := sm_I174) 28 rfl (Nat.le_of_ble_eq_true rfl) rfl rfl (Nat.le_of_ble_eq_true rfl) s_280 (Nat.le_of_ble_eq_true rfl) (Nat.le_of_ble_eq_true rfl) rfl rfl (F_174 (d + 4) ((-1)) hq3) ?_
    cases h
    exact g_iret rfl rfl
  · rw [if_neg c2] at h
    refine g_aload_n 9 rfl rfl rfl ?_
    refine g_aload_n 10 rfl rfl rfl ?_
    refine g_iload_n 11 rfl rfl rfl ?_
    refine g_iconst (v := 1) 12 rfl rfl rfl ?_
    obtain ⟨q4, hq4, h⟩ := Option.bind_eq_some_iff.mp h
    refine g_callV (J := sm_I244) 15 rfl (Nat.le_of_ble_eq_true rfl) rfl rfl (Nat.le_of_ble_eq_true rfl) s_280 (Nat.le_of_ble_eq_true rfl) (Nat.le_of_ble_eq_true rfl) rfl rfl (F_244 d x1 1 hq4) ?_
    obtain ⟨q5, hq5, h⟩ := Option.bind_eq_some_iff.mp h
    refine g_callV (J := sm_I214) 18 rfl (Nat.le_of_ble_eq_true rfl) rfl rfl (Nat.le_of_ble_eq_true rfl) s_280 (Nat.le_of_ble_eq_true rfl) (Nat.le_of_ble_eq_true rfl) rfl rfl (F_214 (d + 4) q4.1 hq5) ?_
    refine g_iconst (v := 1) 19 rfl rfl rfl ?_
    refine g_iadd 20 rfl rfl ?_
    refine g_goto 28 rfl ?_
    cases h
    exact g_iret rfl rfl

def f_247_8 : Nat → Int32 → Int32 → Int64 → Int32 → Int32 → sU → Option (Int32 × sU)
  | 0, _, _, _, _, _, _ => none
  | n + 1, v1, v2, v3, v5, v6, U =>
    Option.bind (f_239 v1 U) fun q1 =>
    if q1 ≤ v6 then
      some (v5, U)
    else
      Option.bind (f_238 v1 v6 U) fun q3 =>
      if q3 = 0 then
        f_247_8 n v1 v2 v3 v5 (v6 + 1) U
      else
        if ib v1 8 then
        Option.bind (f_240 v1 v6 1 (U.1 289 v1.toNatClampNeg) U) fun q7 =>
        if q7.1 = 0 then
          f_247_8 n v1 v2 v3 v5 (v6 + 1) q7.2
        else
          Option.bind (f_241 v1 v2 q7.2) fun q10 =>
          if v5 = ((-1)) then
            f_247_8 n v1 v2 q10 v6 (v6 + 1) q7.2
          else
            if 0 ≤ (lg_cmp q10 v3) then
              f_247_8 n v1 v2 v3 v5 (v6 + 1) q7.2
            else
              f_247_8 n v1 v2 q10 v6 (v6 + 1) q7.2
        else none
set_option maxRecDepth 10000 in
set_option maxHeartbeats 2000000 in
theorem F_247_8 (d : Nat)   : ∀ (n : Nat) (v1 : Int32) (v2 : Int32) (v3 : Int64) (v5 : Int32) (v6 : Int32) (U : sU) (r : Int32) (U' : sU), f_247_8 n v1 v2 v3 v5 v6 U = some (r, U') → G (d + 4) sm_I247 8 [(0, .ref 280), (1, .int v1), (2, .int v2), (3, .long v3), (5, .int v5), (6, .int v6)] [] U (some (.int r)) U' := by
  intro n
  induction n with
  | zero => intro v1 v2 v3 v5 v6 U r U' h; cases h
  | succ n ih =>
    intro v1 v2 v3 v5 v6 U r U' h
    first | rw [f_247_8] at h | (rw [f_247_8.eq_def] at h; dsimp only at h)
    refine g_iload 10 rfl rfl rfl ?_
    refine g_aload_n 11 rfl rfl rfl ?_
    refine g_iload_n 12 rfl rfl rfl ?_
    obtain ⟨q1, hq1, h⟩ := Option.bind_eq_some_iff.mp h
    refine g_callV (J := sm_I239) 15 rfl (Nat.le_of_ble_eq_true rfl) rfl rfl (Nat.le_of_ble_eq_true rfl) s_280 (Nat.le_of_ble_eq_true rfl) (Nat.le_of_ble_eq_true rfl) rfl rfl (F_239 (d + 3) v1 hq1) ?_
    refine g_icmp_ge 79 18 rfl rfl (fun c2 => ?_) (fun c2 => ?_)
    · rw [if_pos c2] at h
      refine g_iload 81 rfl rfl rfl ?_
      cases h
      exact g_iret rfl rfl
    · rw [if_neg c2] at h
      refine g_aload_n 19 rfl rfl rfl ?_
      refine g_iload_n 20 rfl rfl rfl ?_
      refine g_iload 22 rfl rfl rfl ?_
      obtain ⟨q3, hq3, h⟩ := Option.bind_eq_some_iff.mp h
      have r4 := (F_238 (d + 2) v1 v6 hq3)
      refine g_callV (J := sm_I238) 25 rfl (Nat.le_of_ble_eq_true rfl) rfl rfl (Nat.le_of_ble_eq_true rfl) s_280 (Nat.le_of_ble_eq_true rfl) (Nat.le_of_ble_eq_true rfl) rfl rfl r4 ?_
      refine g_if_eq 73 28 rfl rfl (fun c5 => ?_) (fun c5 => ?_)
      · rw [if_pos c5] at h
        refine g_iinc (v := v6 + 1) 76 [(6, .int (v6 + 1)), (0, .ref 280), (1, .int v1), (2, .int v2), (3, .long v3), (5, .int v5)] rfl rfl (Nat.le_of_ble_eq_true rfl) rfl rfl rfl ?_
        refine g_goto 8 rfl ?_
        exact g_sub (Sc rfl (Sc rfl (Sc rfl (Sc rfl (Sc rfl (Sc rfl (Sn _))))))) (ih v1 v2 v3 v5 (v6 + 1) _ _ _ h)
      · rw [if_neg c5] at h
        refine g_aload_n 29 rfl rfl rfl ?_
        refine g_iload_n 30 rfl rfl rfl ?_
        refine g_iload 32 rfl rfl rfl ?_
        refine g_iconst (v := 1) 33 rfl rfl rfl ?_
        refine g_aload_n 34 rfl rfl rfl ?_
        refine g_get 37 rfl s_280 (Nat.le_of_ble_eq_true rfl) rfl rfl ?_
        refine g_iload_n 38 rfl rfl rfl ?_
        by_cases i6 : ib v1 8
        case neg => rw [if_neg i6] at h; cases h
        rw [if_pos i6] at h
        refine g_iald 39 rfl s_289 l_289 i6 rfl ?_
        obtain ⟨q7, hq7, h⟩ := Option.bind_eq_some_iff.mp h
        have r8 := (F_240 d v1 v6 1 (U.1 289 v1.toNatClampNeg) hq7)
        refine g_callV (J := sm_I240) 42 rfl (Nat.le_of_ble_eq_true rfl) rfl rfl (Nat.le_of_ble_eq_true rfl) s_280 (Nat.le_of_ble_eq_true rfl) (Nat.le_of_ble_eq_true rfl) rfl rfl r8 ?_
        refine g_if_eq 73 45 rfl rfl (fun c9 => ?_) (fun c9 => ?_)
        · rw [if_pos c9] at h
          refine g_iinc (v := v6 + 1) 76 [(6, .int (v6 + 1)), (0, .ref 280), (1, .int v1), (2, .int v2), (3, .long v3), (5, .int v5)] rfl rfl (Nat.le_of_ble_eq_true rfl) rfl rfl rfl ?_
          refine g_goto 8 rfl ?_
          exact g_sub (Sc rfl (Sc rfl (Sc rfl (Sc rfl (Sc rfl (Sc rfl (Sn _))))))) (ih v1 v2 v3 v5 (v6 + 1) _ _ _ h)
        · rw [if_neg c9] at h
          refine g_aload_n 46 rfl rfl rfl ?_
          refine g_iload_n 47 rfl rfl rfl ?_
          refine g_iload_n 48 rfl rfl rfl ?_
          obtain ⟨q10, hq10, h⟩ := Option.bind_eq_some_iff.mp h
          refine g_callV (J := sm_I241) 51 rfl (Nat.le_of_ble_eq_true rfl) rfl rfl (Nat.le_of_ble_eq_true rfl) s_280 (Nat.le_of_ble_eq_true rfl) (Nat.le_of_ble_eq_true rfl) rfl rfl (F_241 (d + 2) v1 v2 hq10) ?_
          refine g_lstore 53 [(7, .long q10), (0, .ref 280), (1, .int v1), (2, .int v2), (3, .long v3), (5, .int v5), (6, .int v6)] rfl (Nat.le_of_ble_eq_true rfl) rfl rfl ?_
          refine g_iload 55 rfl rfl rfl ?_
          refine g_iconst (v := (-1)) 56 rfl rfl rfl ?_
          refine g_icmp_eq 66 59 rfl rfl (fun c11 => ?_) (fun c11 => ?_)
          · rw [if_pos c11] at h
            refine g_lload 68 rfl rfl rfl ?_
            refine g_lstore_n 69 [(3, .long q10), (7, .long q10), (0, .ref 280), (1, .int v1), (2, .int v2), (5, .int v5), (6, .int v6)] rfl (Nat.le_of_ble_eq_true rfl) rfl rfl ?_
            refine g_iload 71 rfl rfl rfl ?_
            refine g_istore 73 [(5, .int v6), (3, .long q10), (7, .long q10), (0, .ref 280), (1, .int v1), (2, .int v2), (6, .int v6)] rfl (Nat.le_of_ble_eq_true rfl) rfl rfl ?_
            refine g_iinc (v := v6 + 1) 76 [(6, .int (v6 + 1)), (5, .int v6), (3, .long q10), (7, .long q10), (0, .ref 280), (1, .int v1), (2, .int v2)] rfl rfl (Nat.le_of_ble_eq_true rfl) rfl rfl rfl ?_
            refine g_goto 8 rfl ?_
            exact g_sub (Sc rfl (Sc rfl (Sc rfl (Sc rfl (Sc rfl (Sc rfl (Sn _))))))) (ih v1 v2 q10 v6 (v6 + 1) _ _ _ h)
          · rw [if_neg c11] at h
            refine g_lload 61 rfl rfl rfl ?_
            refine g_lload_n 62 rfl rfl rfl ?_
            refine g_lcmp 63 rfl rfl ?_
            refine g_if_ge 73 66 rfl rfl (fun c12 => ?_) (fun c12 => ?_)
            · rw [if_pos c12] at h
              refine g_iinc (v := v6 + 1) 76 [(6, .int (v6 + 1)), (7, .long q10), (0, .ref 280), (1, .int v1), (2, .int v2), (3, .long v3), (5, .int v5)] rfl rfl (Nat.le_of_ble_eq_true rfl) rfl rfl rfl ?_
              refine g_goto 8 rfl ?_
              exact g_sub (Sc rfl (Sc rfl (Sc rfl (Sc rfl (Sc rfl (Sc rfl (Sn _))))))) (ih v1 v2 v3 v5 (v6 + 1) _ _ _ h)
            · rw [if_neg c12] at h
              refine g_lload 68 rfl rfl rfl ?_
              refine g_lstore_n 69 [(3, .long q10), (7, .long q10), (0, .ref 280), (1, .int v1), (2, .int v2), (5, .int v5), (6, .int v6)] rfl (Nat.le_of_ble_eq_true rfl) rfl rfl ?_
              refine g_iload 71 rfl rfl rfl ?_
              refine g_istore 73 [(5, .int v6), (3, .long q10), (7, .long q10), (0, .ref 280), (1, .int v1), (2, .int v2), (6, .int v6)] rfl (Nat.le_of_ble_eq_true rfl) rfl rfl ?_
              refine g_iinc (v := v6 + 1) 76 [(6, .int (v6 + 1)), (5, .int v6), (3, .long q10), (7, .long q10), (0, .ref 280), (1, .int v1), (2, .int v2)] rfl rfl (Nat.le_of_ble_eq_true rfl) rfl rfl rfl ?_
              refine g_goto 8 rfl ?_
              exact g_sub (Sc rfl (Sc rfl (Sc rfl (Sc rfl (Sc rfl (Sc rfl (Sn _))))))) (ih v1 v2 q10 v6 (v6 + 1) _ _ _ h)
def f_247 (x1 : Int32) (x2 : Int32) (U : sU) : Option (Int32 × sU) :=
  f_247_8 FU x1 x2 0 ((-1)) 0 U
set_option maxRecDepth 10000 in
set_option maxHeartbeats 2000000 in
theorem F_247 (d : Nat) (x1 : Int32) (x2 : Int32) {U : sU} {r : Int32} {U' : sU} (h : f_247 x1 x2 U = some (r, U')) : Rn (d + 4) sm_I247 [.ref 280, .int x1, .int x2] U (some (.int r)) U' := by
  refine Rn_of [(0, .ref 280), (1, .int x1), (2, .int x2)] (Nat.le_of_ble_eq_true rfl) (Sc rfl (Sc rfl (Sc rfl (Sn _)))) ?_
  first | rw [f_247] at h | rw [f_247.eq_def] at h
  refine g_lconst (v := 0) 1 rfl rfl rfl ?_
  refine g_lstore_n 2 [(3, .long 0), (0, .ref 280), (1, .int x1), (2, .int x2)] rfl (Nat.le_of_ble_eq_true rfl) rfl rfl ?_
  refine g_iconst (v := (-1)) 3 rfl rfl rfl ?_
  refine g_istore 5 [(5, .int ((-1))), (3, .long 0), (0, .ref 280), (1, .int x1), (2, .int x2)] rfl (Nat.le_of_ble_eq_true rfl) rfl rfl ?_
  refine g_iconst (v := 0) 6 rfl rfl rfl ?_
  refine g_istore 8 [(6, .int 0), (5, .int ((-1))), (3, .long 0), (0, .ref 280), (1, .int x1), (2, .int x2)] rfl (Nat.le_of_ble_eq_true rfl) rfl rfl ?_
  exact g_sub (Sc rfl (Sc rfl (Sc rfl (Sc rfl (Sc rfl (Sc rfl (Sn _))))))) (F_247_8 d _ x1 x2 0 ((-1)) 0 _ _ _ h)

def f_248 (x1 : Int32) (x2 : Int32) (U : sU) : Option (Int32 × sU) :=
  if (f_178 x1 U) = 0 then
    Option.bind (f_174 ((-1)) U) fun q12 =>
    some (q12.1, q12.2)
  else
    if x2 < 0 then
      Option.bind (f_174 ((-6)) U) fun q4 =>
      some (q4.1, q4.2)
    else
      if x2 ≤ 1 then
        if x2 = 0 then
          if ib x1 8 then
          Option.bind (f_247 x1 (U.1 290 x1.toNatClampNeg) U) fun q10 =>
          some (q10.1, q10.2)
          else none
        else
          if ib x1 8 then
          Option.bind (f_247 x1 (U.1 289 x1.toNatClampNeg) U) fun q8 =>
          some (q8.1, q8.2)
          else none
      else
        Option.bind (f_174 ((-6)) U) fun q11 =>
        some (q11.1, q11.2)
set_option maxRecDepth 10000 in
set_option maxHeartbeats 2000000 in
theorem F_248 (d : Nat) (x1 : Int32) (x2 : Int32) {U : sU} {r : Int32} {U' : sU} (h : f_248 x1 x2 U = some (r, U')) : Rn (d + 5) sm_I248 [.ref 280, .int x1, .int x2] U (some (.int r)) U' := by
  refine Rn_of [(0, .ref 280), (1, .int x1), (2, .int x2)] (Nat.le_of_ble_eq_true rfl) (Sc rfl (Sc rfl (Sc rfl (Sn _)))) ?_
  first | rw [f_248] at h | rw [f_248.eq_def] at h
  refine g_aload_n 1 rfl rfl rfl ?_
  refine g_iload_n 2 rfl rfl rfl ?_
  have r1 := F_178 (d + 4) x1 U
  refine g_callV (J := sm_I178) 5 rfl (Nat.le_of_ble_eq_true rfl) rfl rfl (Nat.le_of_ble_eq_true rfl) s_280 (Nat.le_of_ble_eq_true rfl) (Nat.le_of_ble_eq_true rfl) rfl rfl r1 ?_
  refine g_if_ne 14 8 rfl rfl (fun c2 => ?_) (fun c2 => ?_)
  · rw [if_neg c2] at h
    refine g_iload_n 15 rfl rfl rfl ?_
    refine g_if_lt 23 18 rfl rfl (fun c3 => ?_) (fun c3 => ?_)
    · rw [if_pos c3] at h
      refine g_aload_n 24 rfl rfl rfl ?_
      refine g_bipush (v := (-6)) 26 rfl (by decide) rfl ?_
      obtain ⟨q4, hq4, h⟩ := Option.bind_eq_some_iff.mp h
      refine g_callV (J := sm_I174) 29 rfl (Nat.le_of_ble_eq_true rfl) rfl rfl (Nat.le_of_ble_eq_true rfl) s_280 (Nat.le_of_ble_eq_true rfl) (Nat.le_of_ble_eq_true rfl) rfl rfl (F_174 (d + 4) ((-6)) hq4) ?_
      cases h
      exact g_iret rfl rfl
    · rw [if_neg c3] at h
      refine g_iload_n 19 rfl rfl rfl ?_
      refine g_iconst (v := 1) 20 rfl rfl rfl ?_
      refine g_icmp_le 30 23 rfl rfl (fun c5 => ?_) (fun c5 => ?_)
      · rw [if_pos c5] at h
        refine g_aload_n 31 rfl rfl rfl ?_
        refine g_iload_n 32 rfl rfl rfl ?_
        refine g_iload_n 33 rfl rfl rfl ?_
        refine g_if_ne 45 36 rfl rfl (fun c6 => ?_) (fun c6 => ?_)
        · rw [if_neg c6] at h
          refine g_aload_n 46 rfl rfl rfl ?_
          refine g_get 49 rfl s_280 (Nat.le_of_ble_eq_true rfl) rfl rfl ?_
          refine g_iload_n 50 rfl rfl rfl ?_
          by_cases i7 : ib x1 8
          case neg => rw [if_neg i7] at h; cases h
          rw [if_pos i7] at h
          refine g_iald 51 rfl s_289 l_289 i7 rfl ?_
          obtain ⟨q8, hq8, h⟩ := Option.bind_eq_some_iff.mp h
          refine g_callV (J := sm_I247) 54 rfl (Nat.le_of_ble_eq_true rfl) rfl rfl (Nat.le_of_ble_eq_true rfl) s_280 (Nat.le_of_ble_eq_true rfl) (Nat.le_of_ble_eq_true rfl) rfl rfl (F_247 d x1 (U.1 289 x1.toNatClampNeg) hq8) ?_
          cases h
          exact g_iret rfl rfl
        · rw [if_pos c6] at h
          refine g_aload_n 37 rfl rfl rfl ?_
          refine g_get 40 rfl s_280 (Nat.le_of_ble_eq_true rfl) rfl rfl ?_
          refine g_iload_n 41 rfl rfl rfl ?_
          by_cases i9 : ib x1 8
          case neg => rw [if_neg i9] at h; cases h
          rw [if_pos i9] at h
          refine g_iald 42 rfl s_290 l_290 i9 rfl ?_
          refine g_goto 51 rfl ?_
          obtain ⟨q10, hq10, h⟩ := Option.bind_eq_some_iff.mp h
          refine g_callV (J := sm_I247) 54 rfl (Nat.le_of_ble_eq_true rfl) rfl rfl (Nat.le_of_ble_eq_true rfl) s_280 (Nat.le_of_ble_eq_true rfl) (Nat.le_of_ble_eq_true rfl) rfl rfl (F_247 d x1 (U.1 290 x1.toNatClampNeg) hq10) ?_
          cases h
          exact g_iret rfl rfl
      · rw [if_neg c5] at h
        refine g_aload_n 24 rfl rfl rfl ?_
        refine g_bipush (v := (-6)) 26 rfl (by decide) rfl ?_
        obtain ⟨q11, hq11, h⟩ := Option.bind_eq_some_iff.mp h
        refine g_callV (J := sm_I174) 29 rfl (Nat.le_of_ble_eq_true rfl) rfl rfl (Nat.le_of_ble_eq_true rfl) s_280 (Nat.le_of_ble_eq_true rfl) (Nat.le_of_ble_eq_true rfl) rfl rfl (F_174 (d + 4) ((-6)) hq11) ?_
        cases h
        exact g_iret rfl rfl
  · rw [if_pos c2] at h
    refine g_aload_n 9 rfl rfl rfl ?_
    refine g_iconst (v := (-1)) 10 rfl rfl rfl ?_
    obtain ⟨q12, hq12, h⟩ := Option.bind_eq_some_iff.mp h
    refine g_callV (J := sm_I174) 13 rfl (Nat.le_of_ble_eq_true rfl) rfl rfl (Nat.le_of_ble_eq_true rfl) s_280 (Nat.le_of_ble_eq_true rfl) (Nat.le_of_ble_eq_true rfl) rfl rfl (F_174 (d + 4) ((-1)) hq12) ?_
    cases h
    exact g_iret rfl rfl

def f_249_247 (k62 : Int32 → Int32 → Int32 → Int32 → sU → Option (Int32 × sU)) : Nat → Int32 → Int32 → Int32 → Int32 → Int32 → sU → Option (Int32 × sU)
  | 0, _, _, _, _, _, _ => none
  | n + 1, v1, v2, v3, v4, v6, U =>
    if v2 ≤ v6 then
      k62 v1 v2 v3 v4 U
    else
      if ib v6 12 then
      f_249_247 k62 n v1 v2 v3 v4 (v6 + 1) (sI U 307 v6.toNatClampNeg 0)
      else none
set_option maxRecDepth 10000 in
set_option maxHeartbeats 2000000 in
theorem F_249_247 (d : Nat) {k62 : Int32 → Int32 → Int32 → Int32 → sU → Option (Int32 × sU)} (hk62 : ∀ (v1 : Int32) (v2 : Int32) (v3 : Int32) (v4 : Int32) (U : sU) (r : Int32) (U' : sU), k62 v1 v2 v3 v4 U = some (r, U') → G (d + 3) sm_I249 62 [(0, .ref 280), (1, .int v1), (2, .int v2), (3, .int v3), (4, .int v4)] [] U (some (.int r)) U') : ∀ (n : Nat) (v1 : Int32) (v2 : Int32) (v3 : Int32) (v4 : Int32) (v6 : Int32) (U : sU) (r : Int32) (U' : sU), f_249_247 k62 n v1 v2 v3 v4 v6 U = some (r, U') → G (d + 3) sm_I249 247 [(0, .ref 280), (1, .int v1), (2, .int v2), (3, .int v3), (4, .int v4), (6, .int v6)] [] U (some (.int r)) U' := by
  intro n
  induction n with
  | zero => intro v1 v2 v3 v4 v6 U r U' h; cases h
  | succ n ih =>
    intro v1 v2 v3 v4 v6 U r U' h
    first | rw [f_249_247] at h | (rw [f_249_247.eq_def] at h; dsimp only at h)
    refine g_iload 249 rfl rfl rfl ?_
    refine g_iload_n 250 rfl rfl rfl ?_
    refine g_icmp_ge 267 253 rfl rfl (fun c1 => ?_) (fun c1 => ?_)
    · rw [if_pos c1] at h
      refine g_goto 62 rfl ?_
      exact g_sub (Sc rfl (Sc rfl (Sc rfl (Sc rfl (Sc rfl (Sn _)))))) (hk62 v1 v2 v3 v4 _ _ _ h)
    · rw [if_neg c1] at h
      refine g_aload_n 254 rfl rfl rfl ?_
      refine g_get 257 rfl s_280 (Nat.le_of_ble_eq_true rfl) rfl rfl ?_
      refine g_iload 259 rfl rfl rfl ?_
      refine g_iconst (v := 0) 260 rfl rfl rfl ?_
      by_cases i2 : ib v6 12
      case neg => rw [if_neg i2] at h; cases h
      rw [if_pos i2] at h
      refine g_iast 261 rfl s_307 l_307 i2 rfl ?_
      refine g_iinc (v := v6 + 1) 264 [(6, .int (v6 + 1)), (0, .ref 280), (1, .int v1), (2, .int v2), (3, .int v3), (4, .int v4)] rfl rfl (Nat.le_of_ble_eq_true rfl) rfl rfl rfl ?_
      refine g_goto 247 rfl ?_
      exact g_sub (Sc rfl (Sc rfl (Sc rfl (Sc rfl (Sc rfl (Sc rfl (Sn _))))))) (ih v1 v2 v3 v4 (v6 + 1) _ _ _ h)
def f_249_223 (k62 : Int32 → Int32 → Int32 → Int32 → sU → Option (Int32 × sU)) (v1 : Int32) (v2 : Int32) (v3 : Int32) (v5 : Int32) (z0 : Int32) (U : sU) : Option (Int32 × sU) :=
  if z0 = 0 then
    k62 v1 v2 v3 z0 U
  else
    if ib v5 12 then
    if ib v5 12 then
    f_249_247 k62 FU v1 v2 v3 z0 (v5 + 1) (sI U 307 v5.toNatClampNeg ((U.1 307 v5.toNatClampNeg) + 1))
    else none
    else none
set_option maxRecDepth 10000 in
set_option maxHeartbeats 2000000 in
theorem F_249_223 (d : Nat) {k62 : Int32 → Int32 → Int32 → Int32 → sU → Option (Int32 × sU)} (hk62 : ∀ (v1 : Int32) (v2 : Int32) (v3 : Int32) (v4 : Int32) (U : sU) (r : Int32) (U' : sU), k62 v1 v2 v3 v4 U = some (r, U') → G (d + 3) sm_I249 62 [(0, .ref 280), (1, .int v1), (2, .int v2), (3, .int v3), (4, .int v4)] [] U (some (.int r)) U') (v1 : Int32) (v2 : Int32) (v3 : Int32) (v5 : Int32) (z0 : Int32) {U : sU} {r : Int32} {U' : sU} (h : f_249_223 k62 v1 v2 v3 v5 z0 U = some (r, U')) : G (d + 3) sm_I249 223 [(0, .ref 280), (1, .int v1), (2, .int v2), (3, .int v3), (5, .int v5)] [.int z0] U (some (.int r)) U' := by
  first | rw [f_249_223] at h | rw [f_249_223.eq_def] at h
  refine g_istore 225 [(4, .int z0), (0, .ref 280), (1, .int v1), (2, .int v2), (3, .int v3), (5, .int v5)] rfl (Nat.le_of_ble_eq_true rfl) rfl rfl ?_
  refine g_iload 227 rfl rfl rfl ?_
  refine g_if_eq 267 230 rfl rfl (fun c3 => ?_) (fun c3 => ?_)
  · rw [if_pos c3] at h
    refine g_goto 62 rfl ?_
    exact g_sub (Sc rfl (Sc rfl (Sc rfl (Sc rfl (Sc rfl (Sn _)))))) (hk62 v1 v2 v3 z0 _ _ _ h)
  · rw [if_neg c3] at h
    refine g_aload_n 231 rfl rfl rfl ?_
    refine g_get 234 rfl s_280 (Nat.le_of_ble_eq_true rfl) rfl rfl ?_
    refine g_iload 236 rfl rfl rfl ?_
    refine g_dup2 237 rfl rfl rfl rfl ?_
    by_cases i4 : ib v5 12
    case neg => rw [if_neg i4] at h; cases h
    rw [if_pos i4] at h
    refine g_iald 238 rfl s_307 l_307 i4 rfl ?_
    refine g_iconst (v := 1) 239 rfl rfl rfl ?_
    refine g_iadd 240 rfl rfl ?_
    by_cases i5 : ib v5 12
    case neg => rw [if_neg i5] at h; cases h
    rw [if_pos i5] at h
    refine g_iast 241 rfl s_307 l_307 i5 rfl ?_
    refine g_iload 243 rfl rfl rfl ?_
    refine g_iconst (v := 1) 244 rfl rfl rfl ?_
    refine g_iadd 245 rfl rfl ?_
    refine g_istore 247 [(6, .int (v5 + 1)), (4, .int z0), (0, .ref 280), (1, .int v1), (2, .int v2), (3, .int v3), (5, .int v5)] rfl (Nat.le_of_ble_eq_true rfl) rfl rfl ?_
    exact g_sub (Sc rfl (Sc rfl (Sc rfl (Sc rfl (Sc rfl (Sc rfl (Sn _))))))) (F_249_247 d hk62 _ v1 v2 v3 z0 (v5 + 1) _ _ _ h)
def f_249_213 (k62 : Int32 → Int32 → Int32 → Int32 → sU → Option (Int32 × sU)) (v1 : Int32) (v2 : Int32) (v3 : Int32) (v5 : Int32) (U : sU) : Option (Int32 × sU) :=
  if v5 ≤ 0 then
    f_249_223 k62 v1 v2 v3 v5 0 U
  else
    f_249_223 k62 v1 v2 v3 v5 1 U
set_option maxRecDepth 10000 in
set_option maxHeartbeats 2000000 in
theorem F_249_213 (d : Nat) {k62 : Int32 → Int32 → Int32 → Int32 → sU → Option (Int32 × sU)} (hk62 : ∀ (v1 : Int32) (v2 : Int32) (v3 : Int32) (v4 : Int32) (U : sU) (r : Int32) (U' : sU), k62 v1 v2 v3 v4 U = some (r, U') → G (d + 3) sm_I249 62 [(0, .ref 280), (1, .int v1), (2, .int v2), (3, .int v3), (4, .int v4)] [] U (some (.int r)) U') (v1 : Int32) (v2 : Int32) (v3 : Int32) (v5 : Int32) {U : sU} {r : Int32} {U' : sU} (h : f_249_213 k62 v1 v2 v3 v5 U = some (r, U')) : G (d + 3) sm_I249 213 [(0, .ref 280), (1, .int v1), (2, .int v2), (3, .int v3), (5, .int v5)] [] U (some (.int r)) U' := by
  first | rw [f_249_213] at h | rw [f_249_213.eq_def] at h
  refine g_iload 215 rfl rfl rfl ?_
  refine g_if_le 222 218 rfl rfl (fun c6 => ?_) (fun c6 => ?_)
  · rw [if_pos c6] at h
    refine g_iconst (v := 0) 223 rfl rfl rfl ?_
    exact g_sub (Sc rfl (Sc rfl (Sc rfl (Sc rfl (Sc rfl (Sn _)))))) (F_249_223 d hk62 v1 v2 v3 v5 0 h)
  · rw [if_neg c6] at h
    refine g_iconst (v := 1) 219 rfl rfl rfl ?_
    refine g_goto 223 rfl ?_
    exact g_sub (Sc rfl (Sc rfl (Sc rfl (Sc rfl (Sc rfl (Sn _)))))) (F_249_223 d hk62 v1 v2 v3 v5 1 h)
def f_249_185 (k62 : Int32 → Int32 → Int32 → Int32 → sU → Option (Int32 × sU)) : Nat → Int32 → Int32 → Int32 → Int32 → sU → Option (Int32 × sU)
  | 0, _, _, _, _, _ => none
  | n + 1, v1, v2, v3, v5, U =>
    if v5 ≤ 0 then
      f_249_213 k62 v1 v2 v3 v5 U
    else
      if ib v5 12 then
      if ib v5 7 then
      if (U.1 307 v5.toNatClampNeg) ≤ (U.1 310 v5.toNatClampNeg) then
        f_249_213 k62 v1 v2 v3 v5 U
      else
        f_249_185 k62 n v1 v2 v3 (v5 + (-1)) U
      else none
      else none
set_option maxRecDepth 10000 in
set_option maxHeartbeats 2000000 in
theorem F_249_185 (d : Nat) {k62 : Int32 → Int32 → Int32 → Int32 → sU → Option (Int32 × sU)} (hk62 : ∀ (v1 : Int32) (v2 : Int32) (v3 : Int32) (v4 : Int32) (U : sU) (r : Int32) (U' : sU), k62 v1 v2 v3 v4 U = some (r, U') → G (d + 3) sm_I249 62 [(0, .ref 280), (1, .int v1), (2, .int v2), (3, .int v3), (4, .int v4)] [] U (some (.int r)) U') : ∀ (n : Nat) (v1 : Int32) (v2 : Int32) (v3 : Int32) (v5 : Int32) (U : sU) (r : Int32) (U' : sU), f_249_185 k62 n v1 v2 v3 v5 U = some (r, U') → G (d + 3) sm_I249 185 [(0, .ref 280), (1, .int v1), (2, .int v2), (3, .int v3), (5, .int v5)] [] U (some (.int r)) U' := by
  intro n
  induction n with
  | zero => intro v1 v2 v3 v5 U r U' h; cases h
  | succ n ih =>
    intro v1 v2 v3 v5 U r U' h
    first | rw [f_249_185] at h | (rw [f_249_185.eq_def] at h; dsimp only at h)
    refine g_iload 187 rfl rfl rfl ?_
    refine g_if_le 213 190 rfl rfl (fun c7 => ?_) (fun c7 => ?_)
    · rw [if_pos c7] at h
      exact g_sub (Sc rfl (Sc rfl (Sc rfl (Sc rfl (Sc rfl (Sn _)))))) (F_249_213 d hk62 v1 v2 v3 v5 h)
    · rw [if_neg c7] at h
      refine g_aload_n 191 rfl rfl rfl ?_
      refine g_get 194 rfl s_280 (Nat.le_of_ble_eq_true rfl) rfl rfl ?_
      refine g_iload 196 rfl rfl rfl ?_
      by_cases i8 : ib v5 12
      case neg => rw [if_neg i8] at h; cases h
      rw [if_pos i8] at h
      refine g_iald 197 rfl s_307 l_307 i8 rfl ?_
      refine g_aload_n 198 rfl rfl rfl ?_
      refine g_get 201 rfl s_280 (Nat.le_of_ble_eq_true rfl) rfl rfl ?_
      refine g_iload 203 rfl rfl rfl ?_
      by_cases i9 : ib v5 7
      case neg => rw [if_neg i9] at h; cases h
      rw [if_pos i9] at h
      refine g_iald 204 rfl s_310 l_310 i9 rfl ?_
      refine g_icmp_le 213 207 rfl rfl (fun c10 => ?_) (fun c10 => ?_)
      · rw [if_pos c10] at h
        exact g_sub (Sc rfl (Sc rfl (Sc rfl (Sc rfl (Sc rfl (Sn _)))))) (F_249_213 d hk62 v1 v2 v3 v5 h)
      · rw [if_neg c10] at h
        refine g_iinc (v := v5 + (-1)) 210 [(5, .int (v5 + (-1))), (0, .ref 280), (1, .int v1), (2, .int v2), (3, .int v3)] rfl rfl (Nat.le_of_ble_eq_true rfl) rfl rfl rfl ?_
        refine g_goto 185 rfl ?_
        exact g_sub (Sc rfl (Sc rfl (Sc rfl (Sc rfl (Sc rfl (Sn _)))))) (ih v1 v2 v3 (v5 + (-1)) _ _ _ h)
def f_249_77 (k62 : Int32 → Int32 → Int32 → Int32 → sU → Option (Int32 × sU)) : Nat → Int32 → Int32 → Int32 → Int32 → sU → Option (Int32 × sU)
  | 0, _, _, _, _, _ => none
  | n + 1, v1, v2, v3, v5, U =>
    if v2 ≤ v5 then
      if ib v2 7 then
      if ib v1 8 then
      if ((sI U 280 48 ((U.1 310 v2.toNatClampNeg) + 1)).1 291 v1.toNatClampNeg) < ((sI U 280 48 ((U.1 310 v2.toNatClampNeg) + 1)).1 280 48) then
        f_249_185 k62 FU v1 v2 v3 (v2 - 1) (sI U 280 48 ((U.1 310 v2.toNatClampNeg) + 1))
      else
        Option.bind (f_235 v1 (sI U 280 48 ((U.1 310 v2.toNatClampNeg) + 1))) fun q15 =>
        if ib v1 8 then
        Option.bind (f_237 v1 1 (q15.1 289 v1.toNatClampNeg) q15) fun q17 =>
        if q17 = 0 then
          f_249_185 k62 FU v1 v2 v3 (v2 - 1) q15
        else
          f_249_185 k62 FU v1 v2 (v3 + 1) (v2 - 1) q15
        else none
      else none
      else none
    else
      if ib v5 12 then
      if ib v5 7 then
      if (U.1 307 v5.toNatClampNeg) ≤ (U.1 310 v5.toNatClampNeg) then
        if ib v5 7 then
        if ib (v5 + 1) 7 then
        f_249_77 k62 n v1 v2 v3 (v5 + 1) (sI U 310 (v5 + 1).toNatClampNeg (U.1 310 v5.toNatClampNeg))
        else none
        else none
      else
        if ib v5 12 then
        if ib (v5 + 1) 7 then
        f_249_77 k62 n v1 v2 v3 (v5 + 1) (sI U 310 (v5 + 1).toNatClampNeg (U.1 307 v5.toNatClampNeg))
        else none
        else none
      else none
      else none
set_option maxRecDepth 10000 in
set_option maxHeartbeats 2000000 in
theorem F_249_77 (d : Nat) {k62 : Int32 → Int32 → Int32 → Int32 → sU → Option (Int32 × sU)} (hk62 : ∀ (v1 : Int32) (v2 : Int32) (v3 : Int32) (v4 : Int32) (U : sU) (r : Int32) (U' : sU), k62 v1 v2 v3 v4 U = some (r, U') → G (d + 3) sm_I249 62 [(0, .ref 280), (1, .int v1), (2, .int v2), (3, .int v3), (4, .int v4)] [] U (some (.int r)) U') : ∀ (n : Nat) (v1 : Int32) (v2 : Int32) (v3 : Int32) (v5 : Int32) (U : sU) (r : Int32) (U' : sU), f_249_77 k62 n v1 v2 v3 v5 U = some (r, U') → G (d + 3) sm_I249 77 [(0, .ref 280), (1, .int v1), (2, .int v2), (3, .int v3), (5, .int v5)] [] U (some (.int r)) U' := by
  intro n
  induction n with
  | zero => intro v1 v2 v3 v5 U r U' h; cases h
  | succ n ih =>
    intro v1 v2 v3 v5 U r U' h
    first | rw [f_249_77] at h | (rw [f_249_77.eq_def] at h; dsimp only at h)
    refine g_iload 79 rfl rfl rfl ?_
    refine g_iload_n 80 rfl rfl rfl ?_
    refine g_icmp_ge 132 83 rfl rfl (fun c11 => ?_) (fun c11 => ?_)
    · rw [if_pos c11] at h
      refine g_aload_n 133 rfl rfl rfl ?_
      refine g_aload_n 134 rfl rfl rfl ?_
      refine g_get 137 rfl s_280 (Nat.le_of_ble_eq_true rfl) rfl rfl ?_
      refine g_iload_n 138 rfl rfl rfl ?_
      by_cases i12 : ib v2 7
      case neg => rw [if_neg i12] at h; cases h
      rw [if_pos i12] at h
      refine g_iald 139 rfl s_310 l_310 i12 rfl ?_
      refine g_iconst (v := 1) 140 rfl rfl rfl ?_
      refine g_iadd 141 rfl rfl ?_
      refine g_putI 144 rfl s_280 (Nat.le_of_ble_eq_true rfl) (Nat.le_of_ble_eq_true rfl) rfl fs_10_48 rfl ?_
      refine g_aload_n 145 rfl rfl rfl ?_
      refine g_get 148 rfl s_280 (Nat.le_of_ble_eq_true rfl) rfl rfl ?_
      refine g_aload_n 149 rfl rfl rfl ?_
      refine g_get 152 rfl s_280 (Nat.le_of_ble_eq_true rfl) rfl rfl ?_
      refine g_iload_n 153 rfl rfl rfl ?_
      by_cases i13 : ib v1 8
      case neg => rw [if_neg i13] at h; cases h
      rw [if_pos i13] at h
      refine g_iald 154 rfl s_291 l_291 i13 rfl ?_
      refine g_icmp_gt 180 157 rfl rfl (fun c14 => ?_) (fun c14 => ?_)
      · rw [if_pos c14] at h
        refine g_iload_n 181 rfl rfl rfl ?_
        refine g_iconst (v := 1) 182 rfl rfl rfl ?_
        refine g_isub 183 rfl rfl ?_
        refine g_istore 185 [(5, .int (v2 - 1)), (0, .ref 280), (1, .int v1), (2, .int v2), (3, .int v3)] rfl (Nat.le_of_ble_eq_true rfl) rfl rfl ?_
        exact g_sub (Sc rfl (Sc rfl (Sc rfl (Sc rfl (Sc rfl (Sn _)))))) (F_249_185 d hk62 _ v1 v2 v3 (v2 - 1) _ _ _ h)
      · rw [if_neg c14] at h
        refine g_aload_n 158 rfl rfl rfl ?_
        refine g_iload_n 159 rfl rfl rfl ?_
        obtain ⟨q15, hq15, h⟩ := Option.bind_eq_some_iff.mp h
        refine g_callV (J := sm_I235) 162 rfl (Nat.le_of_ble_eq_true rfl) rfl rfl (Nat.le_of_ble_eq_true rfl) s_280 (Nat.le_of_ble_eq_true rfl) (Nat.le_of_ble_eq_true rfl) rfl rfl (F_235 d v1 hq15) ?_
        refine g_aload_n 163 rfl rfl rfl ?_
        refine g_iload_n 164 rfl rfl rfl ?_
        refine g_iconst (v := 1) 165 rfl rfl rfl ?_
        refine g_aload_n 166 rfl rfl rfl ?_
        refine g_get 169 rfl s_280 (Nat.le_of_ble_eq_true rfl) rfl rfl ?_
        refine g_iload_n 170 rfl rfl rfl ?_
        by_cases i16 : ib v1 8
        case neg => rw [if_neg i16] at h; cases h
        rw [if_pos i16] at h
        refine g_iald 171 rfl s_289 l_289 i16 rfl ?_
        obtain ⟨q17, hq17, h⟩ := Option.bind_eq_some_iff.mp h
        have r18 := (F_237 d v1 1 (q15.1 289 v1.toNatClampNeg) hq17)
        refine g_callV (J := sm_I237) 174 rfl (Nat.le_of_ble_eq_true rfl) rfl rfl (Nat.le_of_ble_eq_true rfl) s_280 (Nat.le_of_ble_eq_true rfl) (Nat.le_of_ble_eq_true rfl) rfl rfl r18 ?_
        refine g_if_eq 180 177 rfl rfl (fun c19 => ?_) (fun c19 => ?_)
        · rw [if_pos c19] at h
          refine g_iload_n 181 rfl rfl rfl ?_
          refine g_iconst (v := 1) 182 rfl rfl rfl ?_
          refine g_isub 183 rfl rfl ?_
          refine g_istore 185 [(5, .int (v2 - 1)), (0, .ref 280), (1, .int v1), (2, .int v2), (3, .int v3)] rfl (Nat.le_of_ble_eq_true rfl) rfl rfl ?_
          exact g_sub (Sc rfl (Sc rfl (Sc rfl (Sc rfl (Sc rfl (Sn _)))))) (F_249_185 d hk62 _ v1 v2 v3 (v2 - 1) _ _ _ h)
        · rw [if_neg c19] at h
          refine g_iinc (v := v3 + 1) 180 [(3, .int (v3 + 1)), (0, .ref 280), (1, .int v1), (2, .int v2), (5, .int v5)] rfl rfl (Nat.le_of_ble_eq_true rfl) rfl rfl rfl ?_
          refine g_iload_n 181 rfl rfl rfl ?_
          refine g_iconst (v := 1) 182 rfl rfl rfl ?_
          refine g_isub 183 rfl rfl ?_
          refine g_istore 185 [(5, .int (v2 - 1)), (3, .int (v3 + 1)), (0, .ref 280), (1, .int v1), (2, .int v2)] rfl (Nat.le_of_ble_eq_true rfl) rfl rfl ?_
          exact g_sub (Sc rfl (Sc rfl (Sc rfl (Sc rfl (Sc rfl (Sn _)))))) (F_249_185 d hk62 _ v1 v2 (v3 + 1) (v2 - 1) _ _ _ h)
    · rw [if_neg c11] at h
      refine g_aload_n 84 rfl rfl rfl ?_
      refine g_get 87 rfl s_280 (Nat.le_of_ble_eq_true rfl) rfl rfl ?_
      refine g_iload 89 rfl rfl rfl ?_
      refine g_iconst (v := 1) 90 rfl rfl rfl ?_
      refine g_iadd 91 rfl rfl ?_
      refine g_aload_n 92 rfl rfl rfl ?_
      refine g_get 95 rfl s_280 (Nat.le_of_ble_eq_true rfl) rfl rfl ?_
      refine g_iload 97 rfl rfl rfl ?_
      by_cases i20 : ib v5 12
      case neg => rw [if_neg i20] at h; cases h
      rw [if_pos i20] at h
      refine g_iald 98 rfl s_307 l_307 i20 rfl ?_
      refine g_aload_n 99 rfl rfl rfl ?_
      refine g_get 102 rfl s_280 (Nat.le_of_ble_eq_true rfl) rfl rfl ?_
      refine g_iload 104 rfl rfl rfl ?_
      by_cases i21 : ib v5 7
      case neg => rw [if_neg i21] at h; cases h
      rw [if_pos i21] at h
      refine g_iald 105 rfl s_310 l_310 i21 rfl ?_
      refine g_icmp_le 118 108 rfl rfl (fun c22 => ?_) (fun c22 => ?_)
      · rw [if_pos c22] at h
        refine g_aload_n 119 rfl rfl rfl ?_
        refine g_get 122 rfl s_280 (Nat.le_of_ble_eq_true rfl) rfl rfl ?_
        refine g_iload 124 rfl rfl rfl ?_
        by_cases i23 : ib v5 7
        case neg => rw [if_neg i23] at h; cases h
        rw [if_pos i23] at h
        refine g_iald 125 rfl s_310 l_310 i23 rfl ?_
        by_cases i24 : ib (v5 + 1) 7
        case neg => rw [if_neg i24] at h; cases h
        rw [if_pos i24] at h
        refine g_iast 126 rfl s_310 l_310 i24 rfl ?_
        refine g_iinc (v := v5 + 1) 129 [(5, .int (v5 + 1)), (0, .ref 280), (1, .int v1), (2, .int v2), (3, .int v3)] rfl rfl (Nat.le_of_ble_eq_true rfl) rfl rfl rfl ?_
        refine g_goto 77 rfl ?_
        exact g_sub (Sc rfl (Sc rfl (Sc rfl (Sc rfl (Sc rfl (Sn _)))))) (ih v1 v2 v3 (v5 + 1) _ _ _ h)
      · rw [if_neg c22] at h
        refine g_aload_n 109 rfl rfl rfl ?_
        refine g_get 112 rfl s_280 (Nat.le_of_ble_eq_true rfl) rfl rfl ?_
        refine g_iload 114 rfl rfl rfl ?_
        by_cases i25 : ib v5 12
        case neg => rw [if_neg i25] at h; cases h
        rw [if_pos i25] at h
        refine g_iald 115 rfl s_307 l_307 i25 rfl ?_
        refine g_goto 125 rfl ?_
        by_cases i26 : ib (v5 + 1) 7
        case neg => rw [if_neg i26] at h; cases h
        rw [if_pos i26] at h
        refine g_iast 126 rfl s_310 l_310 i26 rfl ?_
        refine g_iinc (v := v5 + 1) 129 [(5, .int (v5 + 1)), (0, .ref 280), (1, .int v1), (2, .int v2), (3, .int v3)] rfl rfl (Nat.le_of_ble_eq_true rfl) rfl rfl rfl ?_
        refine g_goto 77 rfl ?_
        exact g_sub (Sc rfl (Sc rfl (Sc rfl (Sc rfl (Sc rfl (Sn _)))))) (ih v1 v2 v3 (v5 + 1) _ _ _ h)
def f_249_62 : Nat → Int32 → Int32 → Int32 → Int32 → sU → Option (Int32 × sU)
  | 0, _, _, _, _, _ => none
  | n + 1, v1, v2, v3, v4, U =>
    if v4 = 0 then
      some (v3, U)
    else
      f_249_77 (fun v1 v2 v3 v4 U => f_249_62 n v1 v2 v3 v4 U) FU v1 v2 v3 0 (sI U 310 (0 : Int32).toNatClampNeg 0)
set_option maxRecDepth 10000 in
set_option maxHeartbeats 2000000 in
theorem F_249_62 (d : Nat)   : ∀ (n : Nat) (v1 : Int32) (v2 : Int32) (v3 : Int32) (v4 : Int32) (U : sU) (r : Int32) (U' : sU), f_249_62 n v1 v2 v3 v4 U = some (r, U') → G (d + 3) sm_I249 62 [(0, .ref 280), (1, .int v1), (2, .int v2), (3, .int v3), (4, .int v4)] [] U (some (.int r)) U' := by
  intro n
  induction n with
  | zero => intro v1 v2 v3 v4 U r U' h; cases h
  | succ n ih =>
    intro v1 v2 v3 v4 U r U' h
    first | rw [f_249_62] at h | (rw [f_249_62.eq_def] at h; dsimp only at h)
    refine g_iload 64 rfl rfl rfl ?_
    refine g_if_eq 270 67 rfl rfl (fun c27 => ?_) (fun c27 => ?_)
    · rw [if_pos c27] at h
      refine g_iload_n 271 rfl rfl rfl ?_
      cases h
      exact g_iret rfl rfl
    · rw [if_neg c27] at h
      refine g_aload_n 68 rfl rfl rfl ?_
      refine g_get 71 rfl s_280 (Nat.le_of_ble_eq_true rfl) rfl rfl ?_
      refine g_iconst (v := 0) 72 rfl rfl rfl ?_
      refine g_iconst (v := 0) 73 rfl rfl rfl ?_
      refine g_iast 74 rfl s_310 l_310 (by decide) rfl ?_
      refine g_iconst (v := 0) 75 rfl rfl rfl ?_
      refine g_istore 77 [(5, .int 0), (0, .ref 280), (1, .int v1), (2, .int v2), (3, .int v3), (4, .int v4)] rfl (Nat.le_of_ble_eq_true rfl) rfl rfl ?_
      exact g_sub (Sc rfl (Sc rfl (Sc rfl (Sc rfl (Sc rfl (Sn _)))))) (F_249_77 d (fun v1 v2 v3 v4 U r U' h => ih v1 v2 v3 v4 U r U' h) _ v1 v2 v3 0 _ _ _ h)
def f_249_39 : Nat → Int32 → Int32 → Int32 → Int32 → sU → Option (Int32 × sU)
  | 0, _, _, _, _, _ => none
  | n + 1, v1, v2, v3, v4, U =>
    if v2 ≤ v4 then
      f_249_62 FU v1 v2 v3 1 U
    else
      if ib v4 12 then
      f_249_39 n v1 v2 v3 (v4 + 1) (sI U 307 v4.toNatClampNeg 0)
      else none
set_option maxRecDepth 10000 in
set_option maxHeartbeats 2000000 in
theorem F_249_39 (d : Nat)   : ∀ (n : Nat) (v1 : Int32) (v2 : Int32) (v3 : Int32) (v4 : Int32) (U : sU) (r : Int32) (U' : sU), f_249_39 n v1 v2 v3 v4 U = some (r, U') → G (d + 3) sm_I249 39 [(0, .ref 280), (1, .int v1), (2, .int v2), (3, .int v3), (4, .int v4)] [] U (some (.int r)) U' := by
  intro n
  induction n with
  | zero => intro v1 v2 v3 v4 U r U' h; cases h
  | succ n ih =>
    intro v1 v2 v3 v4 U r U' h
    first | rw [f_249_39] at h | (rw [f_249_39.eq_def] at h; dsimp only at h)
    refine g_iload 41 rfl rfl rfl ?_
    refine g_iload_n 42 rfl rfl rfl ?_
    refine g_icmp_ge 59 45 rfl rfl (fun c29 => ?_) (fun c29 => ?_)
    · rw [if_pos c29] at h
      refine g_iconst (v := 1) 60 rfl rfl rfl ?_
      refine g_istore 62 [(4, .int 1), (0, .ref 280), (1, .int v1), (2, .int v2), (3, .int v3)] rfl (Nat.le_of_ble_eq_true rfl) rfl rfl ?_
      exact g_sub (Sc rfl (Sc rfl (Sc rfl (Sc rfl (Sc rfl (Sn _)))))) (F_249_62 d _ v1 v2 v3 1 _ _ _ h)
    · rw [if_neg c29] at h
      refine g_aload_n 46 rfl rfl rfl ?_
      refine g_get 49 rfl s_280 (Nat.le_of_ble_eq_true rfl) rfl rfl ?_
      refine g_iload 51 rfl rfl rfl ?_
      refine g_iconst (v := 0) 52 rfl rfl rfl ?_
      by_cases i30 : ib v4 12
      case neg => rw [if_neg i30] at h; cases h
      rw [if_pos i30] at h
      refine g_iast 53 rfl s_307 l_307 i30 rfl ?_
      refine g_iinc (v := v4 + 1) 56 [(4, .int (v4 + 1)), (0, .ref 280), (1, .int v1), (2, .int v2), (3, .int v3)] rfl rfl (Nat.le_of_ble_eq_true rfl) rfl rfl rfl ?_
      refine g_goto 39 rfl ?_
      exact g_sub (Sc rfl (Sc rfl (Sc rfl (Sc rfl (Sc rfl (Sn _)))))) (ih v1 v2 v3 (v4 + 1) _ _ _ h)
def f_249 (x1 : Int32) (U : sU) : Option (Int32 × sU) :=
  if (f_178 x1 U) = 0 then
    Option.bind (f_174 ((-1)) U) fun q36 =>
    some (q36.1, q36.2)
  else
    if ib x1 8 then
    if (U.1 288 x1.toNatClampNeg) ≤ 6 then
      f_249_39 FU x1 (U.1 288 x1.toNatClampNeg) 0 0 U
    else
      Option.bind (f_174 ((-6)) U) fun q35 =>
      some (q35.1, q35.2)
    else none
set_option maxRecDepth 10000 in
set_option maxHeartbeats 2000000 in
theorem F_249 (d : Nat) (x1 : Int32) {U : sU} {r : Int32} {U' : sU} (h : f_249 x1 U = some (r, U')) : Rn (d + 3) sm_I249 [.ref 280, .int x1] U (some (.int r)) U' := by
  refine Rn_of [(0, .ref 280), (1, .int x1)] (Nat.le_of_ble_eq_true rfl) (Sc rfl (Sc rfl (Sn _))) ?_
  first | rw [f_249] at h | rw [f_249.eq_def] at h
  refine g_aload_n 1 rfl rfl rfl ?_
  refine g_iload_n 2 rfl rfl rfl ?_
  have r31 := F_178 (d + 2) x1 U
  refine g_callV (J := sm_I178) 5 rfl (Nat.le_of_ble_eq_true rfl) rfl rfl (Nat.le_of_ble_eq_true rfl) s_280 (Nat.le_of_ble_eq_true rfl) (Nat.le_of_ble_eq_true rfl) rfl rfl r31 ?_
  refine g_if_ne 14 8 rfl rfl (fun c32 => ?_) (fun c32 => ?_)
  · rw [if_neg c32] at h
    refine g_aload_n 15 rfl rfl rfl ?_
    refine g_get 18 rfl s_280 (Nat.le_of_ble_eq_true rfl) rfl rfl ?_
    refine g_iload_n 19 rfl rfl rfl ?_
    by_cases i33 : ib x1 8
    case neg => rw [if_neg i33] at h; cases h
    rw [if_pos i33] at h
    refine g_iald 20 rfl s_288 l_288 i33 rfl ?_
    refine g_istore_n 21 [(2, .int (U.1 288 x1.toNatClampNeg)), (0, .ref 280), (1, .int x1)] rfl (Nat.le_of_ble_eq_true rfl) rfl rfl ?_
    refine g_iload_n 22 rfl rfl rfl ?_
    refine g_bipush (v := 6) 24 rfl (by decide) rfl ?_
    refine g_icmp_le 34 27 rfl rfl (fun c34 => ?_) (fun c34 => ?_)
    · rw [if_pos c34] at h
      refine g_iconst (v := 0) 35 rfl rfl rfl ?_
      refine g_istore_n 36 [(3, .int 0), (2, .int (U.1 288 x1.toNatClampNeg)), (0, .ref 280), (1, .int x1)] rfl (Nat.le_of_ble_eq_true rfl) rfl rfl ?_
      refine g_iconst (v := 0) 37 rfl rfl rfl ?_
      refine g_istore 39 [(4, .int 0), (3, .int 0), (2, .int (U.1 288 x1.toNatClampNeg)), (0, .ref 280), (1, .int x1)] rfl (Nat.le_of_ble_eq_true rfl) rfl rfl ?_
      exact g_sub (Sc rfl (Sc rfl (Sc rfl (Sc rfl (Sc rfl (Sn _)))))) (F_249_39 d _ x1 (U.1 288 x1.toNatClampNeg) 0 0 _ _ _ h)
    · rw [if_neg c34] at h
      refine g_aload_n 28 rfl rfl rfl ?_
      refine g_bipush (v := (-6)) 30 rfl (by decide) rfl ?_
      obtain ⟨q35, hq35, h⟩ := Option.bind_eq_some_iff.mp h
      refine g_callV (J := sm_I174) 33 rfl (Nat.le_of_ble_eq_true rfl) rfl rfl (Nat.le_of_ble_eq_true rfl) s_280 (Nat.le_of_ble_eq_true rfl) (Nat.le_of_ble_eq_true rfl) rfl rfl (F_174 (d + 2) ((-6)) hq35) ?_
      cases h
      exact g_iret rfl rfl
  · rw [if_pos c32] at h
    refine g_aload_n 9 rfl rfl rfl ?_
    refine g_iconst (v := (-1)) 10 rfl rfl rfl ?_
    obtain ⟨q36, hq36, h⟩ := Option.bind_eq_some_iff.mp h
    refine g_callV (J := sm_I174) 13 rfl (Nat.le_of_ble_eq_true rfl) rfl rfl (Nat.le_of_ble_eq_true rfl) s_280 (Nat.le_of_ble_eq_true rfl) (Nat.le_of_ble_eq_true rfl) rfl rfl (F_174 (d + 2) ((-1)) hq36) ?_
    cases h
    exact g_iret rfl rfl

def f_250_93 (k49 : Int32 → Int32 → Int32 → Int32 → sU → Option (Int32 × sU)) : Nat → Int32 → Int32 → Int32 → Int32 → Int32 → sU → Option (Int32 × sU)
  | 0, _, _, _, _, _, _ => none
  | n + 1, v1, v2, v3, v4, v5, U =>
    if v5 ≤ v3 then
      k49 v1 v2 v5 (v4 + 1) U
    else
      Option.bind (f_237 v1 1 v5 U) fun q2 =>
      if q2 = 0 then
        f_250_93 k49 n v1 v2 v3 v4 (v5 + (-1)) U
      else
        k49 v1 v2 v5 (v4 + 1) U
set_option maxRecDepth 10000 in
set_option maxHeartbeats 2000000 in
theorem F_250_93 (d : Nat) {k49 : Int32 → Int32 → Int32 → Int32 → sU → Option (Int32 × sU)} (hk49 : ∀ (v1 : Int32) (v2 : Int32) (v3 : Int32) (v4 : Int32) (U : sU) (r : Int32) (U' : sU), k49 v1 v2 v3 v4 U = some (r, U') → G (d + 3) sm_I250 49 [(0, .ref 280), (1, .int v1), (2, .int v2), (3, .int v3), (4, .int v4)] [] U (some (.int r)) U') : ∀ (n : Nat) (v1 : Int32) (v2 : Int32) (v3 : Int32) (v4 : Int32) (v5 : Int32) (U : sU) (r : Int32) (U' : sU), f_250_93 k49 n v1 v2 v3 v4 v5 U = some (r, U') → G (d + 3) sm_I250 93 [(0, .ref 280), (1, .int v1), (2, .int v2), (3, .int v3), (4, .int v4), (5, .int v5)] [] U (some (.int r)) U' := by
  intro n
  induction n with
  | zero => intro v1 v2 v3 v4 v5 U r U' h; cases h
  | succ n ih =>
    intro v1 v2 v3 v4 v5 U r U' h
    first | rw [f_250_93] at h | (rw [f_250_93.eq_def] at h; dsimp only at h)
    refine g_iload 95 rfl rfl rfl ?_
    refine g_iload_n 96 rfl rfl rfl ?_
    refine g_icmp_le 116 99 rfl rfl (fun c1 => ?_) (fun c1 => ?_)
    · rw [if_pos c1] at h
      refine g_iload 118 rfl rfl rfl ?_
      refine g_istore_n 119 [(3, .int v5), (0, .ref 280), (1, .int v1), (2, .int v2), (4, .int v4), (5, .int v5)] rfl (Nat.le_of_ble_eq_true rfl) rfl rfl ?_
      refine g_iinc (v := v4 + 1) 122 [(4, .int (v4 + 1)), (3, .int v5), (0, .ref 280), (1, .int v1), (2, .int v2), (5, .int v5)] rfl rfl (Nat.le_of_ble_eq_true rfl) rfl rfl rfl ?_
      refine g_goto 49 rfl ?_
      exact g_sub (Sc rfl (Sc rfl (Sc rfl (Sc rfl (Sc rfl (Sn _)))))) (hk49 v1 v2 v5 (v4 + 1) _ _ _ h)
    · rw [if_neg c1] at h
      refine g_aload_n 100 rfl rfl rfl ?_
      refine g_iload_n 101 rfl rfl rfl ?_
      refine g_iconst (v := 1) 102 rfl rfl rfl ?_
      refine g_iload 104 rfl rfl rfl ?_
      obtain ⟨q2, hq2, h⟩ := Option.bind_eq_some_iff.mp h
      have r3 := (F_237 d v1 1 v5 hq2)
      refine g_callV (J := sm_I237) 107 rfl (Nat.le_of_ble_eq_true rfl) rfl rfl (Nat.le_of_ble_eq_true rfl) s_280 (Nat.le_of_ble_eq_true rfl) (Nat.le_of_ble_eq_true rfl) rfl rfl r3 ?_
      refine g_if_ne 116 110 rfl rfl (fun c4 => ?_) (fun c4 => ?_)
      · rw [if_neg c4] at h
        refine g_iload 118 rfl rfl rfl ?_
        refine g_istore_n 119 [(3, .int v5), (0, .ref 280), (1, .int v1), (2, .int v2), (4, .int v4), (5, .int v5)] rfl (Nat.le_of_ble_eq_true rfl) rfl rfl ?_
        refine g_iinc (v := v4 + 1) 122 [(4, .int (v4 + 1)), (3, .int v5), (0, .ref 280), (1, .int v1), (2, .int v2), (5, .int v5)] rfl rfl (Nat.le_of_ble_eq_true rfl) rfl rfl rfl ?_
        refine g_goto 49 rfl ?_
        exact g_sub (Sc rfl (Sc rfl (Sc rfl (Sc rfl (Sc rfl (Sn _)))))) (hk49 v1 v2 v5 (v4 + 1) _ _ _ h)
      · rw [if_pos c4] at h
        refine g_iinc (v := v5 + (-1)) 113 [(5, .int (v5 + (-1))), (0, .ref 280), (1, .int v1), (2, .int v2), (3, .int v3), (4, .int v4)] rfl rfl (Nat.le_of_ble_eq_true rfl) rfl rfl rfl ?_
        refine g_goto 93 rfl ?_
        exact g_sub (Sc rfl (Sc rfl (Sc rfl (Sc rfl (Sc rfl (Sc rfl (Sn _))))))) (ih v1 v2 v3 v4 (v5 + (-1)) _ _ _ h)
def f_250_49 : Nat → Int32 → Int32 → Int32 → Int32 → sU → Option (Int32 × sU)
  | 0, _, _, _, _, _ => none
  | n + 1, v1, v2, v3, v4, U =>
    Option.bind (f_239 v1 U) fun q5 =>
    if q5 ≤ v4 then
      some (v3, U)
    else
      if 63 ≤ v3 then
        some (v3, U)
      else
        Option.bind (f_214 v4 U) fun q8 =>
        if (q8 + 1) = v2 then
          Option.bind (f_234 v1 v4 U) fun q10 =>
          Option.bind (f_235 v1 q10) fun q11 =>
          f_250_93 (fun v1 v2 v3 v4 U => f_250_49 n v1 v2 v3 v4 U) FU v1 v2 v3 v4 63 q11
        else
          f_250_49 n v1 v2 v3 (v4 + 1) U
set_option maxRecDepth 10000 in
set_option maxHeartbeats 2000000 in
theorem F_250_49 (d : Nat)   : ∀ (n : Nat) (v1 : Int32) (v2 : Int32) (v3 : Int32) (v4 : Int32) (U : sU) (r : Int32) (U' : sU), f_250_49 n v1 v2 v3 v4 U = some (r, U') → G (d + 3) sm_I250 49 [(0, .ref 280), (1, .int v1), (2, .int v2), (3, .int v3), (4, .int v4)] [] U (some (.int r)) U' := by
  intro n
  induction n with
  | zero => intro v1 v2 v3 v4 U r U' h; cases h
  | succ n ih =>
    intro v1 v2 v3 v4 U r U' h
    first | rw [f_250_49] at h | (rw [f_250_49.eq_def] at h; dsimp only at h)
    refine g_iload 51 rfl rfl rfl ?_
    refine g_aload_n 52 rfl rfl rfl ?_
    refine g_iload_n 53 rfl rfl rfl ?_
    obtain ⟨q5, hq5, h⟩ := Option.bind_eq_some_iff.mp h
    refine g_callV (J := sm_I239) 56 rfl (Nat.le_of_ble_eq_true rfl) rfl rfl (Nat.le_of_ble_eq_true rfl) s_280 (Nat.le_of_ble_eq_true rfl) (Nat.le_of_ble_eq_true rfl) rfl rfl (F_239 (d + 2) v1 hq5) ?_
    refine g_icmp_ge 125 59 rfl rfl (fun c6 => ?_) (fun c6 => ?_)
    · rw [if_pos c6] at h
      refine g_iload_n 126 rfl rfl rfl ?_
      cases h
      exact g_iret rfl rfl
    · rw [if_neg c6] at h
      refine g_iload_n 60 rfl rfl rfl ?_
      refine g_bipush (v := 63) 62 rfl (by decide) rfl ?_
      refine g_icmp_ge 125 65 rfl rfl (fun c7 => ?_) (fun c7 => ?_)
      · rw [if_pos c7] at h
        refine g_iload_n 126 rfl rfl rfl ?_
        cases h
        exact g_iret rfl rfl
      · rw [if_neg c7] at h
        refine g_aload_n 66 rfl rfl rfl ?_
        refine g_iload 68 rfl rfl rfl ?_
        obtain ⟨q8, hq8, h⟩ := Option.bind_eq_some_iff.mp h
        refine g_callV (J := sm_I214) 71 rfl (Nat.le_of_ble_eq_true rfl) rfl rfl (Nat.le_of_ble_eq_true rfl) s_280 (Nat.le_of_ble_eq_true rfl) (Nat.le_of_ble_eq_true rfl) rfl rfl (F_214 (d + 2) v4 hq8) ?_
        refine g_iconst (v := 1) 72 rfl rfl rfl ?_
        refine g_iadd 73 rfl rfl ?_
        refine g_iload_n 74 rfl rfl rfl ?_
        refine g_icmp_ne 119 77 rfl rfl (fun c9 => ?_) (fun c9 => ?_)
        · rw [if_neg c9] at h
          refine g_iinc (v := v4 + 1) 122 [(4, .int (v4 + 1)), (0, .ref 280), (1, .int v1), (2, .int v2), (3, .int v3)] rfl rfl (Nat.le_of_ble_eq_true rfl) rfl rfl rfl ?_
          refine g_goto 49 rfl ?_
          exact g_sub (Sc rfl (Sc rfl (Sc rfl (Sc rfl (Sc rfl (Sn _)))))) (ih v1 v2 v3 (v4 + 1) _ _ _ h)
        · rw [if_pos c9] at h
          refine g_aload_n 78 rfl rfl rfl ?_
          refine g_iload_n 79 rfl rfl rfl ?_
          refine g_iload 81 rfl rfl rfl ?_
          obtain ⟨q10, hq10, h⟩ := Option.bind_eq_some_iff.mp h
          refine g_callV (J := sm_I234) 84 rfl (Nat.le_of_ble_eq_true rfl) rfl rfl (Nat.le_of_ble_eq_true rfl) s_280 (Nat.le_of_ble_eq_true rfl) (Nat.le_of_ble_eq_true rfl) rfl rfl (F_234 (d + 2) v1 v4 hq10) ?_
          refine g_aload_n 85 rfl rfl rfl ?_
          refine g_iload_n 86 rfl rfl rfl ?_
          obtain ⟨q11, hq11, h⟩ := Option.bind_eq_some_iff.mp h
          refine g_callV (J := sm_I235) 89 rfl (Nat.le_of_ble_eq_true rfl) rfl rfl (Nat.le_of_ble_eq_true rfl) s_280 (Nat.le_of_ble_eq_true rfl) (Nat.le_of_ble_eq_true rfl) rfl rfl (F_235 d v1 hq11) ?_
          refine g_bipush (v := 63) 91 rfl (by decide) rfl ?_
          refine g_istore 93 [(5, .int 63), (0, .ref 280), (1, .int v1), (2, .int v2), (3, .int v3), (4, .int v4)] rfl (Nat.le_of_ble_eq_true rfl) rfl rfl ?_
          exact g_sub (Sc rfl (Sc rfl (Sc rfl (Sc rfl (Sc rfl (Sc rfl (Sn _))))))) (F_250_93 d (fun v1 v2 v3 v4 U r U' h => ih v1 v2 v3 v4 U r U' h) _ v1 v2 v3 v4 63 _ _ _ h)
def f_250 (x1 : Int32) (x2 : Int32) (U : sU) : Option (Int32 × sU) :=
  if (f_178 x1 U) = 0 then
    Option.bind (f_176 ((-1)) U) fun q20 =>
    some (q20.1, q20.2)
  else
    if x2 < 1 then
      Option.bind (f_176 ((-6)) U) fun q15 =>
      some (q15.1, q15.2)
    else
      if x2 ≤ 12 then
        if ib x1 8 then
        if x2 ≤ (U.1 291 x1.toNatClampNeg) then
          f_250_49 FU x1 x2 ((-1)) 0 U
        else
          some ((-1), U)
        else none
      else
        Option.bind (f_176 ((-6)) U) fun q19 =>
        some (q19.1, q19.2)
set_option maxRecDepth 10000 in
set_option maxHeartbeats 2000000 in
theorem F_250 (d : Nat) (x1 : Int32) (x2 : Int32) {U : sU} {r : Int32} {U' : sU} (h : f_250 x1 x2 U = some (r, U')) : Rn (d + 3) sm_I250 [.ref 280, .int x1, .int x2] U (some (.int r)) U' := by
  refine Rn_of [(0, .ref 280), (1, .int x1), (2, .int x2)] (Nat.le_of_ble_eq_true rfl) (Sc rfl (Sc rfl (Sc rfl (Sn _)))) ?_
  first | rw [f_250] at h | rw [f_250.eq_def] at h
  refine g_aload_n 1 rfl rfl rfl ?_
  refine g_iload_n 2 rfl rfl rfl ?_
  have r12 := F_178 (d + 2) x1 U
  refine g_callV (J := sm_I178) 5 rfl (Nat.le_of_ble_eq_true rfl) rfl rfl (Nat.le_of_ble_eq_true rfl) s_280 (Nat.le_of_ble_eq_true rfl) (Nat.le_of_ble_eq_true rfl) rfl rfl r12 ?_
  refine g_if_ne 14 8 rfl rfl (fun c13 => ?_) (fun c13 => ?_)
  · rw [if_neg c13] at h
    refine g_iload_n 15 rfl rfl rfl ?_
    refine g_iconst (v := 1) 16 rfl rfl rfl ?_
    refine g_icmp_lt 25 19 rfl rfl (fun c14 => ?_) (fun c14 => ?_)
    · rw [if_pos c14] at h
      refine g_aload_n 26 rfl rfl rfl ?_
      refine g_bipush (v := (-6)) 28 rfl (by decide) rfl ?_
      obtain ⟨q15, hq15, h⟩ := Option.bind_eq_some_iff.mp h
      refine g_callV (J := sm_I176) 31 rfl (Nat.le_of_ble_eq_true rfl) rfl rfl (Nat.le_of_ble_eq_true rfl) s_280 (Nat.le_of_ble_eq_true rfl) (Nat.le_of_ble_eq_true rfl) rfl rfl (F_176 (d + 2) ((-6)) hq15) ?_
      cases h
      exact g_iret rfl rfl
    · rw [if_neg c14] at h
      refine g_iload_n 20 rfl rfl rfl ?_
      refine g_bipush (v := 12) 22 rfl (by decide) rfl ?_
      refine g_icmp_le 32 25 rfl rfl (fun c16 => ?_) (fun c16 => ?_)
      · rw [if_pos c16] at h
        refine g_iload_n 33 rfl rfl rfl ?_
        refine g_aload_n 34 rfl rfl rfl ?_
        refine g_get 37 rfl s_280 (Nat.le_of_ble_eq_true rfl) rfl rfl ?_
        refine g_iload_n 38 rfl rfl rfl ?_
        by_cases i17 : ib x1 8
        case neg => rw [if_neg i17] at h; cases h
        rw [if_pos i17] at h
        refine g_iald 39 rfl s_291 l_291 i17 rfl ?_
        refine g_icmp_le 44 42 rfl rfl (fun c18 => ?_) (fun c18 => ?_)
        · rw [if_pos c18] at h
          refine g_iconst (v := (-1)) 45 rfl rfl rfl ?_
          refine g_istore_n 46 [(3, .int ((-1))), (0, .ref 280), (1, .int x1), (2, .int x2)] rfl (Nat.le_of_ble_eq_true rfl) rfl rfl ?_
          refine g_iconst (v := 0) 47 rfl rfl rfl ?_
          refine g_istore 49 [(4, .int 0), (3, .int ((-1))), (0, .ref 280), (1, .int x1), (2, .int x2)] rfl (Nat.le_of_ble_eq_true rfl) rfl rfl ?_
          exact g_sub (Sc rfl (Sc rfl (Sc rfl (Sc rfl (Sc rfl (Sn _)))))) (F_250_49 d _ x1 x2 ((-1)) 0 _ _ _ h)
        · rw [if_neg c18] at h
          refine g_iconst (v := (-1)) 43 rfl rfl rfl ?_
          cases h
          exact g_iret rfl rfl
      · rw [if_neg c16] at h
        refine g_aload_n 26 rfl rfl rfl ?_
        refine g_bipush (v := (-6)) 28 rfl (by decide) rfl ?_
        obtain ⟨q19, hq19, h⟩ := Option.bind_eq_some_iff.mp h
        refine g_callV (J := sm_I176) 31 rfl (Nat.le_of_ble_eq_true rfl) rfl rfl (Nat.le_of_ble_eq_true rfl) s_280 (Nat.le_of_ble_eq_true rfl) (Nat.le_of_ble_eq_true rfl) rfl rfl (F_176 (d + 2) ((-6)) hq19) ?_
        cases h
        exact g_iret rfl rfl
  · rw [if_pos c13] at h
    refine g_aload_n 9 rfl rfl rfl ?_
    refine g_iconst (v := (-1)) 10 rfl rfl rfl ?_
    obtain ⟨q20, hq20, h⟩ := Option.bind_eq_some_iff.mp h
    refine g_callV (J := sm_I176) 13 rfl (Nat.le_of_ble_eq_true rfl) rfl rfl (Nat.le_of_ble_eq_true rfl) s_280 (Nat.le_of_ble_eq_true rfl) (Nat.le_of_ble_eq_true rfl) rfl rfl (F_176 (d + 2) ((-1)) hq20) ?_
    cases h
    exact g_iret rfl rfl

def f_251 (x1 : Int32) (U : sU) : Option (Int32 × sU) :=
  if (f_178 x1 U) = 0 then
    Option.bind (f_174 ((-1)) U) fun q8 =>
    some (q8.1, q8.2)
  else
    if ib x1 8 then
    if (U.1 293 x1.toNatClampNeg) = 0 then
      Option.bind (f_174 ((-6)) U) fun q7 =>
      some (q7.1, q7.2)
    else
      Option.bind (f_244 x1 3 U) fun q5 =>
      Option.bind (f_214 q5.1 q5.2) fun q6 =>
      some (q6 + 1, q5.2)
    else none
set_option maxRecDepth 10000 in
set_option maxHeartbeats 2000000 in
theorem F_251 (d : Nat) (x1 : Int32) {U : sU} {r : Int32} {U' : sU} (h : f_251 x1 U = some (r, U')) : Rn (d + 5) sm_I251 [.ref 280, .int x1] U (some (.int r)) U' := by
  refine Rn_of [(0, .ref 280), (1, .int x1)] (Nat.le_of_ble_eq_true rfl) (Sc rfl (Sc rfl (Sn _))) ?_
  first | rw [f_251] at h | rw [f_251.eq_def] at h
  refine g_aload_n 1 rfl rfl rfl ?_
  refine g_iload_n 2 rfl rfl rfl ?_
  have r1 := F_178 (d + 4) x1 U
  refine g_callV (J := sm_I178) 5 rfl (Nat.le_of_ble_eq_true rfl) rfl rfl (Nat.le_of_ble_eq_true rfl) s_280 (Nat.le_of_ble_eq_true rfl) (Nat.le_of_ble_eq_true rfl) rfl rfl r1 ?_
  refine g_if_ne 14 8 rfl rfl (fun c2 => ?_) (fun c2 => ?_)
  · rw [if_neg c2] at h
    refine g_aload_n 15 rfl rfl rfl ?_
    refine g_get 18 rfl s_280 (Nat.le_of_ble_eq_true rfl) rfl rfl ?_
    refine g_iload_n 19 rfl rfl rfl ?_
    by_cases i3 : ib x1 8
    case neg => rw [if_neg i3] at h; cases h
    rw [if_pos i3] at h
    refine g_iald 20 rfl s_293 l_293 i3 rfl ?_
    refine g_if_ne 30 23 rfl rfl (fun c4 => ?_) (fun c4 => ?_)
    · rw [if_neg c4] at h
      refine g_aload_n 31 rfl rfl rfl ?_
      refine g_aload_n 32 rfl rfl rfl ?_
      refine g_iload_n 33 rfl rfl rfl ?_
      refine g_iconst (v := 3) 34 rfl rfl rfl ?_
      obtain ⟨q5, hq5, h⟩ := Option.bind_eq_some_iff.mp h
      refine g_callV (J := sm_I244) 37 rfl (Nat.le_of_ble_eq_true rfl) rfl rfl (Nat.le_of_ble_eq_true rfl) s_280 (Nat.le_of_ble_eq_true rfl) (Nat.le_of_ble_eq_true rfl) rfl rfl (F_244 d x1 3 hq5) ?_
      obtain ⟨q6, hq6, h⟩ := Option.bind_eq_some_iff.mp h
      refine g_callV (J := sm_I214) 40 rfl (Nat.le_of_ble_eq_true rfl) rfl rfl (Nat.le_of_ble_eq_true rfl) s_280 (Nat.le_of_ble_eq_true rfl) (Nat.le_of_ble_eq_true rfl) rfl rfl (F_214 (d + 4) q5.1 hq6) ?_
      refine g_iconst (v := 1) 41 rfl rfl rfl ?_
      refine g_iadd 42 rfl rfl ?_
      cases h
      exact g_iret rfl rfl
    · rw [if_pos c4] at h
      refine g_aload_n 24 rfl rfl rfl ?_
      refine g_bipush (v := (-6)) 26 rfl (by decide) rfl ?_
      obtain ⟨q7, hq7, h⟩ := Option.bind_eq_some_iff.mp h
      refine g_callV (J := sm_I174) 29 rfl (Nat.le_of_ble_eq_true rfl) rfl rfl (Nat.le_of_ble_eq_true rfl) s_280 (Nat.le_of_ble_eq_true rfl) (Nat.le_of_ble_eq_true rfl) rfl rfl (F_174 (d + 4) ((-6)) hq7) ?_
      cases h
      exact g_iret rfl rfl
  · rw [if_pos c2] at h
    refine g_aload_n 9 rfl rfl rfl ?_
    refine g_iconst (v := (-1)) 10 rfl rfl rfl ?_
    obtain ⟨q8, hq8, h⟩ := Option.bind_eq_some_iff.mp h
    refine g_callV (J := sm_I174) 13 rfl (Nat.le_of_ble_eq_true rfl) rfl rfl (Nat.le_of_ble_eq_true rfl) s_280 (Nat.le_of_ble_eq_true rfl) (Nat.le_of_ble_eq_true rfl) rfl rfl (F_174 (d + 4) ((-1)) hq8) ?_
    cases h
    exact g_iret rfl rfl

def f_252 (x1 : Int32) (U : sU) : Option (Int32 × sU) :=
  if (f_178 x1 U) = 0 then
    Option.bind (f_174 ((-1)) U) fun q10 =>
    some (q10.1, q10.2)
  else
    if ib x1 8 then
    if (U.1 293 x1.toNatClampNeg) = 0 then
      Option.bind (f_174 ((-6)) U) fun q9 =>
      some (q9.1, q9.2)
    else
      Option.bind (f_244 x1 2 U) fun q5 =>
      Option.bind (f_214 q5.1 q5.2) fun q6 =>
      Option.bind (f_244 x1 1 q5.2) fun q7 =>
      Option.bind (f_214 q7.1 q7.2) fun q8 =>
      some (((100 * (q6 + 1)) + q8) + 1, q7.2)
    else none
set_option maxRecDepth 10000 in
set_option maxHeartbeats 2000000 in
theorem F_252 (d : Nat) (x1 : Int32) {U : sU} {r : Int32} {U' : sU} (h : f_252 x1 U = some (r, U')) : Rn (d + 5) sm_I252 [.ref 280, .int x1] U (some (.int r)) U' := by
  refine Rn_of [(0, .ref 280), (1, .int x1)] (Nat.le_of_ble_eq_true rfl) (Sc rfl (Sc rfl (Sn _))) ?_
  first | rw [f_252] at h | rw [f_252.eq_def] at h
  refine g_aload_n 1 rfl rfl rfl ?_
  refine g_iload_n 2 rfl rfl rfl ?_
  have r1 := F_178 (d + 4) x1 U
  refine g_callV (J := sm_I178) 5 rfl (Nat.le_of_ble_eq_true rfl) rfl rfl (Nat.le_of_ble_eq_true rfl) s_280 (Nat.le_of_ble_eq_true rfl) (Nat.le_of_ble_eq_true rfl) rfl rfl r1 ?_
  refine g_if_ne 14 8 rfl rfl (fun c2 => ?_) (fun c2 => ?_)
  · rw [if_neg c2] at h
    refine g_aload_n 15 rfl rfl rfl ?_
    refine g_get 18 rfl s_280 (Nat.le_of_ble_eq_true rfl) rfl rfl ?_
    refine g_iload_n 19 rfl rfl rfl ?_
    by_cases i3 : ib x1 8
    case neg => rw [if_neg i3] at h; cases h
    rw [if_pos i3] at h
    refine g_iald 20 rfl s_293 l_293 i3 rfl ?_
    refine g_if_ne 30 23 rfl rfl (fun c4 => ?_) (fun c4 => ?_)
    · rw [if_neg c4] at h
      refine g_bipush (v := 100) 32 rfl (by decide) rfl ?_
      refine g_aload_n 33 rfl rfl rfl ?_
      refine g_aload_n 34 rfl rfl rfl ?_
      refine g_iload_n 35 rfl rfl rfl ?_
      refine g_iconst (v := 2) 36 rfl rfl rfl ?_
      obtain ⟨q5, hq5, h⟩ := Option.bind_eq_some_iff.mp h
      refine g_callV (J := sm_I244) 39 rfl (Nat.le_of_ble_eq_true rfl) rfl rfl (Nat.le_of_ble_eq_true rfl) s_280 (Nat.le_of_ble_eq_true rfl) (Nat.le_of_ble_eq_true rfl) rfl rfl (F_244 d x1 2 hq5) ?_
      obtain ⟨q6, hq6, h⟩ := Option.bind_eq_some_iff.mp h
      refine g_callV (J := sm_I214) 42 rfl (Nat.le_of_ble_eq_true rfl) rfl rfl (Nat.le_of_ble_eq_true rfl) s_280 (Nat.le_of_ble_eq_true rfl) (Nat.le_of_ble_eq_true rfl) rfl rfl (F_214 (d + 4) q5.1 hq6) ?_
      refine g_iconst (v := 1) 43 rfl rfl rfl ?_
      refine g_iadd 44 rfl rfl ?_
      refine g_imul 45 rfl rfl ?_
      refine g_aload_n 46 rfl rfl rfl ?_
      refine g_aload_n 47 rfl rfl rfl ?_
      refine g_iload_n 48 rfl rfl rfl ?_
      refine g_iconst (v := 1) 49 rfl rfl rfl ?_
      obtain ⟨q7, hq7, h⟩ := Option.bind_eq_some_iff.mp h
      refine g_callV (J := sm_I244) 52 rfl (Nat.le_of_ble_eq_true rfl) rfl rfl (Nat.le_of_ble_eq_true rfl) s_280 (Nat.le_of_ble_eq_true rfl) (Nat.le_of_ble_eq_true rfl) rfl rfl (F_244 d x1 1 hq7) ?_
      obtain ⟨q8, hq8, h⟩ := Option.bind_eq_some_iff.mp h
      refine g_callV (J := sm_I214) 55 rfl (Nat.le_of_ble_eq_true rfl) rfl rfl (Nat.le_of_ble_eq_true rfl) s_280 (Nat.le_of_ble_eq_true rfl) (Nat.le_of_ble_eq_true rfl) rfl rfl (F_214 (d + 4) q7.1 hq8) ?_
      refine g_iadd 56 rfl rfl ?_
      refine g_iconst (v := 1) 57 rfl rfl rfl ?_
      refine g_iadd 58 rfl rfl ?_
      cases h
      exact g_iret rfl rfl
    · rw [if_pos c4] at h
      refine g_aload_n 24 rfl rfl rfl ?_
      refine g_bipush (v := (-6)) 26 rfl (by decide) rfl ?_
      obtain ⟨q9, hq9, h⟩ := Option.bind_eq_some_iff.mp h
      refine g_callV (J := sm_I174) 29 rfl (Nat.le_of_ble_eq_true rfl) rfl rfl (Nat.le_of_ble_eq_true rfl) s_280 (Nat.le_of_ble_eq_true rfl) (Nat.le_of_ble_eq_true rfl) rfl rfl (F_174 (d + 4) ((-6)) hq9) ?_
      cases h
      exact g_iret rfl rfl
  · rw [if_pos c2] at h
    refine g_aload_n 9 rfl rfl rfl ?_
    refine g_iconst (v := (-1)) 10 rfl rfl rfl ?_
    obtain ⟨q10, hq10, h⟩ := Option.bind_eq_some_iff.mp h
    refine g_callV (J := sm_I174) 13 rfl (Nat.le_of_ble_eq_true rfl) rfl rfl (Nat.le_of_ble_eq_true rfl) s_280 (Nat.le_of_ble_eq_true rfl) (Nat.le_of_ble_eq_true rfl) rfl rfl (F_174 (d + 4) ((-1)) hq10) ?_
    cases h
    exact g_iret rfl rfl

def f_253_13 (k2 : Int32 → Int32 → Int32 → sU → Option sU) : Nat → Int32 → Int32 → Int32 → Int32 → sU → Option sU
  | 0, _, _, _, _, _ => none
  | n + 1, v1, v2, v3, v4, U =>
    if ib v1 8 then
    if (U.1 288 v1.toNatClampNeg) ≤ v4 then
      if ib v1 8 then
      Option.bind (f_209 v1 (U.1 290 v1.toNatClampNeg) U) fun q4 =>
      if ib v3 12 then
      k2 v1 v2 (v3 + 1) (sI U 308 v3.toNatClampNeg q4)
      else none
      else none
    else
      if ib ((12 * v1) + v4) 96 then
      if ib v4 12 then
      if (U.1 307 v4.toNatClampNeg) = v3 then
        if ib v4 12 then
        f_253_13 k2 n v1 v2 v3 (v4 + 1) (sJ U 305 v4.toNatClampNeg (((U.1 297 ((12 * v1) + v4).toNatClampNeg).toInt64) * ((((v2 * (U.1 280 48)).toInt64) + 100) - v2.toInt64)))
        else none
      else
        if ib v4 12 then
        f_253_13 k2 n v1 v2 v3 (v4 + 1) (sJ U 305 v4.toNatClampNeg (((U.1 297 ((12 * v1) + v4).toNatClampNeg).toInt64) * ((((0 : Int32).toInt64) + 100) - v2.toInt64)))
        else none
      else none
      else none
    else none
set_option maxRecDepth 10000 in
set_option maxHeartbeats 2000000 in
theorem F_253_13 (d : Nat) {k2 : Int32 → Int32 → Int32 → sU → Option sU} (hk2 : ∀ (v1 : Int32) (v2 : Int32) (v3 : Int32) (U : sU) (U' : sU), k2 v1 v2 v3 U = some U' → G (d + 1) sm_I253 2 [(0, .ref 280), (1, .int v1), (2, .int v2), (3, .int v3)] [] U none U') : ∀ (n : Nat) (v1 : Int32) (v2 : Int32) (v3 : Int32) (v4 : Int32) (U : sU) (U' : sU), f_253_13 k2 n v1 v2 v3 v4 U = some U' → G (d + 1) sm_I253 13 [(0, .ref 280), (1, .int v1), (2, .int v2), (3, .int v3), (4, .int v4)] [] U none U' := by
  intro n
  induction n with
  | zero => intro v1 v2 v3 v4 U U' h; cases h
  | succ n ih =>
    intro v1 v2 v3 v4 U U' h
    first | rw [f_253_13] at h | (rw [f_253_13.eq_def] at h; dsimp only at h)
    refine g_iload 15 rfl rfl rfl ?_
    refine g_aload_n 16 rfl rfl rfl ?_
    refine g_get 19 rfl s_280 (Nat.le_of_ble_eq_true rfl) rfl rfl ?_
    refine g_iload_n 20 rfl rfl rfl ?_
    by_cases i1 : ib v1 8
    case neg => rw [if_neg i1] at h; cases h
    rw [if_pos i1] at h
    refine g_iald 21 rfl s_288 l_288 i1 rfl ?_
    refine g_icmp_ge 80 24 rfl rfl (fun c2 => ?_) (fun c2 => ?_)
    · rw [if_pos c2] at h
      refine g_aload_n 81 rfl rfl rfl ?_
      refine g_get 84 rfl s_280 (Nat.le_of_ble_eq_true rfl) rfl rfl ?_
      refine g_iload_n 85 rfl rfl rfl ?_
      refine g_aload_n 86 rfl rfl rfl ?_
      refine g_iload_n 87 rfl rfl rfl ?_
      refine g_aload_n 88 rfl rfl rfl ?_
      refine g_get 91 rfl s_280 (Nat.le_of_ble_eq_true rfl) rfl rfl ?_
      refine g_iload_n 92 rfl rfl rfl ?_
      by_cases i3 : ib v1 8
      case neg => rw [if_neg i3] at h; cases h
      rw [if_pos i3] at h
      refine g_iald 93 rfl s_290 l_290 i3 rfl ?_
      obtain ⟨q4, hq4, h⟩ := Option.bind_eq_some_iff.mp h
      refine g_callV (J := sm_I209) 96 rfl (Nat.le_of_ble_eq_true rfl) rfl rfl (Nat.le_of_ble_eq_true rfl) s_280 (Nat.le_of_ble_eq_true rfl) (Nat.le_of_ble_eq_true rfl) rfl rfl (F_209 d v1 (U.1 290 v1.toNatClampNeg) hq4) ?_
      by_cases i5 : ib v3 12
      case neg => rw [if_neg i5] at h; cases h
      rw [if_pos i5] at h
      refine g_iast 97 rfl s_308 l_308 i5 rfl ?_
      refine g_iinc (v := v3 + 1) 100 [(3, .int (v3 + 1)), (0, .ref 280), (1, .int v1), (2, .int v2), (4, .int v4)] rfl rfl (Nat.le_of_ble_eq_true rfl) rfl rfl rfl ?_
      refine g_goto 2 rfl ?_
      exact g_sub (Sc rfl (Sc rfl (Sc rfl (Sc rfl (Sn _))))) (hk2 v1 v2 (v3 + 1) _ _ h)
    · rw [if_neg c2] at h
      refine g_aload_n 25 rfl rfl rfl ?_
      refine g_get 28 rfl s_280 (Nat.le_of_ble_eq_true rfl) rfl rfl ?_
      refine g_iload 30 rfl rfl rfl ?_
      refine g_aload_n 31 rfl rfl rfl ?_
      refine g_get 34 rfl s_280 (Nat.le_of_ble_eq_true rfl) rfl rfl ?_
      refine g_bipush (v := 12) 36 rfl (by decide) rfl ?_
      refine g_iload_n 37 rfl rfl rfl ?_
      refine g_imul 38 rfl rfl ?_
      refine g_iload 40 rfl rfl rfl ?_
      refine g_iadd 41 rfl rfl ?_
      by_cases i6 : ib ((12 * v1) + v4) 96
      case neg => rw [if_neg i6] at h; cases h
      rw [if_pos i6] at h
      refine g_iald 42 rfl s_297 l_297 i6 rfl ?_
      refine g_i2l 43 rfl rfl ?_
      refine g_aload_n 44 rfl rfl rfl ?_
      refine g_get 47 rfl s_280 (Nat.le_of_ble_eq_true rfl) rfl rfl ?_
      refine g_iload 49 rfl rfl rfl ?_
      by_cases i7 : ib v4 12
      case neg => rw [if_neg i7] at h; cases h
      rw [if_pos i7] at h
      refine g_iald 50 rfl s_307 l_307 i7 rfl ?_
      refine g_iload_n 51 rfl rfl rfl ?_
      refine g_icmp_ne 63 54 rfl rfl (fun c8 => ?_) (fun c8 => ?_)
      · rw [if_neg c8] at h
        refine g_iconst (v := 0) 64 rfl rfl rfl ?_
        refine g_i2l 65 rfl rfl ?_
        refine g_ldc2_w (v := 100) 68 rfl (by decide) rfl ?_
        refine g_ladd 69 rfl rfl ?_
        refine g_iload_n 70 rfl rfl rfl ?_
        refine g_i2l 71 rfl rfl ?_
        refine g_lsub 72 rfl rfl ?_
        refine g_lmul 73 rfl rfl ?_
        by_cases i9 : ib v4 12
        case neg => rw [if_neg i9] at h; cases h
        rw [if_pos i9] at h
        refine g_last 74 rfl s_305 l_305 i9 rfl ?_
        refine g_iinc (v := v4 + 1) 77 [(4, .int (v4 + 1)), (0, .ref 280), (1, .int v1), (2, .int v2), (3, .int v3)] rfl rfl (Nat.le_of_ble_eq_true rfl) rfl rfl rfl ?_
        refine g_goto 13 rfl ?_
        exact g_sub (Sc rfl (Sc rfl (Sc rfl (Sc rfl (Sc rfl (Sn _)))))) (ih v1 v2 v3 (v4 + 1) _ _ h)
      · rw [if_pos c8] at h
        refine g_iload_n 55 rfl rfl rfl ?_
        refine g_aload_n 56 rfl rfl rfl ?_
        refine g_get 59 rfl s_280 (Nat.le_of_ble_eq_true rfl) rfl rfl ?_
        refine g_imul 60 rfl rfl ?_
        refine g_goto 64 rfl ?_
        refine g_i2l 65 rfl rfl ?_
        refine g_ldc2_w (v := 100) 68 rfl (by decide) rfl ?_
        refine g_ladd 69 rfl rfl ?_
        refine g_iload_n 70 rfl rfl rfl ?_
        refine g_i2l 71 rfl rfl ?_
        refine g_lsub 72 rfl rfl ?_
        refine g_lmul 73 rfl rfl ?_
        by_cases i10 : ib v4 12
        case neg => rw [if_neg i10] at h; cases h
        rw [if_pos i10] at h
        refine g_last 74 rfl s_305 l_305 i10 rfl ?_
        refine g_iinc (v := v4 + 1) 77 [(4, .int (v4 + 1)), (0, .ref 280), (1, .int v1), (2, .int v2), (3, .int v3)] rfl rfl (Nat.le_of_ble_eq_true rfl) rfl rfl rfl ?_
        refine g_goto 13 rfl ?_
        exact g_sub (Sc rfl (Sc rfl (Sc rfl (Sc rfl (Sc rfl (Sn _)))))) (ih v1 v2 v3 (v4 + 1) _ _ h)
def f_253_2 : Nat → Int32 → Int32 → Int32 → sU → Option sU
  | 0, _, _, _, _ => none
  | n + 1, v1, v2, v3, U =>
    if (U.1 280 48) ≤ v3 then
      some U
    else
      f_253_13 (fun v1 v2 v3 U => f_253_2 n v1 v2 v3 U) FU v1 v2 v3 0 U
set_option maxRecDepth 10000 in
set_option maxHeartbeats 2000000 in
theorem F_253_2 (d : Nat)   : ∀ (n : Nat) (v1 : Int32) (v2 : Int32) (v3 : Int32) (U : sU) (U' : sU), f_253_2 n v1 v2 v3 U = some U' → G (d + 1) sm_I253 2 [(0, .ref 280), (1, .int v1), (2, .int v2), (3, .int v3)] [] U none U' := by
  intro n
  induction n with
  | zero => intro v1 v2 v3 U U' h; cases h
  | succ n ih =>
    intro v1 v2 v3 U U' h
    first | rw [f_253_2] at h | (rw [f_253_2.eq_def] at h; dsimp only at h)
    refine g_iload_n 3 rfl rfl rfl ?_
    refine g_aload_n 4 rfl rfl rfl ?_
    refine g_get 7 rfl s_280 (Nat.le_of_ble_eq_true rfl) rfl rfl ?_
    refine g_icmp_ge 103 10 rfl rfl (fun c11 => ?_) (fun c11 => ?_)
    · rw [if_pos c11] at h
      cases h
      exact g_vret rfl rfl
    · rw [if_neg c11] at h
      refine g_iconst (v := 0) 11 rfl rfl rfl ?_
      refine g_istore 13 [(4, .int 0), (0, .ref 280), (1, .int v1), (2, .int v2), (3, .int v3)] rfl (Nat.le_of_ble_eq_true rfl) rfl rfl ?_
      exact g_sub (Sc rfl (Sc rfl (Sc rfl (Sc rfl (Sc rfl (Sn _)))))) (F_253_13 d (fun v1 v2 v3 U U' h => ih v1 v2 v3 U U' h) _ v1 v2 v3 0 _ _ h)
def f_253 (x1 : Int32) (x2 : Int32) (U : sU) : Option sU :=
  f_253_2 FU x1 x2 0 U
set_option maxRecDepth 10000 in
set_option maxHeartbeats 2000000 in
theorem F_253 (d : Nat) (x1 : Int32) (x2 : Int32) {U : sU} {U' : sU} (h : f_253 x1 x2 U = some U') : Rn (d + 1) sm_I253 [.ref 280, .int x1, .int x2] U none U' := by
  refine Rn_of [(0, .ref 280), (1, .int x1), (2, .int x2)] (Nat.le_of_ble_eq_true rfl) (Sc rfl (Sc rfl (Sc rfl (Sn _)))) ?_
  first | rw [f_253] at h | rw [f_253.eq_def] at h
  refine g_iconst (v := 0) 1 rfl rfl rfl ?_
  refine g_istore_n 2 [(3, .int 0), (0, .ref 280), (1, .int x1), (2, .int x2)] rfl (Nat.le_of_ble_eq_true rfl) rfl rfl ?_
  exact g_sub (Sc rfl (Sc rfl (Sc rfl (Sc rfl (Sn _))))) (F_253_2 d _ x1 x2 0 _ _ h)

def f_254 (x1 : Int32) (x2 : Int32) (x3 : Int32) (x4 : Int32) (x5 : Int32) (U : sU) : Option Int64 :=
  if ib ((12 * x1) + x2) 96 then
  if ib x3 12 then
  Option.bind (f_208 x1 (((U.1 308 x3.toNatClampNeg).toInt64) - (((U.1 296 ((12 * x1) + x2).toNatClampNeg) + x5).toInt64)) U) fun q3 =>
  if ib x2 12 then
  some ((((x4 * (U.1 280 48)).toInt64) * q3) + (((100 - x4).toInt64) * (U.2.1 311 x2.toNatClampNeg)))
  else none
  else none
  else none
set_option maxRecDepth 10000 in
set_option maxHeartbeats 2000000 in
theorem F_254 (d : Nat) (x1 : Int32) (x2 : Int32) (x3 : Int32) (x4 : Int32) (x5 : Int32) {U : sU} {r : Int64} (h : f_254 x1 x2 x3 x4 x5 U = some r) : Rn (d + 1) sm_I254 [.ref 280, .int x1, .int x2, .int x3, .int x4, .int x5] U (some (.long r)) U := by
  refine Rn_of [(0, .ref 280), (1, .int x1), (2, .int x2), (3, .int x3), (4, .int x4), (5, .int x5)] (Nat.le_of_ble_eq_true rfl) (Sc rfl (Sc rfl (Sc rfl (Sc rfl (Sc rfl (Sc rfl (Sn _))))))) ?_
  first | rw [f_254] at h | rw [f_254.eq_def] at h
  refine g_aload_n 1 rfl rfl rfl ?_
  refine g_get 4 rfl s_280 (Nat.le_of_ble_eq_true rfl) rfl rfl ?_
  refine g_bipush (v := 12) 6 rfl (by decide) rfl ?_
  refine g_iload_n 7 rfl rfl rfl ?_
  refine g_imul 8 rfl rfl ?_
  refine g_iload_n 9 rfl rfl rfl ?_
  refine g_iadd 10 rfl rfl ?_
  by_cases i1 : ib ((12 * x1) + x2) 96
  case neg => rw [if_neg i1] at h; cases h
  rw [if_pos i1] at h
  refine g_iald 11 rfl s_296 l_296 i1 rfl ?_
  refine g_iload 13 rfl rfl rfl ?_
  refine g_iadd 14 rfl rfl ?_
  refine g_i2l 15 rfl rfl ?_
  refine g_lstore 17 [(6, .long (((U.1 296 ((12 * x1) + x2).toNatClampNeg) + x5).toInt64)), (0, .ref 280), (1, .int x1), (2, .int x2), (3, .int x3), (4, .int x4), (5, .int x5)] rfl (Nat.le_of_ble_eq_true rfl) rfl rfl ?_
  refine g_iload 19 rfl rfl rfl ?_
  refine g_aload_n 20 rfl rfl rfl ?_
  refine g_get 23 rfl s_280 (Nat.le_of_ble_eq_true rfl) rfl rfl ?_
  refine g_imul 24 rfl rfl ?_
  refine g_i2l 25 rfl rfl ?_
  refine g_aload_n 26 rfl rfl rfl ?_
  refine g_iload_n 27 rfl rfl rfl ?_
  refine g_aload_n 28 rfl rfl rfl ?_
  refine g_get 31 rfl s_280 (Nat.le_of_ble_eq_true rfl) rfl rfl ?_
  refine g_iload_n 32 rfl rfl rfl ?_
  by_cases i2 : ib x3 12
  case neg => rw [if_neg i2] at h; cases h
  rw [if_pos i2] at h
  refine g_iald 33 rfl s_308 l_308 i2 rfl ?_
  refine g_i2l 34 rfl rfl ?_
  refine g_lload 36 rfl rfl rfl ?_
  refine g_lsub 37 rfl rfl ?_
  obtain ⟨q3, hq3, h⟩ := Option.bind_eq_some_iff.mp h
  refine g_callV (J := sm_I208) 40 rfl (Nat.le_of_ble_eq_true rfl) rfl rfl (Nat.le_of_ble_eq_true rfl) s_280 (Nat.le_of_ble_eq_true rfl) (Nat.le_of_ble_eq_true rfl) rfl rfl (F_208 d x1 (((U.1 308 x3.toNatClampNeg).toInt64) - (((U.1 296 ((12 * x1) + x2).toNatClampNeg) + x5).toInt64)) hq3) ?_
  refine g_lmul 41 rfl rfl ?_
  refine g_bipush (v := 100) 43 rfl (by decide) rfl ?_
  refine g_iload 45 rfl rfl rfl ?_
  refine g_isub 46 rfl rfl ?_
  refine g_i2l 47 rfl rfl ?_
  refine g_aload_n 48 rfl rfl rfl ?_
  refine g_get 51 rfl s_280 (Nat.le_of_ble_eq_true rfl) rfl rfl ?_
  refine g_iload_n 52 rfl rfl rfl ?_
  by_cases i4 : ib x2 12
  case neg => rw [if_neg i4] at h; cases h
  rw [if_pos i4] at h
  refine g_lald 53 rfl s_311 l_311 i4 rfl ?_
  refine g_lmul 54 rfl rfl ?_
  refine g_ladd 55 rfl rfl ?_
  cases h
  exact g_lret rfl rfl

def f_255_22 (k2 : Int32 → Int32 → Int32 → sU → Option sU) : Nat → Int32 → Int32 → Int32 → Int32 → sU → Option sU
  | 0, _, _, _, _, _ => none
  | n + 1, v1, v2, v3, v4, U =>
    if (U.1 280 48) ≤ v4 then
      k2 v1 v2 (v3 + 1) U
    else
      if ib v3 12 then
      if ib v4 12 then
      if ib ((12 * v1) + v3) 96 then
      Option.bind (f_208 v1 ((((U.1 308 v4.toNatClampNeg) - (U.1 296 ((12 * v1) + v3).toNatClampNeg)) - v2).toInt64) U) fun q5 =>
      if ib v3 12 then
      f_255_22 k2 n v1 v2 v3 (v4 + 1) (sJ U 311 v3.toNatClampNeg ((U.2.1 311 v3.toNatClampNeg) + q5))
      else none
      else none
      else none
      else none
set_option maxRecDepth 10000 in
set_option maxHeartbeats 2000000 in
theorem F_255_22 (d : Nat) {k2 : Int32 → Int32 → Int32 → sU → Option sU} (hk2 : ∀ (v1 : Int32) (v2 : Int32) (v3 : Int32) (U : sU) (U' : sU), k2 v1 v2 v3 U = some U' → G (d + 1) sm_I255 2 [(0, .ref 280), (1, .int v1), (2, .int v2), (3, .int v3)] [] U none U') : ∀ (n : Nat) (v1 : Int32) (v2 : Int32) (v3 : Int32) (v4 : Int32) (U : sU) (U' : sU), f_255_22 k2 n v1 v2 v3 v4 U = some U' → G (d + 1) sm_I255 22 [(0, .ref 280), (1, .int v1), (2, .int v2), (3, .int v3), (4, .int v4)] [] U none U' := by
  intro n
  induction n with
  | zero => intro v1 v2 v3 v4 U U' h; cases h
  | succ n ih =>
    intro v1 v2 v3 v4 U U' h
    first | rw [f_255_22] at h | (rw [f_255_22.eq_def] at h; dsimp only at h)
    refine g_iload 24 rfl rfl rfl ?_
    refine g_aload_n 25 rfl rfl rfl ?_
    refine g_get 28 rfl s_280 (Nat.le_of_ble_eq_true rfl) rfl rfl ?_
    refine g_icmp_ge 73 31 rfl rfl (fun c1 => ?_) (fun c1 => ?_)
    · rw [if_pos c1] at h
      refine g_iinc (v := v3 + 1) 76 [(3, .int (v3 + 1)), (0, .ref 280), (1, .int v1), (2, .int v2), (4, .int v4)] rfl rfl (Nat.le_of_ble_eq_true rfl) rfl rfl rfl ?_
      refine g_goto 2 rfl ?_
      exact g_sub (Sc rfl (Sc rfl (Sc rfl (Sc rfl (Sn _))))) (hk2 v1 v2 (v3 + 1) _ _ h)
    · rw [if_neg c1] at h
      refine g_aload_n 32 rfl rfl rfl ?_
      refine g_get 35 rfl s_280 (Nat.le_of_ble_eq_true rfl) rfl rfl ?_
      refine g_iload_n 36 rfl rfl rfl ?_
      refine g_dup2 37 rfl rfl rfl rfl ?_
      by_cases i2 : ib v3 12
      case neg => rw [if_neg i2] at h; cases h
      rw [if_pos i2] at h
      refine g_lald 38 rfl s_311 l_311 i2 rfl ?_
      refine g_aload_n 39 rfl rfl rfl ?_
      refine g_iload_n 40 rfl rfl rfl ?_
      refine g_aload_n 41 rfl rfl rfl ?_
      refine g_get 44 rfl s_280 (Nat.le_of_ble_eq_true rfl) rfl rfl ?_
      refine g_iload 46 rfl rfl rfl ?_
      by_cases i3 : ib v4 12
      case neg => rw [if_neg i3] at h; cases h
      rw [if_pos i3] at h
      refine g_iald 47 rfl s_308 l_308 i3 rfl ?_
      refine g_aload_n 48 rfl rfl rfl ?_
      refine g_get 51 rfl s_280 (Nat.le_of_ble_eq_true rfl) rfl rfl ?_
      refine g_bipush (v := 12) 53 rfl (by decide) rfl ?_
      refine g_iload_n 54 rfl rfl rfl ?_
      refine g_imul 55 rfl rfl ?_
      refine g_iload_n 56 rfl rfl rfl ?_
      refine g_iadd 57 rfl rfl ?_
      by_cases i4 : ib ((12 * v1) + v3) 96
      case neg => rw [if_neg i4] at h; cases h
      rw [if_pos i4] at h
      refine g_iald 58 rfl s_296 l_296 i4 rfl ?_
      refine g_isub 59 rfl rfl ?_
      refine g_iload_n 60 rfl rfl rfl ?_
      refine g_isub 61 rfl rfl ?_
      refine g_i2l 62 rfl rfl ?_
      obtain ⟨q5, hq5, h⟩ := Option.bind_eq_some_iff.mp h
      refine g_callV (J := sm_I208) 65 rfl (Nat.le_of_ble_eq_true rfl) rfl rfl (Nat.le_of_ble_eq_true rfl) s_280 (Nat.le_of_ble_eq_true rfl) (Nat.le_of_ble_eq_true rfl) rfl rfl (F_208 d v1 ((((U.1 308 v4.toNatClampNeg) - (U.1 296 ((12 * v1) + v3).toNatClampNeg)) - v2).toInt64) hq5) ?_
      refine g_ladd 66 rfl rfl ?_
      by_cases i6 : ib v3 12
      case neg => rw [if_neg i6] at h; cases h
      rw [if_pos i6] at h
      refine g_last 67 rfl s_311 l_311 i6 rfl ?_
      refine g_iinc (v := v4 + 1) 70 [(4, .int (v4 + 1)), (0, .ref 280), (1, .int v1), (2, .int v2), (3, .int v3)] rfl rfl (Nat.le_of_ble_eq_true rfl) rfl rfl rfl ?_
      refine g_goto 22 rfl ?_
      exact g_sub (Sc rfl (Sc rfl (Sc rfl (Sc rfl (Sc rfl (Sn _)))))) (ih v1 v2 v3 (v4 + 1) _ _ h)
def f_255_2 : Nat → Int32 → Int32 → Int32 → sU → Option sU
  | 0, _, _, _, _ => none
  | n + 1, v1, v2, v3, U =>
    if ib v1 8 then
    if (U.1 288 v1.toNatClampNeg) ≤ v3 then
      some U
    else
      if ib v3 12 then
      f_255_22 (fun v1 v2 v3 U => f_255_2 n v1 v2 v3 U) FU v1 v2 v3 0 (sJ U 311 v3.toNatClampNeg 0)
      else none
    else none
set_option maxRecDepth 10000 in
set_option maxHeartbeats 2000000 in
theorem F_255_2 (d : Nat)   : ∀ (n : Nat) (v1 : Int32) (v2 : Int32) (v3 : Int32) (U : sU) (U' : sU), f_255_2 n v1 v2 v3 U = some U' → G (d + 1) sm_I255 2 [(0, .ref 280), (1, .int v1), (2, .int v2), (3, .int v3)] [] U none U' := by
  intro n
  induction n with
  | zero => intro v1 v2 v3 U U' h; cases h
  | succ n ih =>
    intro v1 v2 v3 U U' h
    first | rw [f_255_2] at h | (rw [f_255_2.eq_def] at h; dsimp only at h)
    refine g_iload_n 3 rfl rfl rfl ?_
    refine g_aload_n 4 rfl rfl rfl ?_
    refine g_get 7 rfl s_280 (Nat.le_of_ble_eq_true rfl) rfl rfl ?_
    refine g_iload_n 8 rfl rfl rfl ?_
    by_cases i7 : ib v1 8
    case neg => rw [if_neg i7] at h; cases h
    rw [if_pos i7] at h
    refine g_iald 9 rfl s_288 l_288 i7 rfl ?_
    refine g_icmp_ge 79 12 rfl rfl (fun c8 => ?_) (fun c8 => ?_)
    · rw [if_pos c8] at h
      cases h
      exact g_vret rfl rfl
    · rw [if_neg c8] at h
      refine g_aload_n 13 rfl rfl rfl ?_
      refine g_get 16 rfl s_280 (Nat.le_of_ble_eq_true rfl) rfl rfl ?_
      refine g_iload_n 17 rfl rfl rfl ?_
      refine g_lconst (v := 0) 18 rfl rfl rfl ?_
      by_cases i9 : ib v3 12
      case neg => rw [if_neg i9] at h; cases h
      rw [if_pos i9] at h
      refine g_last 19 rfl s_311 l_311 i9 rfl ?_
      refine g_iconst (v := 0) 20 rfl rfl rfl ?_
      refine g_istore 22 [(4, .int 0), (0, .ref 280), (1, .int v1), (2, .int v2), (3, .int v3)] rfl (Nat.le_of_ble_eq_true rfl) rfl rfl ?_
      exact g_sub (Sc rfl (Sc rfl (Sc rfl (Sc rfl (Sc rfl (Sn _)))))) (F_255_22 d (fun v1 v2 v3 U U' h => ih v1 v2 v3 U U' h) _ v1 v2 v3 0 _ _ h)
def f_255 (x1 : Int32) (x2 : Int32) (U : sU) : Option sU :=
  f_255_2 FU x1 x2 0 U
set_option maxRecDepth 10000 in
set_option maxHeartbeats 2000000 in
theorem F_255 (d : Nat) (x1 : Int32) (x2 : Int32) {U : sU} {U' : sU} (h : f_255 x1 x2 U = some U') : Rn (d + 1) sm_I255 [.ref 280, .int x1, .int x2] U none U' := by
  refine Rn_of [(0, .ref 280), (1, .int x1), (2, .int x2)] (Nat.le_of_ble_eq_true rfl) (Sc rfl (Sc rfl (Sc rfl (Sn _)))) ?_
  first | rw [f_255] at h | rw [f_255.eq_def] at h
  refine g_iconst (v := 0) 1 rfl rfl rfl ?_
  refine g_istore_n 2 [(3, .int 0), (0, .ref 280), (1, .int x1), (2, .int x2)] rfl (Nat.le_of_ble_eq_true rfl) rfl rfl ?_
  exact g_sub (Sc rfl (Sc rfl (Sc rfl (Sc rfl (Sn _))))) (F_255_2 d _ x1 x2 0 _ _ h)

def f_256_47 (k13 : Int32 → Int32 → Int32 → sU → Option (Int32 × sU)) : Nat → Int32 → Int32 → Int32 → Int64 → Int32 → sU → Option (Int32 × sU)
  | 0, _, _, _, _, _, _ => none
  | n + 1, v1, v2, v3, v4, v6, U =>
    if (U.1 280 48) ≤ v6 then
      k13 v1 v2 (v3 + 1) U
    else
      if ib v1 8 then
      Option.bind (f_254 v1 v3 v6 v2 (U.1 289 v1.toNatClampNeg) U) fun q3 =>
      if 0 ≤ (lg_cmp q3 v4) then
        f_256_47 k13 n v1 v2 v3 v4 (v6 + 1) U
      else
        some (0, U)
      else none
set_option maxRecDepth 10000 in
set_option maxHeartbeats 2000000 in
theorem F_256_47 (d : Nat) {k13 : Int32 → Int32 → Int32 → sU → Option (Int32 × sU)} (hk13 : ∀ (v1 : Int32) (v2 : Int32) (v3 : Int32) (U : sU) (r : Int32) (U' : sU), k13 v1 v2 v3 U = some (r, U') → G (d + 2) sm_I256 13 [(0, .ref 280), (1, .int v1), (2, .int v2), (3, .int v3)] [] U (some (.int r)) U') : ∀ (n : Nat) (v1 : Int32) (v2 : Int32) (v3 : Int32) (v4 : Int64) (v6 : Int32) (U : sU) (r : Int32) (U' : sU), f_256_47 k13 n v1 v2 v3 v4 v6 U = some (r, U') → G (d + 2) sm_I256 47 [(0, .ref 280), (1, .int v1), (2, .int v2), (3, .int v3), (4, .long v4), (6, .int v6)] [] U (some (.int r)) U' := by
  intro n
  induction n with
  | zero => intro v1 v2 v3 v4 v6 U r U' h; cases h
  | succ n ih =>
    intro v1 v2 v3 v4 v6 U r U' h
    first | rw [f_256_47] at h | (rw [f_256_47.eq_def] at h; dsimp only at h)
    refine g_iload 49 rfl rfl rfl ?_
    refine g_aload_n 50 rfl rfl rfl ?_
    refine g_get 53 rfl s_280 (Nat.le_of_ble_eq_true rfl) rfl rfl ?_
    refine g_icmp_ge 85 56 rfl rfl (fun c1 => ?_) (fun c1 => ?_)
    · rw [if_pos c1] at h
      refine g_iinc (v := v3 + 1) 88 [(3, .int (v3 + 1)), (0, .ref 280), (1, .int v1), (2, .int v2), (4, .long v4), (6, .int v6)] rfl rfl (Nat.le_of_ble_eq_true rfl) rfl rfl rfl ?_
      refine g_goto 13 rfl ?_
      exact g_sub (Sc rfl (Sc rfl (Sc rfl (Sc rfl (Sn _))))) (hk13 v1 v2 (v3 + 1) _ _ _ h)
    · rw [if_neg c1] at h
      refine g_aload_n 57 rfl rfl rfl ?_
      refine g_iload_n 58 rfl rfl rfl ?_
      refine g_iload_n 59 rfl rfl rfl ?_
      refine g_iload 61 rfl rfl rfl ?_
      refine g_iload_n 62 rfl rfl rfl ?_
      refine g_aload_n 63 rfl rfl rfl ?_
      refine g_get 66 rfl s_280 (Nat.le_of_ble_eq_true rfl) rfl rfl ?_
      refine g_iload_n 67 rfl rfl rfl ?_
      by_cases i2 : ib v1 8
      case neg => rw [if_neg i2] at h; cases h
      rw [if_pos i2] at h
      refine g_iald 68 rfl s_289 l_289 i2 rfl ?_
      obtain ⟨q3, hq3, h⟩ := Option.bind_eq_some_iff.mp h
      refine g_callV (J := sm_I254) 71 rfl (Nat.le_of_ble_eq_true rfl) rfl rfl (Nat.le_of_ble_eq_true rfl) s_280 (Nat.le_of_ble_eq_true rfl) (Nat.le_of_ble_eq_true rfl) rfl rfl (F_254 d v1 v3 v6 v2 (U.1 289 v1.toNatClampNeg) hq3) ?_
      refine g_lload 73 rfl rfl rfl ?_
      refine g_lcmp 74 rfl rfl ?_
      refine g_if_ge 79 77 rfl rfl (fun c4 => ?_) (fun c4 => ?_)
      · rw [if_pos c4] at h
        refine g_iinc (v := v6 + 1) 82 [(6, .int (v6 + 1)), (0, .ref 280), (1, .int v1), (2, .int v2), (3, .int v3), (4, .long v4)] rfl rfl (Nat.le_of_ble_eq_true rfl) rfl rfl rfl ?_
        refine g_goto 47 rfl ?_
        exact g_sub (Sc rfl (Sc rfl (Sc rfl (Sc rfl (Sc rfl (Sc rfl (Sn _))))))) (ih v1 v2 v3 v4 (v6 + 1) _ _ _ h)
      · rw [if_neg c4] at h
        refine g_iconst (v := 0) 78 rfl rfl rfl ?_
        cases h
        exact g_zret rfl rfl (Or.inl rfl)
def f_256_13 : Nat → Int32 → Int32 → Int32 → sU → Option (Int32 × sU)
  | 0, _, _, _, _ => none
  | n + 1, v1, v2, v3, U =>
    if ib v1 8 then
    if (U.1 288 v1.toNatClampNeg) ≤ v3 then
      some (1, U)
    else
      if ib v3 12 then
      if ib v1 8 then
      Option.bind (f_254 v1 v3 (U.1 307 v3.toNatClampNeg) v2 (U.1 289 v1.toNatClampNeg) U) fun q9 =>
      f_256_47 (fun v1 v2 v3 U => f_256_13 n v1 v2 v3 U) FU v1 v2 v3 q9 0 U
      else none
      else none
    else none
set_option maxRecDepth 10000 in
set_option maxHeartbeats 2000000 in
theorem F_256_13 (d : Nat)   : ∀ (n : Nat) (v1 : Int32) (v2 : Int32) (v3 : Int32) (U : sU) (r : Int32) (U' : sU), f_256_13 n v1 v2 v3 U = some (r, U') → G (d + 2) sm_I256 13 [(0, .ref 280), (1, .int v1), (2, .int v2), (3, .int v3)] [] U (some (.int r)) U' := by
  intro n
  induction n with
  | zero => intro v1 v2 v3 U r U' h; cases h
  | succ n ih =>
    intro v1 v2 v3 U r U' h
    first | rw [f_256_13] at h | (rw [f_256_13.eq_def] at h; dsimp only at h)
    refine g_iload_n 14 rfl rfl rfl ?_
    refine g_aload_n 15 rfl rfl rfl ?_
    refine g_get 18 rfl s_280 (Nat.le_of_ble_eq_true rfl) rfl rfl ?_
    refine g_iload_n 19 rfl rfl rfl ?_
    by_cases i5 : ib v1 8
    case neg => rw [if_neg i5] at h; cases h
    rw [if_pos i5] at h
    refine g_iald 20 rfl s_288 l_288 i5 rfl ?_
    refine g_icmp_ge 91 23 rfl rfl (fun c6 => ?_) (fun c6 => ?_)
    · rw [if_pos c6] at h
      refine g_iconst (v := 1) 92 rfl rfl rfl ?_
      cases h
      exact g_zret rfl rfl (Or.inr rfl)
    · rw [if_neg c6] at h
      refine g_aload_n 24 rfl rfl rfl ?_
      refine g_iload_n 25 rfl rfl rfl ?_
      refine g_iload_n 26 rfl rfl rfl ?_
      refine g_aload_n 27 rfl rfl rfl ?_
      refine g_get 30 rfl s_280 (Nat.le_of_ble_eq_true rfl) rfl rfl ?_
      refine g_iload_n 31 rfl rfl rfl ?_
      by_cases i7 : ib v3 12
      case neg => rw [if_neg i7] at h; cases h
      rw [if_pos i7] at h
      refine g_iald 32 rfl s_307 l_307 i7 rfl ?_
      refine g_iload_n 33 rfl rfl rfl ?_
      refine g_aload_n 34 rfl rfl rfl ?_
      refine g_get 37 rfl s_280 (Nat.le_of_ble_eq_true rfl) rfl rfl ?_
      refine g_iload_n 38 rfl rfl rfl ?_
      by_cases i8 : ib v1 8
      case neg => rw [if_neg i8] at h; cases h
      rw [if_pos i8] at h
      refine g_iald 39 rfl s_289 l_289 i8 rfl ?_
      obtain ⟨q9, hq9, h⟩ := Option.bind_eq_some_iff.mp h
      refine g_callV (J := sm_I254) 42 rfl (Nat.le_of_ble_eq_true rfl) rfl rfl (Nat.le_of_ble_eq_true rfl) s_280 (Nat.le_of_ble_eq_true rfl) (Nat.le_of_ble_eq_true rfl) rfl rfl (F_254 d v1 v3 (U.1 307 v3.toNatClampNeg) v2 (U.1 289 v1.toNatClampNeg) hq9) ?_
      refine g_lstore 44 [(4, .long q9), (0, .ref 280), (1, .int v1), (2, .int v2), (3, .int v3)] rfl (Nat.le_of_ble_eq_true rfl) rfl rfl ?_
      refine g_iconst (v := 0) 45 rfl rfl rfl ?_
      refine g_istore 47 [(6, .int 0), (4, .long q9), (0, .ref 280), (1, .int v1), (2, .int v2), (3, .int v3)] rfl (Nat.le_of_ble_eq_true rfl) rfl rfl ?_
      exact g_sub (Sc rfl (Sc rfl (Sc rfl (Sc rfl (Sc rfl (Sc rfl (Sn _))))))) (F_256_47 d (fun v1 v2 v3 U r U' h => ih v1 v2 v3 U r U' h) _ v1 v2 v3 q9 0 _ _ _ h)
def f_256 (x1 : Int32) (x2 : Int32) (U : sU) : Option (Int32 × sU) :=
  if ib x1 8 then
  Option.bind (f_255 x1 (U.1 289 x1.toNatClampNeg) U) fun q11 =>
  f_256_13 FU x1 x2 0 q11
  else none
set_option maxRecDepth 10000 in
set_option maxHeartbeats 2000000 in
theorem F_256 (d : Nat) (x1 : Int32) (x2 : Int32) {U : sU} {r : Int32} {U' : sU} (h : f_256 x1 x2 U = some (r, U')) : Rn (d + 2) sm_I256 [.ref 280, .int x1, .int x2] U (some (.int r)) U' := by
  refine Rn_of [(0, .ref 280), (1, .int x1), (2, .int x2)] (Nat.le_of_ble_eq_true rfl) (Sc rfl (Sc rfl (Sc rfl (Sn _)))) ?_
  first | rw [f_256] at h | rw [f_256.eq_def] at h
  refine g_aload_n 1 rfl rfl rfl ?_
  refine g_iload_n 2 rfl rfl rfl ?_
  refine g_aload_n 3 rfl rfl rfl ?_
  refine g_get 6 rfl s_280 (Nat.le_of_ble_eq_true rfl) rfl rfl ?_
  refine g_iload_n 7 rfl rfl rfl ?_
  by_cases i10 : ib x1 8
  case neg => rw [if_neg i10] at h; cases h
  rw [if_pos i10] at h
  refine g_iald 8 rfl s_289 l_289 i10 rfl ?_
  obtain ⟨q11, hq11, h⟩ := Option.bind_eq_some_iff.mp h
  refine g_callV (J := sm_I255) 11 rfl (Nat.le_of_ble_eq_true rfl) rfl rfl (Nat.le_of_ble_eq_true rfl) s_280 (Nat.le_of_ble_eq_true rfl) (Nat.le_of_ble_eq_true rfl) rfl rfl (F_255 d x1 (U.1 289 x1.toNatClampNeg) hq11) ?_
  refine g_iconst (v := 0) 12 rfl rfl rfl ?_
  refine g_istore_n 13 [(3, .int 0), (0, .ref 280), (1, .int x1), (2, .int x2)] rfl (Nat.le_of_ble_eq_true rfl) rfl rfl ?_
  exact g_sub (Sc rfl (Sc rfl (Sc rfl (Sc rfl (Sn _))))) (F_256_13 d _ x1 x2 0 _ _ _ h)

def f_257_16 : Nat → Int32 → Int32 → Int64 → Int32 → sU → Option (Int64 × sU)
  | 0, _, _, _, _, _ => none
  | n + 1, v1, v2, v3, v5, U =>
    if ib v1 8 then
    if (U.1 288 v1.toNatClampNeg) ≤ v5 then
      some (v3, U)
    else
      if ib ((12 * v1) + v5) 96 then
      if ib v5 12 then
      if ib v1 8 then
      Option.bind (f_254 v1 v5 (U.1 307 v5.toNatClampNeg) v2 (U.1 290 v1.toNatClampNeg) U) fun q6 =>
      f_257_16 n v1 v2 (v3 + (((U.1 297 ((12 * v1) + v5).toNatClampNeg).toInt64) * q6)) (v5 + 1) U
      else none
      else none
      else none
    else none
set_option maxRecDepth 10000 in
set_option maxHeartbeats 2000000 in
theorem F_257_16 (d : Nat)   : ∀ (n : Nat) (v1 : Int32) (v2 : Int32) (v3 : Int64) (v5 : Int32) (U : sU) (r : Int64) (U' : sU), f_257_16 n v1 v2 v3 v5 U = some (r, U') → G (d + 2) sm_I257 16 [(0, .ref 280), (1, .int v1), (2, .int v2), (3, .long v3), (5, .int v5)] [] U (some (.long r)) U' := by
  intro n
  induction n with
  | zero => intro v1 v2 v3 v5 U r U' h; cases h
  | succ n ih =>
    intro v1 v2 v3 v5 U r U' h
    first | rw [f_257_16] at h | (rw [f_257_16.eq_def] at h; dsimp only at h)
    refine g_iload 18 rfl rfl rfl ?_
    refine g_aload_n 19 rfl rfl rfl ?_
    refine g_get 22 rfl s_280 (Nat.le_of_ble_eq_true rfl) rfl rfl ?_
    refine g_iload_n 23 rfl rfl rfl ?_
    by_cases i1 : ib v1 8
    case neg => rw [if_neg i1] at h; cases h
    rw [if_pos i1] at h
    refine g_iald 24 rfl s_288 l_288 i1 rfl ?_
    refine g_icmp_ge 71 27 rfl rfl (fun c2 => ?_) (fun c2 => ?_)
    · rw [if_pos c2] at h
      refine g_lload_n 72 rfl rfl rfl ?_
      cases h
      exact g_lret rfl rfl
    · rw [if_neg c2] at h
      refine g_lload_n 28 rfl rfl rfl ?_
      refine g_aload_n 29 rfl rfl rfl ?_
      refine g_get 32 rfl s_280 (Nat.le_of_ble_eq_true rfl) rfl rfl ?_
      refine g_bipush (v := 12) 34 rfl (by decide) rfl ?_
      refine g_iload_n 35 rfl rfl rfl ?_
      refine g_imul 36 rfl rfl ?_
      refine g_iload 38 rfl rfl rfl ?_
      refine g_iadd 39 rfl rfl ?_
      by_cases i3 : ib ((12 * v1) + v5) 96
      case neg => rw [if_neg i3] at h; cases h
      rw [if_pos i3] at h
      refine g_iald 40 rfl s_297 l_297 i3 rfl ?_
      refine g_i2l 41 rfl rfl ?_
      refine g_aload_n 42 rfl rfl rfl ?_
      refine g_iload_n 43 rfl rfl rfl ?_
      refine g_iload 45 rfl rfl rfl ?_
      refine g_aload_n 46 rfl rfl rfl ?_
      refine g_get 49 rfl s_280 (Nat.le_of_ble_eq_true rfl) rfl rfl ?_
      refine g_iload 51 rfl rfl rfl ?_
      by_cases i4 : ib v5 12
      case neg => rw [if_neg i4] at h; cases h
      rw [if_pos i4] at h
      refine g_iald 52 rfl s_307 l_307 i4 rfl ?_
      refine g_iload_n 53 rfl rfl rfl ?_
      refine g_aload_n 54 rfl rfl rfl ?_
      refine g_get 57 rfl s_280 (Nat.le_of_ble_eq_true rfl) rfl rfl ?_
      refine g_iload_n 58 rfl rfl rfl ?_
      by_cases i5 : ib v1 8
      case neg => rw [if_neg i5] at h; cases h
      rw [if_pos i5] at h
      refine g_iald 59 rfl s_290 l_290 i5 rfl ?_
      obtain ⟨q6, hq6, h⟩ := Option.bind_eq_some_iff.mp h
      refine g_callV (J := sm_I254) 62 rfl (Nat.le_of_ble_eq_true rfl) rfl rfl (Nat.le_of_ble_eq_true rfl) s_280 (Nat.le_of_ble_eq_true rfl) (Nat.le_of_ble_eq_true rfl) rfl rfl (F_254 d v1 v5 (U.1 307 v5.toNatClampNeg) v2 (U.1 290 v1.toNatClampNeg) hq6) ?_
      refine g_lmul 63 rfl rfl ?_
      refine g_ladd 64 rfl rfl ?_
      refine g_lstore_n 65 [(3, .long (v3 + (((U.1 297 ((12 * v1) + v5).toNatClampNeg).toInt64) * q6))), (0, .ref 280), (1, .int v1), (2, .int v2), (5, .int v5)] rfl (Nat.le_of_ble_eq_true rfl) rfl rfl ?_
      refine g_iinc (v := v5 + 1) 68 [(5, .int (v5 + 1)), (3, .long (v3 + (((U.1 297 ((12 * v1) + v5).toNatClampNeg).toInt64) * q6))), (0, .ref 280), (1, .int v1), (2, .int v2)] rfl rfl (Nat.le_of_ble_eq_true rfl) rfl rfl rfl ?_
      refine g_goto 16 rfl ?_
      exact g_sub (Sc rfl (Sc rfl (Sc rfl (Sc rfl (Sc rfl (Sn _)))))) (ih v1 v2 (v3 + (((U.1 297 ((12 * v1) + v5).toNatClampNeg).toInt64) * q6)) (v5 + 1) _ _ _ h)
def f_257 (x1 : Int32) (x2 : Int32) (U : sU) : Option (Int64 × sU) :=
  if ib x1 8 then
  Option.bind (f_255 x1 (U.1 290 x1.toNatClampNeg) U) fun q8 =>
  f_257_16 FU x1 x2 0 0 q8
  else none
set_option maxRecDepth 10000 in
set_option maxHeartbeats 2000000 in
theorem F_257 (d : Nat) (x1 : Int32) (x2 : Int32) {U : sU} {r : Int64} {U' : sU} (h : f_257 x1 x2 U = some (r, U')) : Rn (d + 2) sm_I257 [.ref 280, .int x1, .int x2] U (some (.long r)) U' := by
  refine Rn_of [(0, .ref 280), (1, .int x1), (2, .int x2)] (Nat.le_of_ble_eq_true rfl) (Sc rfl (Sc rfl (Sc rfl (Sn _)))) ?_
  first | rw [f_257] at h | rw [f_257.eq_def] at h
  refine g_aload_n 1 rfl rfl rfl ?_
  refine g_iload_n 2 rfl rfl rfl ?_
  refine g_aload_n 3 rfl rfl rfl ?_
  refine g_get 6 rfl s_280 (Nat.le_of_ble_eq_true rfl) rfl rfl ?_
  refine g_iload_n 7 rfl rfl rfl ?_
  by_cases i7 : ib x1 8
  case neg => rw [if_neg i7] at h; cases h
  rw [if_pos i7] at h
  refine g_iald 8 rfl s_290 l_290 i7 rfl ?_
  obtain ⟨q8, hq8, h⟩ := Option.bind_eq_some_iff.mp h
  refine g_callV (J := sm_I255) 11 rfl (Nat.le_of_ble_eq_true rfl) rfl rfl (Nat.le_of_ble_eq_true rfl) s_280 (Nat.le_of_ble_eq_true rfl) (Nat.le_of_ble_eq_true rfl) rfl rfl (F_255 d x1 (U.1 290 x1.toNatClampNeg) hq8) ?_
  refine g_lconst (v := 0) 12 rfl rfl rfl ?_
  refine g_lstore_n 13 [(3, .long 0), (0, .ref 280), (1, .int x1), (2, .int x2)] rfl (Nat.le_of_ble_eq_true rfl) rfl rfl ?_
  refine g_iconst (v := 0) 14 rfl rfl rfl ?_
  refine g_istore 16 [(5, .int 0), (3, .long 0), (0, .ref 280), (1, .int x1), (2, .int x2)] rfl (Nat.le_of_ble_eq_true rfl) rfl rfl ?_
  exact g_sub (Sc rfl (Sc rfl (Sc rfl (Sc rfl (Sc rfl (Sn _)))))) (F_257_16 d _ x1 x2 0 0 _ _ _ h)

def f_258_74 (k66 : Int32 → Int32 → Int32 → Int32 → Int32 → Int64 → Int32 → sU → Option (Int32 × sU)) : Nat → Int32 → Int32 → Int32 → Int32 → Int32 → Int64 → Int32 → Int32 → sU → Option (Int32 × sU)
  | 0, _, _, _, _, _, _, _, _, _ => none
  | n + 1, v1, v2, v3, v4, v5, v6, v8, v9, U =>
    Option.bind (f_239 v1 U) fun q1 =>
    if q1 ≤ v9 then
      k66 v1 v2 v3 v4 v5 v6 (v8 + (-5)) U
    else
      Option.bind (f_214 v9 U) fun q3 =>
      if (q3 + 1) = v2 then
        Option.bind (f_234 v1 v9 U) fun q5 =>
        Option.bind (f_253 v1 v8 q5) fun q6 =>
        Option.bind (f_256 v1 v8 q6) fun q7 =>
        if q7.1 = 0 then
          f_258_74 k66 n v1 v2 v3 v4 v5 v6 v8 (v9 + 1) q7.2
        else
          Option.bind (f_257 v1 v8 q7.2) fun q10 =>
          if ¬ (100 * v2.toInt64) = 0 then
          if v5 = ((-1)) then
            f_258_74 k66 n v1 v2 v3 v8 v9 (q10.1 / (100 * v2.toInt64)) v8 (v9 + 1) q10.2
          else
            if 0 ≤ (lg_cmp (q10.1 / (100 * v2.toInt64)) v6) then
              f_258_74 k66 n v1 v2 v3 v4 v5 v6 v8 (v9 + 1) q10.2
            else
              f_258_74 k66 n v1 v2 v3 v8 v9 (q10.1 / (100 * v2.toInt64)) v8 (v9 + 1) q10.2
          else none
      else
        f_258_74 k66 n v1 v2 v3 v4 v5 v6 v8 (v9 + 1) U
set_option maxRecDepth 10000 in
set_option maxHeartbeats 2000000 in
theorem F_258_74 (d : Nat) {k66 : Int32 → Int32 → Int32 → Int32 → Int32 → Int64 → Int32 → sU → Option (Int32 × sU)} (hk66 : ∀ (v1 : Int32) (v2 : Int32) (v3 : Int32) (v4 : Int32) (v5 : Int32) (v6 : Int64) (v8 : Int32) (U : sU) (r : Int32) (U' : sU), k66 v1 v2 v3 v4 v5 v6 v8 U = some (r, U') → G (d + 3) sm_I258 66 [(0, .ref 280), (1, .int v1), (2, .int v2), (3, .int v3), (4, .int v4), (5, .int v5), (6, .long v6), (8, .int v8)] [] U (some (.int r)) U') : ∀ (n : Nat) (v1 : Int32) (v2 : Int32) (v3 : Int32) (v4 : Int32) (v5 : Int32) (v6 : Int64) (v8 : Int32) (v9 : Int32) (U : sU) (r : Int32) (U' : sU), f_258_74 k66 n v1 v2 v3 v4 v5 v6 v8 v9 U = some (r, U') → G (d + 3) sm_I258 74 [(0, .ref 280), (1, .int v1), (2, .int v2), (3, .int v3), (4, .int v4), (5, .int v5), (6, .long v6), (8, .int v8), (9, .int v9)] [] U (some (.int r)) U' := by
  intro n
  induction n with
  | zero => intro v1 v2 v3 v4 v5 v6 v8 v9 U r U' h; cases h
  | succ n ih =>
    intro v1 v2 v3 v4 v5 v6 v8 v9 U r U' h
    first | rw [f_258_74] at h | (rw [f_258_74.eq_def] at h; dsimp only at h)
    refine g_iload 76 rfl rfl rfl ?_
    refine g_aload_n 77 rfl rfl rfl ?_
    refine g_iload_n 78 rfl rfl rfl ?_
    obtain ⟨q1, hq1, h⟩ := Option.bind_eq_some_iff.mp h
    refine g_callV (J := sm_I239) 81 rfl (Nat.le_of_ble_eq_true rfl) rfl rfl (Nat.le_of_ble_eq_true rfl) s_280 (Nat.le_of_ble_eq_true rfl) (Nat.le_of_ble_eq_true rfl) rfl rfl (F_239 (d + 2) v1 hq1) ?_
    refine g_icmp_ge 174 84 rfl rfl (fun c2 => ?_) (fun c2 => ?_)
    · rw [if_pos c2] at h
      refine g_iinc (v := v8 + (-5)) 177 [(8, .int (v8 + (-5))), (0, .ref 280), (1, .int v1), (2, .int v2), (3, .int v3), (4, .int v4), (5, .int v5), (6, .long v6), (9, .int v9)] rfl rfl (Nat.le_of_ble_eq_true rfl) rfl rfl rfl ?_
      refine g_goto 66 rfl ?_
      exact g_sub (Sc rfl (Sc rfl (Sc rfl (Sc rfl (Sc rfl (Sc rfl (Sc rfl (Sc rfl (Sn _))))))))) (hk66 v1 v2 v3 v4 v5 v6 (v8 + (-5)) _ _ _ h)
    · rw [if_neg c2] at h
      refine g_aload_n 85 rfl rfl rfl ?_
      refine g_iload 87 rfl rfl rfl ?_
      obtain ⟨q3, hq3, h⟩ := Option.bind_eq_some_iff.mp h
      refine g_callV (J := sm_I214) 90 rfl (Nat.le_of_ble_eq_true rfl) rfl rfl (Nat.le_of_ble_eq_true rfl) s_280 (Nat.le_of_ble_eq_true rfl) (Nat.le_of_ble_eq_true rfl) rfl rfl (F_214 (d + 2) v9 hq3) ?_
      refine g_iconst (v := 1) 91 rfl rfl rfl ?_
      refine g_iadd 92 rfl rfl ?_
      refine g_iload_n 93 rfl rfl rfl ?_
      refine g_icmp_eq 99 96 rfl rfl (fun c4 => ?_) (fun c4 => ?_)
      · rw [if_pos c4] at h
        refine g_aload_n 100 rfl rfl rfl ?_
        refine g_iload_n 101 rfl rfl rfl ?_
        refine g_iload 103 rfl rfl rfl ?_
        obtain ⟨q5, hq5, h⟩ := Option.bind_eq_some_iff.mp h
        refine g_callV (J := sm_I234) 106 rfl (Nat.le_of_ble_eq_true rfl) rfl rfl (Nat.le_of_ble_eq_true rfl) s_280 (Nat.le_of_ble_eq_true rfl) (Nat.le_of_ble_eq_true rfl) rfl rfl (F_234 (d + 2) v1 v9 hq5) ?_
        refine g_aload_n 107 rfl rfl rfl ?_
        refine g_iload_n 108 rfl rfl rfl ?_
        refine g_iload 110 rfl rfl rfl ?_
        obtain ⟨q6, hq6, h⟩ := Option.bind_eq_some_iff.mp h
        refine g_callV (J := sm_I253) 113 rfl (Nat.le_of_ble_eq_true rfl) rfl rfl (Nat.le_of_ble_eq_true rfl) s_280 (Nat.le_of_ble_eq_true rfl) (Nat.le_of_ble_eq_true rfl) rfl rfl (F_253 (d + 1) v1 v8 hq6) ?_
        refine g_aload_n 114 rfl rfl rfl ?_
        refine g_iload_n 115 rfl rfl rfl ?_
        refine g_iload 117 rfl rfl rfl ?_
        obtain ⟨q7, hq7, h⟩ := Option.bind_eq_some_iff.mp h
        have r8 := (F_256 d v1 v8 hq7)
        refine g_callV (J := sm_I256) 120 rfl (Nat.le_of_ble_eq_true rfl) rfl rfl (Nat.le_of_ble_eq_true rfl) s_280 (Nat.le_of_ble_eq_true rfl) (Nat.le_of_ble_eq_true rfl) rfl rfl r8 ?_
        refine g_if_ne 126 123 rfl rfl (fun c9 => ?_) (fun c9 => ?_)
        · rw [if_neg c9] at h
          refine g_aload_n 127 rfl rfl rfl ?_
          refine g_iload_n 128 rfl rfl rfl ?_
          refine g_iload 130 rfl rfl rfl ?_
          obtain ⟨q10, hq10, h⟩ := Option.bind_eq_some_iff.mp h
          refine g_callV (J := sm_I257) 133 rfl (Nat.le_of_ble_eq_true rfl) rfl rfl (Nat.le_of_ble_eq_true rfl) s_280 (Nat.le_of_ble_eq_true rfl) (Nat.le_of_ble_eq_true rfl) rfl rfl (F_257 d v1 v8 hq10) ?_
          refine g_ldc2_w (v := 100) 136 rfl (by decide) rfl ?_
          refine g_iload_n 137 rfl rfl rfl ?_
          refine g_i2l 138 rfl rfl ?_
          refine g_lmul 139 rfl rfl ?_
          by_cases n11 : ¬ (100 * v2.toInt64) = 0
          case neg => rw [if_neg n11] at h; cases h
          rw [if_pos n11] at h
          refine g_ldiv 140 rfl n11 rfl ?_
          refine g_lstore 142 [(10, .long (q10.1 / (100 * v2.toInt64))), (0, .ref 280), (1, .int v1), (2, .int v2), (3, .int v3), (4, .int v4), (5, .int v5), (6, .long v6), (8, .int v8), (9, .int v9)] rfl (Nat.le_of_ble_eq_true rfl) rfl rfl ?_
          refine g_iload 144 rfl rfl rfl ?_
          refine g_iconst (v := (-1)) 145 rfl rfl rfl ?_
          refine g_icmp_eq 156 148 rfl rfl (fun c12 => ?_) (fun c12 => ?_)
          · rw [if_pos c12] at h
            refine g_lload 158 rfl rfl rfl ?_
            refine g_lstore 160 [(6, .long (q10.1 / (100 * v2.toInt64))), (10, .long (q10.1 / (100 * v2.toInt64))), (0, .ref 280), (1, .int v1), (2, .int v2), (3, .int v3), (4, .int v4), (5, .int v5), (8, .int v8), (9, .int v9)] rfl (Nat.le_of_ble_eq_true rfl) rfl rfl ?_
            refine g_iload 162 rfl rfl rfl ?_
            refine g_istore 164 [(4, .int v8), (6, .long (q10.1 / (100 * v2.toInt64))), (10, .long (q10.1 / (100 * v2.toInt64))), (0, .ref 280), (1, .int v1), (2, .int v2), (3, .int v3), (5, .int v5), (8, .int v8), (9, .int v9)] rfl (Nat.le_of_ble_eq_true rfl) rfl rfl ?_
            refine g_iload 166 rfl rfl rfl ?_
            refine g_istore 168 [(5, .int v9), (4, .int v8), (6, .long (q10.1 / (100 * v2.toInt64))), (10, .long (q10.1 / (100 * v2.toInt64))), (0, .ref 280), (1, .int v1), (2, .int v2), (3, .int v3), (8, .int v8), (9, .int v9)] rfl (Nat.le_of_ble_eq_true rfl) rfl rfl ?_
            refine g_iinc (v := v9 + 1) 171 [(9, .int (v9 + 1)), (5, .int v9), (4, .int v8), (6, .long (q10.1 / (100 * v2.toInt64))), (10, .long (q10.1 / (100 * v2.toInt64))), (0, .ref 280), (1, .int v1), (2, .int v2), (3, .int v3), (8, .int v8)] rfl rfl (Nat.le_of_ble_eq_true rfl) rfl rfl rfl ?_
            refine g_goto 74 rfl ?_
            exact g_sub (Sc rfl (Sc rfl (Sc rfl (Sc rfl (Sc rfl (Sc rfl (Sc rfl (Sc rfl (Sc rfl (Sn _)))))))))) (ih v1 v2 v3 v8 v9 (q10.1 / (100 * v2.toInt64)) v8 (v9 + 1) _ _ _ h)
          · rw [if_neg c12] at h
            refine g_lload 150 rfl rfl rfl ?_
            refine g_lload 152 rfl rfl rfl ?_
            refine g_lcmp 153 rfl rfl ?_
            refine g_if_ge 168 156 rfl rfl (fun c13 => ?_) (fun c13 => ?_)
            · rw [if_pos c13] at h
              refine g_iinc (v := v9 + 1) 171 [(9, .int (v9 + 1)), (10, .long (q10.1 / (100 * v2.toInt64))), (0, .ref 280), (1, .int v1), (2, .int v2), (3, .int v3), (4, .int v4), (5, .int v5), (6, .long v6), (8, .int v8)] rfl rfl (Nat.le_of_ble_eq_true rfl) rfl rfl rfl ?_
              refine g_goto 74 rfl ?_
              exact g_sub (Sc rfl (Sc rfl (Sc rfl (Sc rfl (Sc rfl (Sc rfl (Sc rfl (Sc rfl (Sc rfl (Sn _)))))))))) (ih v1 v2 v3 v4 v5 v6 v8 (v9 + 1) _ _ _ h)
            · rw [if_neg c13] at h
              refine g_lload 158 rfl rfl rfl ?_
              refine g_lstore 160 [(6, .long (q10.1 / (100 * v2.toInt64))), (10, .long (q10.1 / (100 * v2.toInt64))), (0, .ref 280), (1, .int v1), (2, .int v2), (3, .int v3), (4, .int v4), (5, .int v5), (8, .int v8), (9, .int v9)] rfl (Nat.le_of_ble_eq_true rfl) rfl rfl ?_
              refine g_iload 162 rfl rfl rfl ?_
              refine g_istore 164 [(4, .int v8), (6, .long (q10.1 / (100 * v2.toInt64))), (10, .long (q10.1 / (100 * v2.toInt64))), (0, .ref 280), (1, .int v1), (2, .int v2), (3, .int v3), (5, .int v5), (8, .int v8), (9, .int v9)] rfl (Nat.le_of_ble_eq_true rfl) rfl rfl ?_
              refine g_iload 166 rfl rfl rfl ?_
              refine g_istore 168 [(5, .int v9), (4, .int v8), (6, .long (q10.1 / (100 * v2.toInt64))), (10, .long (q10.1 / (100 * v2.toInt64))), (0, .ref 280), (1, .int v1), (2, .int v2), (3, .int v3), (8, .int v8), (9, .int v9)] rfl (Nat.le_of_ble_eq_true rfl) rfl rfl ?_
              refine g_iinc (v := v9 + 1) 171 [(9, .int (v9 + 1)), (5, .int v9), (4, .int v8), (6, .long (q10.1 / (100 * v2.toInt64))), (10, .long (q10.1 / (100 * v2.toInt64))), (0, .ref 280), (1, .int v1), (2, .int v2), (3, .int v3), (8, .int v8)] rfl rfl (Nat.le_of_ble_eq_true rfl) rfl rfl rfl ?_
              refine g_goto 74 rfl ?_
              exact g_sub (Sc rfl (Sc rfl (Sc rfl (Sc rfl (Sc rfl (Sc rfl (Sc rfl (Sc rfl (Sc rfl (Sn _)))))))))) (ih v1 v2 v3 v8 v9 (q10.1 / (100 * v2.toInt64)) v8 (v9 + 1) _ _ _ h)
        · rw [if_pos c9] at h
          refine g_goto 168 rfl ?_
          refine g_iinc (v := v9 + 1) 171 [(9, .int (v9 + 1)), (0, .ref 280), (1, .int v1), (2, .int v2), (3, .int v3), (4, .int v4), (5, .int v5), (6, .long v6), (8, .int v8)] rfl rfl (Nat.le_of_ble_eq_true rfl) rfl rfl rfl ?_
          refine g_goto 74 rfl ?_
          exact g_sub (Sc rfl (Sc rfl (Sc rfl (Sc rfl (Sc rfl (Sc rfl (Sc rfl (Sc rfl (Sc rfl (Sn _)))))))))) (ih v1 v2 v3 v4 v5 v6 v8 (v9 + 1) _ _ _ h)
      · rw [if_neg c4] at h
        refine g_goto 168 rfl ?_
        refine g_iinc (v := v9 + 1) 171 [(9, .int (v9 + 1)), (0, .ref 280), (1, .int v1), (2, .int v2), (3, .int v3), (4, .int v4), (5, .int v5), (6, .long v6), (8, .int v8)] rfl rfl (Nat.le_of_ble_eq_true rfl) rfl rfl rfl ?_
        refine g_goto 74 rfl ?_
        exact g_sub (Sc rfl (Sc rfl (Sc rfl (Sc rfl (Sc rfl (Sc rfl (Sc rfl (Sc rfl (Sc rfl (Sn _)))))))))) (ih v1 v2 v3 v4 v5 v6 v8 (v9 + 1) _ _ _ h)
def f_258_66 : Nat → Int32 → Int32 → Int32 → Int32 → Int32 → Int64 → Int32 → sU → Option (Int32 × sU)
  | 0, _, _, _, _, _, _, _, _ => none
  | n + 1, v1, v2, v3, v4, v5, v6, v8, U =>
    if v8 < 0 then
      if v3 = 0 then
        some (v4, U)
      else
        some (v5, U)
    else
      f_258_74 (fun v1 v2 v3 v4 v5 v6 v8 U => f_258_66 n v1 v2 v3 v4 v5 v6 v8 U) FU v1 v2 v3 v4 v5 v6 v8 0 U
set_option maxRecDepth 10000 in
set_option maxHeartbeats 2000000 in
theorem F_258_66 (d : Nat)   : ∀ (n : Nat) (v1 : Int32) (v2 : Int32) (v3 : Int32) (v4 : Int32) (v5 : Int32) (v6 : Int64) (v8 : Int32) (U : sU) (r : Int32) (U' : sU), f_258_66 n v1 v2 v3 v4 v5 v6 v8 U = some (r, U') → G (d + 3) sm_I258 66 [(0, .ref 280), (1, .int v1), (2, .int v2), (3, .int v3), (4, .int v4), (5, .int v5), (6, .long v6), (8, .int v8)] [] U (some (.int r)) U' := by
  intro n
  induction n with
  | zero => intro v1 v2 v3 v4 v5 v6 v8 U r U' h; cases h
  | succ n ih =>
    intro v1 v2 v3 v4 v5 v6 v8 U r U' h
    first | rw [f_258_66] at h | (rw [f_258_66.eq_def] at h; dsimp only at h)
    refine g_iload 68 rfl rfl rfl ?_
    refine g_if_lt 180 71 rfl rfl (fun c14 => ?_) (fun c14 => ?_)
    · rw [if_pos c14] at h
      refine g_iload_n 181 rfl rfl rfl ?_
      refine g_if_ne 189 184 rfl rfl (fun c15 => ?_) (fun c15 => ?_)
      · rw [if_neg c15] at h
        refine g_iload 191 rfl rfl rfl ?_
        cases h
        exact g_iret rfl rfl
      · rw [if_pos c15] at h
        refine g_iload 186 rfl rfl rfl ?_
        refine g_goto 191 rfl ?_
        cases h
        exact g_iret rfl rfl
    · rw [if_neg c14] at h
      refine g_iconst (v := 0) 72 rfl rfl rfl ?_
      refine g_istore 74 [(9, .int 0), (0, .ref 280), (1, .int v1), (2, .int v2), (3, .int v3), (4, .int v4), (5, .int v5), (6, .long v6), (8, .int v8)] rfl (Nat.le_of_ble_eq_true rfl) rfl rfl ?_
      exact g_sub (Sc rfl (Sc rfl (Sc rfl (Sc rfl (Sc rfl (Sc rfl (Sc rfl (Sc rfl (Sc rfl (Sn _)))))))))) (F_258_74 d (fun v1 v2 v3 v4 v5 v6 v8 U r U' h => ih v1 v2 v3 v4 v5 v6 v8 U r U' h) _ v1 v2 v3 v4 v5 v6 v8 0 _ _ _ h)
def f_258 (x1 : Int32) (x2 : Int32) (x3 : Int32) (U : sU) : Option (Int32 × sU) :=
  if (f_178 x1 U) = 0 then
    Option.bind (f_176 ((-1)) U) fun q28 =>
    some (q28.1, q28.2)
  else
    if x2 < 1 then
      Option.bind (f_176 ((-6)) U) fun q19 =>
      some (q19.1, q19.2)
    else
      if 12 < x2 then
        Option.bind (f_176 ((-6)) U) fun q21 =>
        some (q21.1, q21.2)
      else
        if x3 < 0 then
          Option.bind (f_176 ((-6)) U) fun q23 =>
          some (q23.1, q23.2)
        else
          if x3 ≤ 1 then
            if ib x1 8 then
            if x2 ≤ (U.1 291 x1.toNatClampNeg) then
              f_258_66 FU x1 x2 x3 ((-1)) ((-1)) 0 100 U
            else
              some ((-1), U)
            else none
          else
            Option.bind (f_176 ((-6)) U) fun q27 =>
            some (q27.1, q27.2)
set_option maxRecDepth 10000 in
set_option maxHeartbeats 2000000 in
theorem F_258 (d : Nat) (x1 : Int32) (x2 : Int32) (x3 : Int32) {U : sU} {r : Int32} {U' : sU} (h : f_258 x1 x2 x3 U = some (r, U')) : Rn (d + 3) sm_I258 [.ref 280, .int x1, .int x2, .int x3] U (some (.int r)) U' := by
  refine Rn_of [(0, .ref 280), (1, .int x1), (2, .int x2), (3, .int x3)] (Nat.le_of_ble_eq_true rfl) (Sc rfl (Sc rfl (Sc rfl (Sc rfl (Sn _))))) ?_
  first | rw [f_258] at h | rw [f_258.eq_def] at h
  refine g_aload_n 1 rfl rfl rfl ?_
  refine g_iload_n 2 rfl rfl rfl ?_
  have r16 := F_178 (d + 2) x1 U
  refine g_callV (J := sm_I178) 5 rfl (Nat.le_of_ble_eq_true rfl) rfl rfl (Nat.le_of_ble_eq_true rfl) s_280 (Nat.le_of_ble_eq_true rfl) (Nat.le_of_ble_eq_true rfl) rfl rfl r16 ?_
  refine g_if_ne 14 8 rfl rfl (fun c17 => ?_) (fun c17 => ?_)
  · rw [if_neg c17] at h
    refine g_iload_n 15 rfl rfl rfl ?_
    refine g_iconst (v := 1) 16 rfl rfl rfl ?_
    refine g_icmp_lt 34 19 rfl rfl (fun c18 => ?_) (fun c18 => ?_)
    · rw [if_pos c18] at h
      refine g_aload_n 35 rfl rfl rfl ?_
      refine g_bipush (v := (-6)) 37 rfl (by decide) rfl ?_
      obtain ⟨q19, hq19, h⟩ := Option.bind_eq_some_iff.mp h
      refine g_callV (J := sm_I176) 40 rfl (Nat.le_of_ble_eq_true rfl) rfl rfl (Nat.le_of_ble_eq_true rfl) s_280 (Nat.le_of_ble_eq_true rfl) (Nat.le_of_ble_eq_true rfl) rfl rfl (F_176 (d + 2) ((-6)) hq19) ?_
      cases h
      exact g_iret rfl rfl
    · rw [if_neg c18] at h
      refine g_iload_n 20 rfl rfl rfl ?_
      refine g_bipush (v := 12) 22 rfl (by decide) rfl ?_
      refine g_icmp_gt 34 25 rfl rfl (fun c20 => ?_) (fun c20 => ?_)
      · rw [if_pos c20] at h
        refine g_aload_n 35 rfl rfl rfl ?_
        refine g_bipush (v := (-6)) 37 rfl (by decide) rfl ?_
        obtain ⟨q21, hq21, h⟩ := Option.bind_eq_some_iff.mp h
        refine g_callV (J := sm_I176) 40 rfl (Nat.le_of_ble_eq_true rfl) rfl rfl (Nat.le_of_ble_eq_true rfl) s_280 (Nat.le_of_ble_eq_true rfl) (Nat.le_of_ble_eq_true rfl) rfl rfl (F_176 (d + 2) ((-6)) hq21) ?_
        cases h
        exact g_iret rfl rfl
      · rw [if_neg c20] at h
        refine g_iload_n 26 rfl rfl rfl ?_
        refine g_if_lt 34 29 rfl rfl (fun c22 => ?_) (fun c22 => ?_)
        · rw [if_pos c22] at h
          refine g_aload_n 35 rfl rfl rfl ?_
          refine g_bipush (v := (-6)) 37 rfl (by decide) rfl ?_
          obtain ⟨q23, hq23, h⟩ := Option.bind_eq_some_iff.mp h
          refine g_callV (J := sm_I176) 40 rfl (Nat.le_of_ble_eq_true rfl) rfl rfl (Nat.le_of_ble_eq_true rfl) s_280 (Nat.le_of_ble_eq_true rfl) (Nat.le_of_ble_eq_true rfl) rfl rfl (F_176 (d + 2) ((-6)) hq23) ?_
          cases h
          exact g_iret rfl rfl
        · rw [if_neg c22] at h
          refine g_iload_n 30 rfl rfl rfl ?_
          refine g_iconst (v := 1) 31 rfl rfl rfl ?_
          refine g_icmp_le 41 34 rfl rfl (fun c24 => ?_) (fun c24 => ?_)
          · rw [if_pos c24] at h
            refine g_iconst (v := (-1)) 42 rfl rfl rfl ?_
            refine g_istore 44 [(4, .int ((-1))), (0, .ref 280), (1, .int x1), (2, .int x2), (3, .int x3)] rfl (Nat.le_of_ble_eq_true rfl) rfl rfl ?_
            refine g_iconst (v := (-1)) 45 rfl rfl rfl ?_
            refine g_istore 47 [(5, .int ((-1))), (4, .int ((-1))), (0, .ref 280), (1, .int x1), (2, .int x2), (3, .int x3)] rfl (Nat.le_of_ble_eq_true rfl) rfl rfl ?_
            refine g_lconst (v := 0) 48 rfl rfl rfl ?_
            refine g_lstore 50 [(6, .long 0), (5, .int ((-1))), (4, .int ((-1))), (0, .ref 280), (1, .int x1), (2, .int x2), (3, .int x3)] rfl (Nat.le_of_ble_eq_true rfl) rfl rfl ?_
            refine g_iload_n 51 rfl rfl rfl ?_
            refine g_aload_n 52 rfl rfl rfl ?_
            refine g_get 55 rfl s_280 (Nat.le_of_ble_eq_true rfl) rfl rfl ?_
            refine g_iload_n 56 rfl rfl rfl ?_
            by_cases i25 : ib x1 8
            case neg => rw [if_neg i25] at h; cases h
            rw [if_pos i25] at h
            refine g_iald 57 rfl s_291 l_291 i25 rfl ?_
            refine g_icmp_le 62 60 rfl rfl (fun c26 => ?_) (fun c26 => ?_)
            · rw [if_pos c26] at h
              refine g_bipush (v := 100) 64 rfl (by decide) rfl ?_
              refine g_istore 66 [(8, .int 100), (6, .long 0), (5, .int ((-1))), (4, .int ((-1))), (0, .ref 280), (1, .int x1), (2, .int x2), (3, .int x3)] rfl (Nat.le_of_ble_eq_true rfl) rfl rfl ?_
              exact g_sub (Sc rfl (Sc rfl (Sc rfl (Sc rfl (Sc rfl (Sc rfl (Sc rfl (Sc rfl (Sn _))))))))) (F_258_66 d _ x1 x2 x3 ((-1)) ((-1)) 0 100 _ _ _ h)
            · rw [if_neg c26] at h
              refine g_iconst (v := (-1)) 61 rfl rfl rfl ?_
              cases h
              exact g_iret rfl rfl
          · rw [if_neg c24] at h
            refine g_aload_n 35 rfl rfl rfl ?_
            refine g_bipush (v := (-6)) 37 rfl (by decide) rfl ?_
            obtain ⟨q27, hq27, h⟩ := Option.bind_eq_some_iff.mp h
            refine g_callV (J := sm_I176) 40 rfl (Nat.le_of_ble_eq_true rfl) rfl rfl (Nat.le_of_ble_eq_true rfl) s_280 (Nat.le_of_ble_eq_true rfl) (Nat.le_of_ble_eq_true rfl) rfl rfl (F_176 (d + 2) ((-6)) hq27) ?_
            cases h
            exact g_iret rfl rfl
  · rw [if_pos c17] at h
    refine g_aload_n 9 rfl rfl rfl ?_
    refine g_iconst (v := (-1)) 10 rfl rfl rfl ?_
    obtain ⟨q28, hq28, h⟩ := Option.bind_eq_some_iff.mp h
    refine g_callV (J := sm_I176) 13 rfl (Nat.le_of_ble_eq_true rfl) rfl rfl (Nat.le_of_ble_eq_true rfl) s_280 (Nat.le_of_ble_eq_true rfl) (Nat.le_of_ble_eq_true rfl) rfl rfl (F_176 (d + 2) ((-1)) hq28) ?_
    cases h
    exact g_iret rfl rfl

def f_259_74 (k6 : Int32 → Int32 → Int32 → Int64 → Int32 → sU → Option Int64) (v1 : Int32) (v2 : Int32) (v3 : Int32) (v4 : Int64) (v6 : Int32) (v7 : Int32) (z0 : Int32) (U : sU) : Option Int64 :=
  if ib ((12 * v1) + v6) 96 then
  if ib v1 8 then
  Option.bind (f_208 v1 (((z0 - v7) - (U.1 290 v1.toNatClampNeg)).toInt64) U) fun q3 =>
  k6 v1 v2 v3 (v4 + (((U.1 297 ((12 * v1) + v6).toNatClampNeg).toInt64) * q3)) (v6 + 1) U
  else none
  else none
set_option maxRecDepth 10000 in
set_option maxHeartbeats 2000000 in
theorem F_259_74 (d : Nat) {k6 : Int32 → Int32 → Int32 → Int64 → Int32 → sU → Option Int64} (hk6 : ∀ (v1 : Int32) (v2 : Int32) (v3 : Int32) (v4 : Int64) (v6 : Int32) (U : sU) (r : Int64), k6 v1 v2 v3 v4 v6 U = some r → G (d + 1) sm_I259 6 [(0, .ref 280), (1, .int v1), (2, .int v2), (3, .int v3), (4, .long v4), (6, .int v6)] [] U (some (.long r)) U) (v1 : Int32) (v2 : Int32) (v3 : Int32) (v4 : Int64) (v6 : Int32) (v7 : Int32) (z0 : Int32) {U : sU} {r : Int64} (h : f_259_74 k6 v1 v2 v3 v4 v6 v7 z0 U = some r) : G (d + 1) sm_I259 74 [(0, .ref 280), (1, .int v1), (2, .int v2), (3, .int v3), (4, .long v4), (6, .int v6), (7, .int v7)] [.int z0] U (some (.long r)) U := by
  first | rw [f_259_74] at h | rw [f_259_74.eq_def] at h
  refine g_istore 76 [(8, .int z0), (0, .ref 280), (1, .int v1), (2, .int v2), (3, .int v3), (4, .long v4), (6, .int v6), (7, .int v7)] rfl (Nat.le_of_ble_eq_true rfl) rfl rfl ?_
  refine g_lload 78 rfl rfl rfl ?_
  refine g_aload_n 79 rfl rfl rfl ?_
  refine g_get 82 rfl s_280 (Nat.le_of_ble_eq_true rfl) rfl rfl ?_
  refine g_bipush (v := 12) 84 rfl (by decide) rfl ?_
  refine g_iload_n 85 rfl rfl rfl ?_
  refine g_imul 86 rfl rfl ?_
  refine g_iload 88 rfl rfl rfl ?_
  refine g_iadd 89 rfl rfl ?_
  by_cases i1 : ib ((12 * v1) + v6) 96
  case neg => rw [if_neg i1] at h; cases h
  rw [if_pos i1] at h
  refine g_iald 90 rfl s_297 l_297 i1 rfl ?_
  refine g_i2l 91 rfl rfl ?_
  refine g_aload_n 92 rfl rfl rfl ?_
  refine g_iload_n 93 rfl rfl rfl ?_
  refine g_iload 95 rfl rfl rfl ?_
  refine g_iload 97 rfl rfl rfl ?_
  refine g_isub 98 rfl rfl ?_
  refine g_aload_n 99 rfl rfl rfl ?_
  refine g_get 102 rfl s_280 (Nat.le_of_ble_eq_true rfl) rfl rfl ?_
  refine g_iload_n 103 rfl rfl rfl ?_
  by_cases i2 : ib v1 8
  case neg => rw [if_neg i2] at h; cases h
  rw [if_pos i2] at h
  refine g_iald 104 rfl s_290 l_290 i2 rfl ?_
  refine g_isub 105 rfl rfl ?_
  refine g_i2l 106 rfl rfl ?_
  obtain ⟨q3, hq3, h⟩ := Option.bind_eq_some_iff.mp h
  refine g_callV (J := sm_I208) 109 rfl (Nat.le_of_ble_eq_true rfl) rfl rfl (Nat.le_of_ble_eq_true rfl) s_280 (Nat.le_of_ble_eq_true rfl) (Nat.le_of_ble_eq_true rfl) rfl rfl (F_208 d v1 (((z0 - v7) - (U.1 290 v1.toNatClampNeg)).toInt64) hq3) ?_
  refine g_lmul 110 rfl rfl ?_
  refine g_ladd 111 rfl rfl ?_
  refine g_lstore 113 [(4, .long (v4 + (((U.1 297 ((12 * v1) + v6).toNatClampNeg).toInt64) * q3))), (8, .int z0), (0, .ref 280), (1, .int v1), (2, .int v2), (3, .int v3), (6, .int v6), (7, .int v7)] rfl (Nat.le_of_ble_eq_true rfl) rfl rfl ?_
  refine g_iinc (v := v6 + 1) 116 [(6, .int (v6 + 1)), (4, .long (v4 + (((U.1 297 ((12 * v1) + v6).toNatClampNeg).toInt64) * q3))), (8, .int z0), (0, .ref 280), (1, .int v1), (2, .int v2), (3, .int v3), (7, .int v7)] rfl rfl (Nat.le_of_ble_eq_true rfl) rfl rfl rfl ?_
  refine g_goto 6 rfl ?_
  exact g_sub (Sc rfl (Sc rfl (Sc rfl (Sc rfl (Sc rfl (Sc rfl (Sn _))))))) (hk6 v1 v2 v3 (v4 + (((U.1 297 ((12 * v1) + v6).toNatClampNeg).toInt64) * q3)) (v6 + 1) _ _ h)
def f_259_6 : Nat → Int32 → Int32 → Int32 → Int64 → Int32 → sU → Option Int64
  | 0, _, _, _, _, _, _ => none
  | n + 1, v1, v2, v3, v4, v6, U =>
    if ib v1 8 then
    if (U.1 288 v1.toNatClampNeg) ≤ v6 then
      some v4
    else
      if ib ((12 * v1) + v6) 96 then
      if ib v1 8 then
      if v2 ≤ ((U.1 296 ((12 * v1) + v6).toNatClampNeg) + (U.1 289 v1.toNatClampNeg)) then
        if ib v1 8 then
        if ((U.1 296 ((12 * v1) + v6).toNatClampNeg) + (U.1 289 v1.toNatClampNeg)) ≤ v3 then
          if ib v1 8 then
          f_259_74 (fun v1 v2 v3 v4 v6 U => f_259_6 n v1 v2 v3 v4 v6 U) v1 v2 v3 v4 v6 (U.1 296 ((12 * v1) + v6).toNatClampNeg) ((U.1 296 ((12 * v1) + v6).toNatClampNeg) + (U.1 289 v1.toNatClampNeg)) U
          else none
        else
          f_259_74 (fun v1 v2 v3 v4 v6 U => f_259_6 n v1 v2 v3 v4 v6 U) v1 v2 v3 v4 v6 (U.1 296 ((12 * v1) + v6).toNatClampNeg) v3 U
        else none
      else
        f_259_74 (fun v1 v2 v3 v4 v6 U => f_259_6 n v1 v2 v3 v4 v6 U) v1 v2 v3 v4 v6 (U.1 296 ((12 * v1) + v6).toNatClampNeg) v2 U
      else none
      else none
    else none
set_option maxRecDepth 10000 in
set_option maxHeartbeats 2000000 in
theorem F_259_6 (d : Nat)   : ∀ (n : Nat) (v1 : Int32) (v2 : Int32) (v3 : Int32) (v4 : Int64) (v6 : Int32) (U : sU) (r : Int64), f_259_6 n v1 v2 v3 v4 v6 U = some r → G (d + 1) sm_I259 6 [(0, .ref 280), (1, .int v1), (2, .int v2), (3, .int v3), (4, .long v4), (6, .int v6)] [] U (some (.long r)) U := by
  intro n
  induction n with
  | zero => intro v1 v2 v3 v4 v6 U r h; cases h
  | succ n ih =>
    intro v1 v2 v3 v4 v6 U r h
    first | rw [f_259_6] at h | (rw [f_259_6.eq_def] at h; dsimp only at h)
    refine g_iload 8 rfl rfl rfl ?_
    refine g_aload_n 9 rfl rfl rfl ?_
    refine g_get 12 rfl s_280 (Nat.le_of_ble_eq_true rfl) rfl rfl ?_
    refine g_iload_n 13 rfl rfl rfl ?_
    by_cases i4 : ib v1 8
    case neg => rw [if_neg i4] at h; cases h
    rw [if_pos i4] at h
    refine g_iald 14 rfl s_288 l_288 i4 rfl ?_
    refine g_icmp_ge 119 17 rfl rfl (fun c5 => ?_) (fun c5 => ?_)
    · rw [if_pos c5] at h
      refine g_lload 121 rfl rfl rfl ?_
      cases h
      exact g_lret rfl rfl
    · rw [if_neg c5] at h
      refine g_aload_n 18 rfl rfl rfl ?_
      refine g_get 21 rfl s_280 (Nat.le_of_ble_eq_true rfl) rfl rfl ?_
      refine g_bipush (v := 12) 23 rfl (by decide) rfl ?_
      refine g_iload_n 24 rfl rfl rfl ?_
      refine g_imul 25 rfl rfl ?_
      refine g_iload 27 rfl rfl rfl ?_
      refine g_iadd 28 rfl rfl ?_
      by_cases i6 : ib ((12 * v1) + v6) 96
      case neg => rw [if_neg i6] at h; cases h
      rw [if_pos i6] at h
      refine g_iald 29 rfl s_296 l_296 i6 rfl ?_
      refine g_istore 31 [(7, .int (U.1 296 ((12 * v1) + v6).toNatClampNeg)), (0, .ref 280), (1, .int v1), (2, .int v2), (3, .int v3), (4, .long v4), (6, .int v6)] rfl (Nat.le_of_ble_eq_true rfl) rfl rfl ?_
      refine g_iload 33 rfl rfl rfl ?_
      refine g_aload_n 34 rfl rfl rfl ?_
      refine g_get 37 rfl s_280 (Nat.le_of_ble_eq_true rfl) rfl rfl ?_
      refine g_iload_n 38 rfl rfl rfl ?_
      by_cases i7 : ib v1 8
      case neg => rw [if_neg i7] at h; cases h
      rw [if_pos i7] at h
      refine g_iald 39 rfl s_289 l_289 i7 rfl ?_
      refine g_iadd 40 rfl rfl ?_
      refine g_iload_n 41 rfl rfl rfl ?_
      refine g_icmp_ge 48 44 rfl rfl (fun c8 => ?_) (fun c8 => ?_)
      · rw [if_pos c8] at h
        refine g_iload 50 rfl rfl rfl ?_
        refine g_aload_n 51 rfl rfl rfl ?_
        refine g_get 54 rfl s_280 (Nat.le_of_ble_eq_true rfl) rfl rfl ?_
        refine g_iload_n 55 rfl rfl rfl ?_
        by_cases i9 : ib v1 8
        case neg => rw [if_neg i9] at h; cases h
        rw [if_pos i9] at h
        refine g_iald 56 rfl s_289 l_289 i9 rfl ?_
        refine g_iadd 57 rfl rfl ?_
        refine g_iload_n 58 rfl rfl rfl ?_
        refine g_icmp_le 65 61 rfl rfl (fun c10 => ?_) (fun c10 => ?_)
        · rw [if_pos c10] at h
          refine g_iload 67 rfl rfl rfl ?_
          refine g_aload_n 68 rfl rfl rfl ?_
          refine g_get 71 rfl s_280 (Nat.le_of_ble_eq_true rfl) rfl rfl ?_
          refine g_iload_n 72 rfl rfl rfl ?_
          by_cases i11 : ib v1 8
          case neg => rw [if_neg i11] at h; cases h
          rw [if_pos i11] at h
          refine g_iald 73 rfl s_289 l_289 i11 rfl ?_
          refine g_iadd 74 rfl rfl ?_
          exact g_sub (Sc rfl (Sc rfl (Sc rfl (Sc rfl (Sc rfl (Sc rfl (Sc rfl (Sn _)))))))) (F_259_74 d (fun v1 v2 v3 v4 v6 U r h => ih v1 v2 v3 v4 v6 U r h) v1 v2 v3 v4 v6 (U.1 296 ((12 * v1) + v6).toNatClampNeg) ((U.1 296 ((12 * v1) + v6).toNatClampNeg) + (U.1 289 v1.toNatClampNeg)) h)
        · rw [if_neg c10] at h
          refine g_iload_n 62 rfl rfl rfl ?_
          refine g_goto 74 rfl ?_
          exact g_sub (Sc rfl (Sc rfl (Sc rfl (Sc rfl (Sc rfl (Sc rfl (Sc rfl (Sn _)))))))) (F_259_74 d (fun v1 v2 v3 v4 v6 U r h => ih v1 v2 v3 v4 v6 U r h) v1 v2 v3 v4 v6 (U.1 296 ((12 * v1) + v6).toNatClampNeg) v3 h)
      · rw [if_neg c8] at h
        refine g_iload_n 45 rfl rfl rfl ?_
        refine g_goto 74 rfl ?_
        exact g_sub (Sc rfl (Sc rfl (Sc rfl (Sc rfl (Sc rfl (Sc rfl (Sc rfl (Sn _)))))))) (F_259_74 d (fun v1 v2 v3 v4 v6 U r h => ih v1 v2 v3 v4 v6 U r h) v1 v2 v3 v4 v6 (U.1 296 ((12 * v1) + v6).toNatClampNeg) v2 h)
def f_259 (x1 : Int32) (x2 : Int32) (x3 : Int32) (U : sU) : Option Int64 :=
  f_259_6 FU x1 x2 x3 0 0 U
set_option maxRecDepth 10000 in
set_option maxHeartbeats 2000000 in
theorem F_259 (d : Nat) (x1 : Int32) (x2 : Int32) (x3 : Int32) {U : sU} {r : Int64} (h : f_259 x1 x2 x3 U = some r) : Rn (d + 1) sm_I259 [.ref 280, .int x1, .int x2, .int x3] U (some (.long r)) U := by
  refine Rn_of [(0, .ref 280), (1, .int x1), (2, .int x2), (3, .int x3)] (Nat.le_of_ble_eq_true rfl) (Sc rfl (Sc rfl (Sc rfl (Sc rfl (Sn _))))) ?_
  first | rw [f_259] at h | rw [f_259.eq_def] at h
  refine g_lconst (v := 0) 1 rfl rfl rfl ?_
  refine g_lstore 3 [(4, .long 0), (0, .ref 280), (1, .int x1), (2, .int x2), (3, .int x3)] rfl (Nat.le_of_ble_eq_true rfl) rfl rfl ?_
  refine g_iconst (v := 0) 4 rfl rfl rfl ?_
  refine g_istore 6 [(6, .int 0), (4, .long 0), (0, .ref 280), (1, .int x1), (2, .int x2), (3, .int x3)] rfl (Nat.le_of_ble_eq_true rfl) rfl rfl ?_
  exact g_sub (Sc rfl (Sc rfl (Sc rfl (Sc rfl (Sc rfl (Sc rfl (Sn _))))))) (F_259_6 d _ x1 x2 x3 0 0 _ _ h)

def f_260 (x1 : Int32) (x2 : Int32) (x3 : Int32) (U : sU) : Option (Int64 × sU) :=
  if (f_178 x1 U) = 0 then
    Option.bind (f_175 ((-5)) U) fun q3 =>
    some (q3.1.toInt64, q3.2)
  else
    if x2 < 0 then
      Option.bind (f_175 ((-5)) U) fun q5 =>
      some (q5.1.toInt64, q5.2)
    else
      if 999 < x3 then
        Option.bind (f_175 ((-5)) U) fun q7 =>
        some (q7.1.toInt64, q7.2)
      else
        if x2 ≤ x3 then
          Option.bind (f_259 x1 x2 x3 U) fun q9 =>
          some (q9, U)
        else
          Option.bind (f_175 ((-5)) U) fun q10 =>
          some (q10.1.toInt64, q10.2)
set_option maxRecDepth 10000 in
set_option maxHeartbeats 2000000 in
theorem F_260 (d : Nat) (x1 : Int32) (x2 : Int32) (x3 : Int32) {U : sU} {r : Int64} {U' : sU} (h : f_260 x1 x2 x3 U = some (r, U')) : Rn (d + 2) sm_I260 [.ref 280, .int x1, .int x2, .int x3] U (some (.long r)) U' := by
  refine Rn_of [(0, .ref 280), (1, .int x1), (2, .int x2), (3, .int x3)] (Nat.le_of_ble_eq_true rfl) (Sc rfl (Sc rfl (Sc rfl (Sc rfl (Sn _))))) ?_
  first | rw [f_260] at h | rw [f_260.eq_def] at h
  refine g_aload_n 1 rfl rfl rfl ?_
  refine g_iload_n 2 rfl rfl rfl ?_
  have r1 := F_178 (d + 1) x1 U
  refine g_callV (J := sm_I178) 5 rfl (Nat.le_of_ble_eq_true rfl) rfl rfl (Nat.le_of_ble_eq_true rfl) s_280 (Nat.le_of_ble_eq_true rfl) (Nat.le_of_ble_eq_true rfl) rfl rfl r1 ?_
  refine g_if_eq 24 8 rfl rfl (fun c2 => ?_) (fun c2 => ?_)
  · rw [if_pos c2] at h
    refine g_aload_n 25 rfl rfl rfl ?_
    refine g_bipush (v := (-5)) 27 rfl (by decide) rfl ?_
    obtain ⟨q3, hq3, h⟩ := Option.bind_eq_some_iff.mp h
    refine g_callV (J := sm_I175) 30 rfl (Nat.le_of_ble_eq_true rfl) rfl rfl (Nat.le_of_ble_eq_true rfl) s_280 (Nat.le_of_ble_eq_true rfl) (Nat.le_of_ble_eq_true rfl) rfl rfl (F_175 (d + 1) ((-5)) hq3) ?_
    refine g_i2l 31 rfl rfl ?_
    cases h
    exact g_lret rfl rfl
  · rw [if_neg c2] at h
    refine g_iload_n 9 rfl rfl rfl ?_
    refine g_if_lt 24 12 rfl rfl (fun c4 => ?_) (fun c4 => ?_)
    · rw [if_pos c4] at h
      refine g_aload_n 25 rfl rfl rfl ?_
      refine g_bipush (v := (-5)) 27 rfl (by decide) rfl ?_
      obtain ⟨q5, hq5, h⟩ := Option.bind_eq_some_iff.mp h
      refine g_callV (J := sm_I175) 30 rfl (Nat.le_of_ble_eq_true rfl) rfl rfl (Nat.le_of_ble_eq_true rfl) s_280 (Nat.le_of_ble_eq_true rfl) (Nat.le_of_ble_eq_true rfl) rfl rfl (F_175 (d + 1) ((-5)) hq5) ?_
      refine g_i2l 31 rfl rfl ?_
      cases h
      exact g_lret rfl rfl
    · rw [if_neg c4] at h
      refine g_iload_n 13 rfl rfl rfl ?_
      refine g_sipush (v := 999) 16 rfl (by decide) rfl ?_
      refine g_icmp_gt 24 19 rfl rfl (fun c6 => ?_) (fun c6 => ?_)
      · rw [if_pos c6] at h
        refine g_aload_n 25 rfl rfl rfl ?_
        refine g_bipush (v := (-5)) 27 rfl (by decide) rfl ?_
        obtain ⟨q7, hq7, h⟩ := Option.bind_eq_some_iff.mp h
        refine g_callV (J := sm_I175) 30 rfl (Nat.le_of_ble_eq_true rfl) rfl rfl (Nat.le_of_ble_eq_true rfl) s_280 (Nat.le_of_ble_eq_true rfl) (Nat.le_of_ble_eq_true rfl) rfl rfl (F_175 (d + 1) ((-5)) hq7) ?_
        refine g_i2l 31 rfl rfl ?_
        cases h
        exact g_lret rfl rfl
      · rw [if_neg c6] at h
        refine g_iload_n 20 rfl rfl rfl ?_
        refine g_iload_n 21 rfl rfl rfl ?_
        refine g_icmp_le 32 24 rfl rfl (fun c8 => ?_) (fun c8 => ?_)
        · rw [if_pos c8] at h
          refine g_aload_n 33 rfl rfl rfl ?_
          refine g_iload_n 34 rfl rfl rfl ?_
          refine g_iload_n 35 rfl rfl rfl ?_
          refine g_iload_n 36 rfl rfl rfl ?_
          obtain ⟨q9, hq9, h⟩ := Option.bind_eq_some_iff.mp h
          refine g_callV (J := sm_I259) 39 rfl (Nat.le_of_ble_eq_true rfl) rfl rfl (Nat.le_of_ble_eq_true rfl) s_280 (Nat.le_of_ble_eq_true rfl) (Nat.le_of_ble_eq_true rfl) rfl rfl (F_259 d x1 x2 x3 hq9) ?_
          cases h
          exact g_lret rfl rfl
        · rw [if_neg c8] at h
          refine g_aload_n 25 rfl rfl rfl ?_
          refine g_bipush (v := (-5)) 27 rfl (by decide) rfl ?_
          obtain ⟨q10, hq10, h⟩ := Option.bind_eq_some_iff.mp h
          refine g_callV (J := sm_I175) 30 rfl (Nat.le_of_ble_eq_true rfl) rfl rfl (Nat.le_of_ble_eq_true rfl) s_280 (Nat.le_of_ble_eq_true rfl) (Nat.le_of_ble_eq_true rfl) rfl rfl (F_175 (d + 1) ((-5)) hq10) ?_
          refine g_i2l 31 rfl rfl ?_
          cases h
          exact g_lret rfl rfl
