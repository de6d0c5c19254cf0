/-! small methods turned -/
def f_9 (a : Nat) (x1 : Int32) (U : sU) : Option Int32 :=
  if x1 < 0 then
    some 0
  else
    if (Int32.ofNat (ln (a + 1))) ≤ x1 then
      some 0
    else
      if ib x1 (ln (a + 1)) then
      some (U.1 (a + 1) x1.toNatClampNeg)
      else none
set_option maxRecDepth 10000 in
set_option maxHeartbeats 2000000 in
theorem F_9 (d : Nat) (a : Nat) (ha : sh a = 1) (x1 : Int32) {U : sU} {r : Int32} (h : f_9 a x1 U = some r) : Rn (d + 0) sm_I9 [.ref a, .int x1] U (some (.int r)) U := by
  refine Rn_of [(0, .ref a), (1, .int x1)] (Nat.le_of_ble_eq_true rfl) (Sc rfl (Sc rfl (Sn _))) ?_
  first | rw [f_9] at h | rw [f_9.eq_def] at h
  refine g_iload_n 1 rfl rfl rfl ?_
  refine g_if_lt 22 4 rfl rfl (fun c1 => ?_) (fun c1 => ?_)
  · rw [if_pos c1] at h
    refine g_iconst (v := 0) 23 rfl rfl rfl ?_
    cases h
    exact g_iret rfl rfl
  · rw [if_neg c1] at h
    refine g_iload_n 5 rfl rfl rfl ?_
    refine g_aload_n 6 rfl rfl rfl ?_
    refine g_get 9 rfl ha (Nat.le_of_ble_eq_true rfl) rfl rfl ?_
    refine g_alen 10 rfl (sh_1_1 ha) (by decide) rfl rfl ?_
    refine g_icmp_ge 22 13 rfl rfl (fun c2 => ?_) (fun c2 => ?_)
    · rw [if_pos c2] at h
      refine g_iconst (v := 0) 23 rfl rfl rfl ?_
      cases h
      exact g_iret rfl rfl
    · rw [if_neg c2] at h
      refine g_aload_n 14 rfl rfl rfl ?_
      refine g_get 17 rfl ha (Nat.le_of_ble_eq_true rfl) rfl rfl ?_
      refine g_iload_n 18 rfl rfl rfl ?_
      by_cases i3 : ib x1 (ln (a + 1))
      case neg => rw [if_neg i3] at h; cases h
      rw [if_pos i3] at h
      refine g_iald 19 rfl (sh_1_1 ha) rfl i3 rfl ?_
      refine g_goto 23 rfl ?_
      cases h
      exact g_iret rfl rfl

def f_10 (a : Nat) (x1 : Int32) (x2 : Int32) (U : sU) : Option sU :=
  if x1 < 0 then
    some U
  else
    if (Int32.ofNat (ln (a + 1))) ≤ x1 then
      some U
    else
      if ib x1 (ln (a + 1)) then
      some (sI U (a + 1) x1.toNatClampNeg x2)
      else none
set_option maxRecDepth 10000 in
set_option maxHeartbeats 2000000 in
theorem F_10 (d : Nat) (a : Nat) (ha : sh a = 1) (x1 : Int32) (x2 : Int32) {U : sU} {U' : sU} (h : f_10 a x1 x2 U = some U') : Rn (d + 0) sm_I10 [.ref a, .int x1, .int x2] U none U' := by
  refine Rn_of [(0, .ref a), (1, .int x1), (2, .int x2)] (Nat.le_of_ble_eq_true rfl) (Sc rfl (Sc rfl (Sc rfl (Sn _)))) ?_
  first | rw [f_10] at h | rw [f_10.eq_def] at h
  refine g_iload_n 1 rfl rfl rfl ?_
  refine g_if_lt 20 4 rfl rfl (fun c1 => ?_) (fun c1 => ?_)
  · rw [if_pos c1] at h
    cases h
    exact g_vret rfl rfl
  · rw [if_neg c1] at h
    refine g_iload_n 5 rfl rfl rfl ?_
    refine g_aload_n 6 rfl rfl rfl ?_
    refine g_get 9 rfl ha (Nat.le_of_ble_eq_true rfl) rfl rfl ?_
    refine g_alen 10 rfl (sh_1_1 ha) (by decide) rfl rfl ?_
    refine g_icmp_ge 20 13 rfl rfl (fun c2 => ?_) (fun c2 => ?_)
    · rw [if_pos c2] at h
      cases h
      exact g_vret rfl rfl
    · rw [if_neg c2] at h
      refine g_aload_n 14 rfl rfl rfl ?_
      refine g_get 17 rfl ha (Nat.le_of_ble_eq_true rfl) rfl rfl ?_
      refine g_iload_n 18 rfl rfl rfl ?_
      refine g_iload_n 19 rfl rfl rfl ?_
      by_cases i3 : ib x1 (ln (a + 1))
      case neg => rw [if_neg i3] at h; cases h
      rw [if_pos i3] at h
      refine g_iast 20 rfl (sh_1_1 ha) rfl i3 rfl ?_
      cases h
      exact g_vret rfl rfl

def f_11_2 : Nat → Nat → Int32 → sU → Option sU
  | 0, _, _, _ => none
  | n + 1, a, v1, U =>
    if (Int32.ofNat (ln (a + 1))) ≤ v1 then
      some U
    else
      if ib v1 (ln (a + 1)) then
      f_11_2 n a (v1 + 1) (sI U (a + 1) v1.toNatClampNeg 0)
      else none
set_option maxRecDepth 10000 in
set_option maxHeartbeats 2000000 in
theorem F_11_2 (d : Nat)   : ∀ (n : Nat) (a : Nat) (ha : sh a = 1) (v1 : Int32) (U : sU) (U' : sU), f_11_2 n a v1 U = some U' → G (d + 0) sm_I11 2 [(0, .ref a), (1, .int v1)] [] U none U' := by
  intro n
  induction n with
  | zero => intro a ha v1 U U' h; cases h
  | succ n ih =>
    intro a ha v1 U U' h
    first | rw [f_11_2] at h | (rw [f_11_2.eq_def] at h; dsimp only at h)
    refine g_iload_n 3 rfl rfl rfl ?_
    refine g_aload_n 4 rfl rfl rfl ?_
    refine g_get 7 rfl ha (Nat.le_of_ble_eq_true rfl) rfl rfl ?_
    refine g_alen 8 rfl (sh_1_1 ha) (by decide) rfl rfl ?_
    refine g_icmp_ge 24 11 rfl rfl (fun c1 => ?_) (fun c1 => ?_)
    · rw [if_pos c1] at h
      cases h
      exact g_vret rfl rfl
    · rw [if_neg c1] at h
      refine g_aload_n 12 rfl rfl rfl ?_
      refine g_get 15 rfl ha (Nat.le_of_ble_eq_true rfl) rfl rfl ?_
      refine g_iload_n 16 rfl rfl rfl ?_
      refine g_iconst (v := 0) 17 rfl rfl rfl ?_
      by_cases i2 : ib v1 (ln (a + 1))
      case neg => rw [if_neg i2] at h; cases h
      rw [if_pos i2] at h
      refine g_iast 18 rfl (sh_1_1 ha) rfl i2 rfl ?_
      refine g_iinc (v := v1 + 1) 21 [(1, .int (v1 + 1)), (0, .ref a)] rfl rfl (Nat.le_of_ble_eq_true rfl) rfl rfl rfl ?_
      refine g_goto 2 rfl ?_
      exact g_sub (Sc rfl (Sc rfl (Sn _))) (ih a ha (v1 + 1) _ _ h)
def f_11 (a : Nat) (U : sU) : Option sU :=
  f_11_2 FU a 0 U
set_option maxRecDepth 10000 in
set_option maxHeartbeats 2000000 in
theorem F_11 (d : Nat) (a : Nat) (ha : sh a = 1) {U : sU} {U' : sU} (h : f_11 a U = some U') : Rn (d + 0) sm_I11 [.ref a] U none U' := by
  refine Rn_of [(0, .ref a)] (Nat.le_of_ble_eq_true rfl) (Sc rfl (Sn _)) ?_
  first | rw [f_11] at h | rw [f_11.eq_def] at h
  refine g_iconst (v := 0) 1 rfl rfl rfl ?_
  refine g_istore_n 2 [(1, .int 0), (0, .ref a)] rfl (Nat.le_of_ble_eq_true rfl) rfl rfl ?_
  exact g_sub (Sc rfl (Sc rfl (Sn _))) (F_11_2 d _ a ha 0 _ _ h)

def f_12_2 : Nat → Nat → Nat → Int32 → sU → Option sU
  | 0, _, _, _, _ => none
  | n + 1, a, v1, v2, U =>
    if (Int32.ofNat (ln (a + 1))) ≤ v2 then
      some U
    else
      Option.bind (f_9 v1 v2 U) fun q2 =>
      if ib v2 (ln (a + 1)) then
      f_12_2 n a v1 (v2 + 1) (sI U (a + 1) v2.toNatClampNeg q2)
      else none
set_option maxRecDepth 10000 in
set_option maxHeartbeats 2000000 in
theorem F_12_2 (d : Nat)   : ∀ (n : Nat) (a : Nat) (ha : sh a = 1) (v1 : Nat) (hv1 : sh v1 = 1) (v2 : Int32) (U : sU) (U' : sU), f_12_2 n a v1 v2 U = some U' → G (d + 1) sm_I12 2 [(0, .ref a), (1, .ref v1), (2, .int v2)] [] U none U' := by
  intro n
  induction n with
  | zero => intro a ha v1 hv1 v2 U U' h; cases h
  | succ n ih =>
    intro a ha v1 hv1 v2 U U' h
    first | rw [f_12_2] at h | (rw [f_12_2.eq_def] at h; dsimp only at h)
    refine g_iload_n 3 rfl rfl rfl ?_
    refine g_aload_n 4 rfl rfl rfl ?_
    refine g_get 7 rfl ha (Nat.le_of_ble_eq_true rfl) rfl rfl ?_
    refine g_alen 8 rfl (sh_1_1 ha) (by decide) rfl rfl ?_
    refine g_icmp_ge 28 11 rfl rfl (fun c1 => ?_) (fun c1 => ?_)
    · rw [if_pos c1] at h
      cases h
      exact g_vret rfl rfl
    · rw [if_neg c1] at h
      refine g_aload_n 12 rfl rfl rfl ?_
      refine g_get 15 rfl ha (Nat.le_of_ble_eq_true rfl) rfl rfl ?_
      refine g_iload_n 16 rfl rfl rfl ?_
      refine g_aload_n 17 rfl rfl rfl ?_
      refine g_iload_n 18 rfl rfl rfl ?_
      obtain ⟨q2, hq2, h⟩ := Option.bind_eq_some_iff.mp h
      refine g_callV (J := sm_I9) 21 rfl (Nat.le_of_ble_eq_true rfl) rfl rfl (Nat.le_of_ble_eq_true rfl) hv1 (Nat.le_of_ble_eq_true rfl) (Nat.le_of_ble_eq_true rfl) rfl rfl (F_9 d v1 hv1 v2 hq2) ?_
      by_cases i3 : ib v2 (ln (a + 1))
      case neg => rw [if_neg i3] at h; cases h
      rw [if_pos i3] at h
      refine g_iast 22 rfl (sh_1_1 ha) rfl i3 rfl ?_
      refine g_iinc (v := v2 + 1) 25 [(2, .int (v2 + 1)), (0, .ref a), (1, .ref v1)] rfl rfl (Nat.le_of_ble_eq_true rfl) rfl rfl rfl ?_
      refine g_goto 2 rfl ?_
      exact g_sub (Sc rfl (Sc rfl (Sc rfl (Sn _)))) (ih a ha v1 hv1 (v2 + 1) _ _ h)
def f_12 (a : Nat) (x1 : Nat) (U : sU) : Option sU :=
  f_12_2 FU a x1 0 U
set_option maxRecDepth 10000 in
set_option maxHeartbeats 2000000 in
theorem F_12 (d : Nat) (a : Nat) (ha : sh a = 1) (x1 : Nat) (hx1 : sh x1 = 1) {U : sU} {U' : sU} (h : f_12 a x1 U = some U') : Rn (d + 1) sm_I12 [.ref a, .ref x1] U none U' := by
  refine Rn_of [(0, .ref a), (1, .ref x1)] (Nat.le_of_ble_eq_true rfl) (Sc rfl (Sc rfl (Sn _))) ?_
  first | rw [f_12] at h | rw [f_12.eq_def] at h
  refine g_iconst (v := 0) 1 rfl rfl rfl ?_
  refine g_istore_n 2 [(2, .int 0), (0, .ref a), (1, .ref x1)] rfl (Nat.le_of_ble_eq_true rfl) rfl rfl ?_
  exact g_sub (Sc rfl (Sc rfl (Sc rfl (Sn _)))) (F_12_2 d _ a ha x1 hx1 0 _ _ h)

def f_85 (a : Nat) (x1 : Int32) (U : sU) : Int32 :=
  if x1 < 0 then
    0
  else
    if (U.1 a 3) ≤ x1 then
      0
    else
      if (Int32.ofNat (ln (a + 1))) ≤ x1 then
        0
      else
        1
set_option maxRecDepth 10000 in
set_option maxHeartbeats 2000000 in
theorem F_85 (d : Nat) (a : Nat) (ha : sh a = 6) (x1 : Int32) (U : sU) : Rn (d + 0) sm_I85 [.ref a, .int x1] U (some (.int (f_85 a x1 U))) U := by
  refine Rn_of [(0, .ref a), (1, .int x1)] (Nat.le_of_ble_eq_true rfl) (Sc rfl (Sc rfl (Sn _))) ?_
  generalize h : f_85 a x1 U = r
  first | rw [f_85] at h | rw [f_85.eq_def] at h
  refine g_iload_n 1 rfl rfl rfl ?_
  refine g_if_lt 25 4 rfl rfl (fun c1 => ?_) (fun c1 => ?_)
  · rw [if_pos c1] at h
    refine g_iconst (v := 0) 26 rfl rfl rfl ?_
    subst h
    exact g_zret rfl rfl (Or.inl rfl)
  · rw [if_neg c1] at h
    refine g_iload_n 5 rfl rfl rfl ?_
    refine g_aload_n 6 rfl rfl rfl ?_
    refine g_get 9 rfl ha (Nat.le_of_ble_eq_true rfl) rfl rfl ?_
    refine g_icmp_ge 25 12 rfl rfl (fun c2 => ?_) (fun c2 => ?_)
    · rw [if_pos c2] at h
      refine g_iconst (v := 0) 26 rfl rfl rfl ?_
      subst h
      exact g_zret rfl rfl (Or.inl rfl)
    · rw [if_neg c2] at h
      refine g_iload_n 13 rfl rfl rfl ?_
      refine g_aload_n 14 rfl rfl rfl ?_
      refine g_get 17 rfl ha (Nat.le_of_ble_eq_true rfl) rfl rfl ?_
      refine g_alen 18 rfl (sh_6_1 ha) (by decide) rfl rfl ?_
      refine g_icmp_ge 25 21 rfl rfl (fun c3 => ?_) (fun c3 => ?_)
      · rw [if_pos c3] at h
        refine g_iconst (v := 0) 26 rfl rfl rfl ?_
        subst h
        exact g_zret rfl rfl (Or.inl rfl)
      · rw [if_neg c3] at h
        refine g_iconst (v := 1) 22 rfl rfl rfl ?_
        refine g_goto 26 rfl ?_
        subst h
        exact g_zret rfl rfl (Or.inr rfl)

def f_86 (a : Nat) (x1 : Int32) (x2 : Int32) (U : sU) : Int32 :=
  if x1 < 0 then
    0
  else
    if x2 < 0 then
      0
    else
      if (U.1 a 3) < x2 then
        0
      else
        if ((U.1 a 3) - x2) < x1 then
          0
        else
          1
set_option maxRecDepth 10000 in
set_option maxHeartbeats 2000000 in
theorem F_86 (d : Nat) (a : Nat) (ha : sh a = 6) (x1 : Int32) (x2 : Int32) (U : sU) : Rn (d + 0) sm_I86 [.ref a, .int x1, .int x2] U (some (.int (f_86 a x1 x2 U))) U := by
  refine Rn_of [(0, .ref a), (1, .int x1), (2, .int x2)] (Nat.le_of_ble_eq_true rfl) (Sc rfl (Sc rfl (Sc rfl (Sn _)))) ?_
  generalize h : f_86 a x1 x2 U = r
  first | rw [f_86] at h | rw [f_86.eq_def] at h
  refine g_iload_n 1 rfl rfl rfl ?_
  refine g_if_lt 30 4 rfl rfl (fun c1 => ?_) (fun c1 => ?_)
  · rw [if_pos c1] at h
    refine g_iconst (v := 0) 31 rfl rfl rfl ?_
    subst h
    exact g_zret rfl rfl (Or.inl rfl)
  · rw [if_neg c1] at h
    refine g_iload_n 5 rfl rfl rfl ?_
    refine g_if_lt 30 8 rfl rfl (fun c2 => ?_) (fun c2 => ?_)
    · rw [if_pos c2] at h
      refine g_iconst (v := 0) 31 rfl rfl rfl ?_
      subst h
      exact g_zret rfl rfl (Or.inl rfl)
    · rw [if_neg c2] at h
      refine g_iload_n 9 rfl rfl rfl ?_
      refine g_aload_n 10 rfl rfl rfl ?_
      refine g_get 13 rfl ha (Nat.le_of_ble_eq_true rfl) rfl rfl ?_
      refine g_icmp_gt 30 16 rfl rfl (fun c3 => ?_) (fun c3 => ?_)
      · rw [if_pos c3] at h
        refine g_iconst (v := 0) 31 rfl rfl rfl ?_
        subst h
        exact g_zret rfl rfl (Or.inl rfl)
      · rw [if_neg c3] at h
        refine g_iload_n 17 rfl rfl rfl ?_
        refine g_aload_n 18 rfl rfl rfl ?_
        refine g_get 21 rfl ha (Nat.le_of_ble_eq_true rfl) rfl rfl ?_
        refine g_iload_n 22 rfl rfl rfl ?_
        refine g_isub 23 rfl rfl ?_
        refine g_icmp_gt 30 26 rfl rfl (fun c4 => ?_) (fun c4 => ?_)
        · rw [if_pos c4] at h
          refine g_iconst (v := 0) 31 rfl rfl rfl ?_
          subst h
          exact g_zret rfl rfl (Or.inl rfl)
        · rw [if_neg c4] at h
          refine g_iconst (v := 1) 27 rfl rfl rfl ?_
          refine g_goto 31 rfl ?_
          subst h
          exact g_zret rfl rfl (Or.inr rfl)

def f_87 (a : Nat) (x1 : Int32) (U : sU) : Option Int64 :=
  if (f_85 a x1 U) = 0 then
    some 0
  else
    if ib x1 (ln (a + 1)) then
    some (U.2.1 (a + 1) x1.toNatClampNeg)
    else none
set_option maxRecDepth 10000 in
set_option maxHeartbeats 2000000 in
theorem F_87 (d : Nat) (a : Nat) (ha : sh a = 6) (x1 : Int32) {U : sU} {r : Int64} (h : f_87 a x1 U = some r) : Rn (d + 1) sm_I87 [.ref a, .int x1] U (some (.long r)) U := by
  refine Rn_of [(0, .ref a), (1, .int x1)] (Nat.le_of_ble_eq_true rfl) (Sc rfl (Sc rfl (Sn _))) ?_
  first | rw [f_87] at h | rw [f_87.eq_def] at h
  refine g_aload_n 1 rfl rfl rfl ?_
  refine g_iload_n 2 rfl rfl rfl ?_
  have r1 := F_85 d a ha x1 U
  refine g_callV (J := sm_I85) 5 rfl (Nat.le_of_ble_eq_true rfl) rfl rfl (Nat.le_of_ble_eq_true rfl) ha (Nat.le_of_ble_eq_true rfl) (Nat.le_of_ble_eq_true rfl) rfl rfl r1 ?_
  refine g_if_eq 17 8 rfl rfl (fun c2 => ?_) (fun c2 => ?_)
  · rw [if_pos c2] at h
    refine g_lconst (v := 0) 18 rfl rfl rfl ?_
    cases h
    exact g_lret rfl rfl
  · rw [if_neg c2] at h
    refine g_aload_n 9 rfl rfl rfl ?_
    refine g_get 12 rfl ha (Nat.le_of_ble_eq_true rfl) rfl rfl ?_
    refine g_iload_n 13 rfl rfl rfl ?_
    by_cases i3 : ib x1 (ln (a + 1))
    case neg => rw [if_neg i3] at h; cases h
    rw [if_pos i3] at h
    refine g_lald 14 rfl (sh_6_1 ha) rfl i3 rfl ?_
    refine g_goto 18 rfl ?_
    cases h
    exact g_lret rfl rfl

def f_90 (a : Nat) (x1 : Int64) (U : sU) : Int64 :=
  if (U.1 a 2) = 0 then
    x1.toInt32.toInt8.toInt32.toInt64
  else
  if (U.1 a 2) = 1 then
    x1.toInt32.toInt16.toInt32.toInt64
  else
  if (U.1 a 2) = 2 then
    x1.toInt32.toInt64
  else
  x1
set_option maxRecDepth 10000 in
set_option maxHeartbeats 2000000 in
theorem F_90 (d : Nat) (a : Nat) (ha : sh a = 6) (x1 : Int64) (U : sU) : Rn (d + 0) sm_I90 [.ref a, .long x1] U (some (.long (f_90 a x1 U))) U := by
  refine Rn_of [(0, .ref a), (1, .long x1)] (Nat.le_of_ble_eq_true rfl) (Sc rfl (Sc rfl (Sn _))) ?_
  generalize h : f_90 a x1 U = r
  first | rw [f_90] at h | rw [f_90.eq_def] at h
  refine g_aload_n 1 rfl rfl rfl ?_
  refine g_get 4 rfl ha (Nat.le_of_ble_eq_true rfl) rfl rfl ?_
  by_cases w1 : (U.1 a 2) = 0
  case pos =>
    rw [if_pos w1] at h
    refine g_tsw 32 rfl (by rw [w1]; rfl) ?_
    refine g_lload_n 33 rfl rfl rfl ?_
    refine g_l2i 34 rfl rfl ?_
    refine g_i2b 35 rfl rfl ?_
    refine g_i2l 36 rfl rfl ?_
    subst h
    exact g_lret rfl rfl
  rw [if_neg w1] at h
  by_cases w2 : (U.1 a 2) = 1
  case pos =>
    rw [if_pos w2] at h
    refine g_tsw 37 rfl (by rw [w2]; rfl) ?_
    refine g_lload_n 38 rfl rfl rfl ?_
    refine g_l2i 39 rfl rfl ?_
    refine g_i2s 40 rfl rfl ?_
    refine g_i2l 41 rfl rfl ?_
    subst h
    exact g_lret rfl rfl
  rw [if_neg w2] at h
  by_cases w3 : (U.1 a 2) = 2
  case pos =>
    rw [if_pos w3] at h
    refine g_tsw 42 rfl (by rw [w3]; rfl) ?_
    refine g_lload_n 43 rfl rfl rfl ?_
    refine g_l2i 44 rfl rfl ?_
    refine g_i2l 45 rfl rfl ?_
    subst h
    exact g_lret rfl rfl
  rw [if_neg w3] at h
  refine g_tsw 46 rfl (by
    have hX : (U.1 a 2).toInt < 0 ∨ 2 < (U.1 a 2).toInt := by
      have e := fun (k : Int32) (hk : ¬ (U.1 a 2) = k) => (fun (z : (U.1 a 2).toInt = k.toInt) => hk (Int32.toInt_inj.mp z))
      have gw1 : ¬ (U.1 a 2).toInt = 0 := e 0 w1
      have gw2 : ¬ (U.1 a 2).toInt = 1 := e 1 w2
      have gw3 : ¬ (U.1 a 2).toInt = 2 := e 2 w3
      omega
    rw [if_pos hX]; rfl) ?_
  refine g_lload_n 47 rfl rfl rfl ?_
  subst h
  exact g_lret rfl rfl

def f_89 (a : Nat) (x1 : Int32) (x2 : Int64) (U : sU) : Option sU :=
  if (f_85 a x1 U) = 0 then
    some U
  else
    if ib x1 (ln (a + 1)) then
    some (sJ U (a + 1) x1.toNatClampNeg (f_90 a x2 U))
    else none
set_option maxRecDepth 10000 in
set_option maxHeartbeats 2000000 in
theorem F_89 (d : Nat) (a : Nat) (ha : sh a = 6) (x1 : Int32) (x2 : Int64) {U : sU} {U' : sU} (h : f_89 a x1 x2 U = some U') : Rn (d + 1) sm_I89 [.ref a, .int x1, .long x2] U none U' := by
  refine Rn_of [(0, .ref a), (1, .int x1), (2, .long x2)] (Nat.le_of_ble_eq_true rfl) (Sc rfl (Sc rfl (Sc rfl (Sn _)))) ?_
  first | rw [f_89] at h | rw [f_89.eq_def] at h
  refine g_aload_n 1 rfl rfl rfl ?_
  refine g_iload_n 2 rfl rfl rfl ?_
  have r1 := F_85 d a ha x1 U
  refine g_callV (J := sm_I85) 5 rfl (Nat.le_of_ble_eq_true rfl) rfl rfl (Nat.le_of_ble_eq_true rfl) ha (Nat.le_of_ble_eq_true rfl) (Nat.le_of_ble_eq_true rfl) rfl rfl r1 ?_
  refine g_if_eq 19 8 rfl rfl (fun c2 => ?_) (fun c2 => ?_)
  · rw [if_pos c2] at h
    cases h
    exact g_vret rfl rfl
  · rw [if_neg c2] at h
    refine g_aload_n 9 rfl rfl rfl ?_
    refine g_get 12 rfl ha (Nat.le_of_ble_eq_true rfl) rfl rfl ?_
    refine g_iload_n 13 rfl rfl rfl ?_
    refine g_aload_n 14 rfl rfl rfl ?_
    refine g_lload_n 15 rfl rfl rfl ?_
    refine g_callV (J := sm_I90) 18 rfl (Nat.le_of_ble_eq_true rfl) rfl rfl (Nat.le_of_ble_eq_true rfl) ha (Nat.le_of_ble_eq_true rfl) (Nat.le_of_ble_eq_true rfl) rfl rfl (F_90 d a ha x2 U) ?_
    by_cases i3 : ib x1 (ln (a + 1))
    case neg => rw [if_neg i3] at h; cases h
    rw [if_pos i3] at h
    refine g_last 19 rfl (sh_6_1 ha) rfl i3 rfl ?_
    cases h
    exact g_vret rfl rfl

def f_83 (a : Nat) (U : sU) : sU :=
  sI (sI (sI U a 1 0) a 3 0) a 4 ((-1))
set_option maxRecDepth 10000 in
set_option maxHeartbeats 2000000 in
theorem F_83 (d : Nat) (a : Nat) (ha : sh a = 6) (U : sU) : Rn (d + 0) sm_I83 [.ref a] U none (f_83 a U) := by
  refine Rn_of [(0, .ref a)] (Nat.le_of_ble_eq_true rfl) (Sc rfl (Sn _)) ?_
  generalize h : f_83 a U = U'
  first | rw [f_83] at h | rw [f_83.eq_def] at h
  refine g_aload_n 1 rfl rfl rfl ?_
  refine g_iconst (v := 0) 2 rfl rfl rfl ?_
  refine g_putI 5 rfl ha (Nat.le_of_ble_eq_true rfl) (Nat.le_of_ble_eq_true rfl) rfl fs_6_1 rfl ?_
  refine g_aload_n 6 rfl rfl rfl ?_
  refine g_iconst (v := 0) 7 rfl rfl rfl ?_
  refine g_putI 10 rfl ha (Nat.le_of_ble_eq_true rfl) (Nat.le_of_ble_eq_true rfl) rfl fs_6_3 rfl ?_
  refine g_aload_n 11 rfl rfl rfl ?_
  refine g_iconst (v := (-1)) 12 rfl rfl rfl ?_
  refine g_putI 15 rfl ha (Nat.le_of_ble_eq_true rfl) (Nat.le_of_ble_eq_true rfl) rfl fs_6_4 rfl ?_
  subst h
  exact g_vret rfl rfl

def f_82_38 : Nat → Nat → Int32 → sU → Option sU
  | 0, _, _, _ => none
  | n + 1, a, v3, U =>
    if (Int32.ofNat (ln (a + 1))) ≤ v3 then
      some U
    else
      if ib v3 (ln (a + 1)) then
      f_82_38 n a (v3 + 1) (sJ U (a + 1) v3.toNatClampNeg 0)
      else none
set_option maxRecDepth 10000 in
set_option maxHeartbeats 2000000 in
theorem F_82_38 (d : Nat)   : ∀ (n : Nat) (a : Nat) (ha : sh a = 6) (v3 : Int32) (U : sU) (U' : sU), f_82_38 n a v3 U = some U' → G (d + 1) sm_I82 38 [(0, .ref a), (3, .int v3)] [] U none U' := by
  intro n
  induction n with
  | zero => intro a ha v3 U U' h; cases h
  | succ n ih =>
    intro a ha v3 U U' h
    first | rw [f_82_38] at h | (rw [f_82_38.eq_def] at h; dsimp only at h)
    refine g_iload_n 39 rfl rfl rfl ?_
    refine g_aload_n 40 rfl rfl rfl ?_
    refine g_get 43 rfl ha (Nat.le_of_ble_eq_true rfl) rfl rfl ?_
    refine g_alen 44 rfl (sh_6_1 ha) (by decide) rfl rfl ?_
    refine g_icmp_ge 60 47 rfl rfl (fun c1 => ?_) (fun c1 => ?_)
    · rw [if_pos c1] at h
      cases h
      exact g_vret rfl rfl
    · rw [if_neg c1] at h
      refine g_aload_n 48 rfl rfl rfl ?_
      refine g_get 51 rfl ha (Nat.le_of_ble_eq_true rfl) rfl rfl ?_
      refine g_iload_n 52 rfl rfl rfl ?_
      refine g_lconst (v := 0) 53 rfl rfl rfl ?_
      by_cases i2 : ib v3 (ln (a + 1))
      case neg => rw [if_neg i2] at h; cases h
      rw [if_pos i2] at h
      refine g_last 54 rfl (sh_6_1 ha) rfl i2 rfl ?_
      refine g_iinc (v := v3 + 1) 57 [(3, .int (v3 + 1)), (0, .ref a)] rfl rfl (Nat.le_of_ble_eq_true rfl) rfl rfl rfl ?_
      refine g_goto 38 rfl ?_
      exact g_sub (Sc rfl (Sc rfl (Sn _))) (ih a ha (v3 + 1) _ _ h)
def f_82 (a : Nat) (x1 : Int32) (x2 : Int32) (U : sU) : Option sU :=
  if (Int32.ofNat (ln (a + 1))) ≤ x2 then
    f_82_38 FU a 0 (sI (sI (sI (f_83 a U) a 1 1) a 2 x1) a 3 (Int32.ofNat (ln (a + 1))))
  else
    f_82_38 FU a 0 (sI (sI (sI (f_83 a U) a 1 1) a 2 x1) a 3 x2)
set_option maxRecDepth 10000 in
set_option maxHeartbeats 2000000 in
theorem F_82 (d : Nat) (a : Nat) (ha : sh a = 6) (x1 : Int32) (x2 : Int32) {U : sU} {U' : sU} (h : f_82 a x1 x2 U = some U') : Rn (d + 1) sm_I82 [.ref a, .int x1, .int x2] U none U' := by
  refine Rn_of [(0, .ref a), (1, .int x1), (2, .int x2)] (Nat.le_of_ble_eq_true rfl) (Sc rfl (Sc rfl (Sc rfl (Sn _)))) ?_
  first | rw [f_82] at h | rw [f_82.eq_def] at h
  refine g_aload_n 1 rfl rfl rfl ?_
  refine g_callV (J := sm_I83) 4 rfl (Nat.le_of_ble_eq_true rfl) rfl rfl (Nat.le_of_ble_eq_true rfl) ha (Nat.le_of_ble_eq_true rfl) (Nat.le_of_ble_eq_true rfl) rfl rfl (F_83 d a ha U) ?_
  refine g_aload_n 5 rfl rfl rfl ?_
  refine g_iconst (v := 1) 6 rfl rfl rfl ?_
  refine g_putI 9 rfl ha (Nat.le_of_ble_eq_true rfl) (Nat.le_of_ble_eq_true rfl) rfl fs_6_1 rfl ?_
  refine g_aload_n 10 rfl rfl rfl ?_
  refine g_iload_n 11 rfl rfl rfl ?_
  refine g_putI 14 rfl ha (Nat.le_of_ble_eq_true rfl) (Nat.le_of_ble_eq_true rfl) rfl fs_6_2 rfl ?_
  refine g_aload_n 15 rfl rfl rfl ?_
  refine g_iload_n 16 rfl rfl rfl ?_
  refine g_aload_n 17 rfl rfl rfl ?_
  refine g_get 20 rfl ha (Nat.le_of_ble_eq_true rfl) rfl rfl ?_
  refine g_alen 21 rfl (sh_6_1 ha) (by decide) rfl rfl ?_
  refine g_icmp_ge 28 24 rfl rfl (fun c3 => ?_) (fun c3 => ?_)
  · rw [if_pos c3] at h
    refine g_aload_n 29 rfl rfl rfl ?_
    refine g_get 32 rfl ha (Nat.le_of_ble_eq_true rfl) rfl rfl ?_
    refine g_alen 33 rfl (sh_6_1 ha) (by decide) rfl rfl ?_
    refine g_putI 36 rfl ha (Nat.le_of_ble_eq_true rfl) (Nat.le_of_ble_eq_true rfl) rfl fs_6_3 rfl ?_
    refine g_iconst (v := 0) 37 rfl rfl rfl ?_
    refine g_istore_n 38 [(3, .int 0), (0, .ref a), (1, .int x1), (2, .int x2)] rfl (Nat.le_of_ble_eq_true rfl) rfl rfl ?_
    exact g_sub (Sc rfl (Sc rfl (Sn _))) (F_82_38 d _ a ha 0 _ _ h)
  · rw [if_neg c3] at h
    refine g_iload_n 25 rfl rfl rfl ?_
    refine g_goto 33 rfl ?_
    refine g_putI 36 rfl ha (Nat.le_of_ble_eq_true rfl) (Nat.le_of_ble_eq_true rfl) rfl fs_6_3 rfl ?_
    refine g_iconst (v := 0) 37 rfl rfl rfl ?_
    refine g_istore_n 38 [(3, .int 0), (0, .ref a), (1, .int x1), (2, .int x2)] rfl (Nat.le_of_ble_eq_true rfl) rfl rfl ?_
    exact g_sub (Sc rfl (Sc rfl (Sn _))) (F_82_38 d _ a ha 0 _ _ h)

def f_93 (a : Nat) (x1 : Int32) (U : sU) : Option (Option Nat) :=
  if x1 < 0 then
    some none
  else
    if (U.1 a 2) ≤ x1 then
      some none
    else
      if (Int32.ofNat (ln (a + 1))) ≤ x1 then
        some none
      else
        if ib x1 (ln (a + 1)) then
        some (some (rfA (a + 1) 15 x1.toNatClampNeg))
        else none
set_option maxRecDepth 10000 in
set_option maxHeartbeats 2000000 in
theorem F_93 (d : Nat) (a : Nat) (ha : sh a = 7) (x1 : Int32) {U : sU} {r : Option Nat} (h : f_93 a x1 U = some r) : Rn (d + 0) sm_I93 [.ref a, .int x1] U (some (va_rf r)) U := by
  refine Rn_of [(0, .ref a), (1, .int x1)] (Nat.le_of_ble_eq_true rfl) (Sc rfl (Sc rfl (Sn _))) ?_
  first | rw [f_93] at h | rw [f_93.eq_def] at h
  refine g_iload_n 1 rfl rfl rfl ?_
  refine g_if_lt 30 4 rfl rfl (fun c1 => ?_) (fun c1 => ?_)
  · rw [if_pos c1] at h
    refine g_aconst_null 31 rfl rfl ?_
    cases h
    exact g_aret (x := none) rfl rfl
  · rw [if_neg c1] at h
    refine g_iload_n 5 rfl rfl rfl ?_
    refine g_aload_n 6 rfl rfl rfl ?_
    refine g_get 9 rfl ha (Nat.le_of_ble_eq_true rfl) rfl rfl ?_
    refine g_icmp_ge 30 12 rfl rfl (fun c2 => ?_) (fun c2 => ?_)
    · rw [if_pos c2] at h
      refine g_aconst_null 31 rfl rfl ?_
      cases h
      exact g_aret (x := none) rfl rfl
    · rw [if_neg c2] at h
      refine g_iload_n 13 rfl rfl rfl ?_
      refine g_aload_n 14 rfl rfl rfl ?_
      refine g_get 17 rfl ha (Nat.le_of_ble_eq_true rfl) rfl rfl ?_
      refine g_alen 18 rfl (sh_7_1 ha) (by decide) rfl rfl ?_
      refine g_icmp_ge 30 21 rfl rfl (fun c3 => ?_) (fun c3 => ?_)
      · rw [if_pos c3] at h
        refine g_aconst_null 31 rfl rfl ?_
        cases h
        exact g_aret (x := none) rfl rfl
      · rw [if_neg c3] at h
        refine g_aload_n 22 rfl rfl rfl ?_
        refine g_get 25 rfl ha (Nat.le_of_ble_eq_true rfl) rfl rfl ?_
        refine g_iload_n 26 rfl rfl rfl ?_
        by_cases i4 : ib x1 (ln (a + 1))
        case neg => rw [if_neg i4] at h; cases h
        rw [if_pos i4] at h
        refine g_aald 27 rfl (sh_7_1 ha) (by decide) rfl i4 rfl ?_
        refine g_goto 31 rfl ?_
        cases h
        exact g_aret (x := some (rfA (a + 1) 15 x1.toNatClampNeg)) rfl rfl
theorem tag_93 (a : Nat) (ha : sh a = 7) (x1 : Int32) {U : sU} {r : Option Nat} (h : f_93 a x1 U = some r) : ∀ z, r = some z → sh z = 8 := by
  rw [f_93] at h
  (repeat' split at h) <;> first
    | (cases h; done)
    | (cases h; intro z hz; cases hz; done)
    | (rename_i hi; cases h; intro z hz; cases hz; exact sh_rfA_15 (sh_7_1 ha) hi)

def f_94 (a : Nat) (x1 : Int32) (U : sU) : Option (Option Nat) :=
  if x1 < 0 then
    some none
  else
    if (U.1 a 3) ≤ x1 then
      some none
    else
      if (Int32.ofNat (ln (a + 2))) ≤ x1 then
        some none
      else
        if ib x1 (ln (a + 2)) then
        some (some (rfA (a + 2) 13 x1.toNatClampNeg))
        else none
set_option maxRecDepth 10000 in
set_option maxHeartbeats 2000000 in
theorem F_94 (d : Nat) (a : Nat) (ha : sh a = 7) (x1 : Int32) {U : sU} {r : Option Nat} (h : f_94 a x1 U = some r) : Rn (d + 0) sm_I94 [.ref a, .int x1] U (some (va_rf r)) U := by
  refine Rn_of [(0, .ref a), (1, .int x1)] (Nat.le_of_ble_eq_true rfl) (Sc rfl (Sc rfl (Sn _))) ?_
  first | rw [f_94] at h | rw [f_94.eq_def] at h
  refine g_iload_n 1 rfl rfl rfl ?_
  refine g_if_lt 30 4 rfl rfl (fun c1 => ?_) (fun c1 => ?_)
  · rw [if_pos c1] at h
    refine g_aconst_null 31 rfl rfl ?_
    cases h
    exact g_aret (x := none) rfl rfl
  · rw [if_neg c1] at h
    refine g_iload_n 5 rfl rfl rfl ?_
    refine g_aload_n 6 rfl rfl rfl ?_
    refine g_get 9 rfl ha (Nat.le_of_ble_eq_true rfl) rfl rfl ?_
    refine g_icmp_ge 30 12 rfl rfl (fun c2 => ?_) (fun c2 => ?_)
    · rw [if_pos c2] at h
      refine g_aconst_null 31 rfl rfl ?_
      cases h
      exact g_aret (x := none) rfl rfl
    · rw [if_neg c2] at h
      refine g_iload_n 13 rfl rfl rfl ?_
      refine g_aload_n 14 rfl rfl rfl ?_
      refine g_get 17 rfl ha (Nat.le_of_ble_eq_true rfl) rfl rfl ?_
      refine g_alen 18 rfl (sh_7_2 ha) (by decide) rfl rfl ?_
      refine g_icmp_ge 30 21 rfl rfl (fun c3 => ?_) (fun c3 => ?_)
      · rw [if_pos c3] at h
        refine g_aconst_null 31 rfl rfl ?_
        cases h
        exact g_aret (x := none) rfl rfl
      · rw [if_neg c3] at h
        refine g_aload_n 22 rfl rfl rfl ?_
        refine g_get 25 rfl ha (Nat.le_of_ble_eq_true rfl) rfl rfl ?_
        refine g_iload_n 26 rfl rfl rfl ?_
        by_cases i4 : ib x1 (ln (a + 2))
        case neg => rw [if_neg i4] at h; cases h
        rw [if_pos i4] at h
        refine g_aald 27 rfl (sh_7_2 ha) (by decide) rfl i4 rfl ?_
        refine g_goto 31 rfl ?_
        cases h
        exact g_aret (x := some (rfA (a + 2) 13 x1.toNatClampNeg)) rfl rfl
theorem tag_94 (a : Nat) (ha : sh a = 7) (x1 : Int32) {U : sU} {r : Option Nat} (h : f_94 a x1 U = some r) : ∀ z, r = some z → sh z = 3 := by
  rw [f_94] at h
  (repeat' split at h) <;> first
    | (cases h; done)
    | (cases h; intro z hz; cases hz; done)
    | (rename_i hi; cases h; intro z hz; cases hz; exact sh_rfA_13 (sh_7_2 ha) hi)

def f_95 (a : Nat) (U : sU) : Option (Option Nat) :=
  if (U.1 a 2) < 0 then
    some none
  else
    if (Int32.ofNat (ln (a + 1))) ≤ (U.1 a 2) then
      some none
    else
      if ib (U.1 a 2) (ln (a + 1)) then
      some (some (rfA (a + 1) 15 (U.1 a 2).toNatClampNeg))
      else none
set_option maxRecDepth 10000 in
set_option maxHeartbeats 2000000 in
theorem F_95 (d : Nat) (a : Nat) (ha : sh a = 7) {U : sU} {r : Option Nat} (h : f_95 a U = some r) : Rn (d + 0) sm_I95 [.ref a] U (some (va_rf r)) U := by
  refine Rn_of [(0, .ref a)] (Nat.le_of_ble_eq_true rfl) (Sc rfl (Sn _)) ?_
  first | rw [f_95] at h | rw [f_95.eq_def] at h
  refine g_aload_n 1 rfl rfl rfl ?_
  refine g_get 4 rfl ha (Nat.le_of_ble_eq_true rfl) rfl rfl ?_
  refine g_if_lt 31 7 rfl rfl (fun c1 => ?_) (fun c1 => ?_)
  · rw [if_pos c1] at h
    refine g_aconst_null 32 rfl rfl ?_
    cases h
    exact g_aret (x := none) rfl rfl
  · rw [if_neg c1] at h
    refine g_aload_n 8 rfl rfl rfl ?_
    refine g_get 11 rfl ha (Nat.le_of_ble_eq_true rfl) rfl rfl ?_
    refine g_aload_n 12 rfl rfl rfl ?_
    refine g_get 15 rfl ha (Nat.le_of_ble_eq_true rfl) rfl rfl ?_
    refine g_alen 16 rfl (sh_7_1 ha) (by decide) rfl rfl ?_
    refine g_icmp_ge 31 19 rfl rfl (fun c2 => ?_) (fun c2 => ?_)
    · rw [if_pos c2] at h
      refine g_aconst_null 32 rfl rfl ?_
      cases h
      exact g_aret (x := none) rfl rfl
    · rw [if_neg c2] at h
      refine g_aload_n 20 rfl rfl rfl ?_
      refine g_get 23 rfl ha (Nat.le_of_ble_eq_true rfl) rfl rfl ?_
      refine g_aload_n 24 rfl rfl rfl ?_
      refine g_get 27 rfl ha (Nat.le_of_ble_eq_true rfl) rfl rfl ?_
      by_cases i3 : ib (U.1 a 2) (ln (a + 1))
      case neg => rw [if_neg i3] at h; cases h
      rw [if_pos i3] at h
      refine g_aald 28 rfl (sh_7_1 ha) (by decide) rfl i3 rfl ?_
      refine g_goto 32 rfl ?_
      cases h
      exact g_aret (x := some (rfA (a + 1) 15 (U.1 a 2).toNatClampNeg)) rfl rfl
theorem tag_95 (a : Nat) (ha : sh a = 7) {U : sU} {r : Option Nat} (h : f_95 a U = some r) : ∀ z, r = some z → sh z = 8 := by
  rw [f_95] at h
  (repeat' split at h) <;> first
    | (cases h; done)
    | (cases h; intro z hz; cases hz; done)
    | (rename_i hi; cases h; intro z hz; cases hz; exact sh_rfA_15 (sh_7_1 ha) hi)

def f_96 (a : Nat) (U : sU) : Option (Option Nat) :=
  if (U.1 a 3) < 0 then
    some none
  else
    if (Int32.ofNat (ln (a + 2))) ≤ (U.1 a 3) then
      some none
    else
      if ib (U.1 a 3) (ln (a + 2)) then
      some (some (rfA (a + 2) 13 (U.1 a 3).toNatClampNeg))
      else none
set_option maxRecDepth 10000 in
set_option maxHeartbeats 2000000 in
theorem F_96 (d : Nat) (a : Nat) (ha : sh a = 7) {U : sU} {r : Option Nat} (h : f_96 a U = some r) : Rn (d + 0) sm_I96 [.ref a] U (some (va_rf r)) U := by
  refine Rn_of [(0, .ref a)] (Nat.le_of_ble_eq_true rfl) (Sc rfl (Sn _)) ?_
  first | rw [f_96] at h | rw [f_96.eq_def] at h
  refine g_aload_n 1 rfl rfl rfl ?_
  refine g_get 4 rfl ha (Nat.le_of_ble_eq_true rfl) rfl rfl ?_
  refine g_if_lt 31 7 rfl rfl (fun c1 => ?_) (fun c1 => ?_)
  · rw [if_pos c1] at h
    refine g_aconst_null 32 rfl rfl ?_
    cases h
    exact g_aret (x := none) rfl rfl
  · rw [if_neg c1] at h
    refine g_aload_n 8 rfl rfl rfl ?_
    refine g_get 11 rfl ha (Nat.le_of_ble_eq_true rfl) rfl rfl ?_
    refine g_aload_n 12 rfl rfl rfl ?_
    refine g_get 15 rfl ha (Nat.le_of_ble_eq_true rfl) rfl rfl ?_
    refine g_alen 16 rfl (sh_7_2 ha) (by decide) rfl rfl ?_
    refine g_icmp_ge 31 19 rfl rfl (fun c2 => ?_) (fun c2 => ?_)
    · rw [if_pos c2] at h
      refine g_aconst_null 32 rfl rfl ?_
      cases h
      exact g_aret (x := none) rfl rfl
    · rw [if_neg c2] at h
      refine g_aload_n 20 rfl rfl rfl ?_
      refine g_get 23 rfl ha (Nat.le_of_ble_eq_true rfl) rfl rfl ?_
      refine g_aload_n 24 rfl rfl rfl ?_
      refine g_get 27 rfl ha (Nat.le_of_ble_eq_true rfl) rfl rfl ?_
      by_cases i3 : ib (U.1 a 3) (ln (a + 2))
      case neg => rw [if_neg i3] at h; cases h
      rw [if_pos i3] at h
      refine g_aald 28 rfl (sh_7_2 ha) (by decide) rfl i3 rfl ?_
      refine g_goto 32 rfl ?_
      cases h
      exact g_aret (x := some (rfA (a + 2) 13 (U.1 a 3).toNatClampNeg)) rfl rfl
theorem tag_96 (a : Nat) (ha : sh a = 7) {U : sU} {r : Option Nat} (h : f_96 a U = some r) : ∀ z, r = some z → sh z = 3 := by
  rw [f_96] at h
  (repeat' split at h) <;> first
    | (cases h; done)
    | (cases h; intro z hz; cases hz; done)
    | (rename_i hi; cases h; intro z hz; cases hz; exact sh_rfA_13 (sh_7_2 ha) hi)

def f_160 (x1 : Int32) (U : sU) : Option (Option Nat) :=
  if x1 < 0 then
    some none
  else
    if 8 ≤ x1 then
      some none
    else
      if ib x1 8 then
      some (some (rfA 1 14 x1.toNatClampNeg))
      else none
set_option maxRecDepth 10000 in
set_option maxHeartbeats 2000000 in
theorem F_160 (d : Nat) (x1 : Int32) {U : sU} {r : Option Nat} (h : f_160 x1 U = some r) : Rn (d + 0) sm_I160 [.ref 0, .int x1] U (some (va_rf r)) U := by
  refine Rn_of [(0, .ref 0), (1, .int x1)] (Nat.le_of_ble_eq_true rfl) (Sc rfl (Sc rfl (Sn _))) ?_
  first | rw [f_160] at h | rw [f_160.eq_def] at h
  refine g_iload_n 1 rfl rfl rfl ?_
  refine g_if_lt 22 4 rfl rfl (fun c1 => ?_) (fun c1 => ?_)
  · rw [if_pos c1] at h
    refine g_aconst_null 23 rfl rfl ?_
    cases h
    exact g_aret (x := none) rfl rfl
  · rw [if_neg c1] at h
    refine g_iload_n 5 rfl rfl rfl ?_
    refine g_aload_n 6 rfl rfl rfl ?_
    refine g_get 9 rfl s_0 (Nat.le_of_ble_eq_true rfl) rfl rfl ?_
    refine g_alenv (v := 8) 10 rfl s_1 (by decide) l_1 (by decide) rfl ?_
    refine g_icmp_ge 22 13 rfl rfl (fun c2 => ?_) (fun c2 => ?_)
    · rw [if_pos c2] at h
      refine g_aconst_null 23 rfl rfl ?_
      cases h
      exact g_aret (x := none) rfl rfl
    · rw [if_neg c2] at h
      refine g_aload_n 14 rfl rfl rfl ?_
      refine g_get 17 rfl s_0 (Nat.le_of_ble_eq_true rfl) rfl rfl ?_
      refine g_iload_n 18 rfl rfl rfl ?_
      by_cases i3 : ib x1 8
      case neg => rw [if_neg i3] at h; cases h
      rw [if_pos i3] at h
      refine g_aald 19 rfl s_1 (by decide) l_1 i3 rfl ?_
      refine g_goto 23 rfl ?_
      cases h
      exact g_aret (x := some (rfA 1 14 x1.toNatClampNeg)) rfl rfl
theorem tag_160 (x1 : Int32) {U : sU} {r : Option Nat} (h : f_160 x1 U = some r) : ∀ z, r = some z → sh z = 6 := by
  rw [f_160] at h
  (repeat' split at h) <;> first
    | (cases h; done)
    | (cases h; intro z hz; cases hz; done)
    | (rename_i hi; cases h; intro z hz; cases hz; exact sh_rfA_14 s_1 hi)
