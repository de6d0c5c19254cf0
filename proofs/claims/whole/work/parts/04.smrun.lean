/-! the small machine's run -/
/-- a method: its name, code, locals, answer, table -/
abbrev sm_I : Type := MethodName × ByteArray × Nat × Option FieldType × sm_T
/-- a new object's fields, by kind -/
def sm_df (ci : Nat) : List Value := match vwCl[ci]? with
  | some q => (List.range q.2.2).map (fun k => match parseFieldDescriptor (q.2.1 k).2.2.1 with
    | some t => defaultValue t
    | none => .null)
  | none => []
def sm_cat (st : List Value) : Nat := (st.map fun v => v.category).sum
/-- a constant text's bytes -/
def sm_tx (i : Nat) : List Nat := match i with
  | 0 => [115, 111, 32]
  | 1 => [119, 105, 115, 104]
  | 2 => [119, 111, 114, 100, 115]
  | 3 => [108, 101, 97, 110]
  | 4 => [108, 111, 115, 115]
  | 5 => [116, 119, 111]
  | _ => []
/-- an array of references: the kind of what it holds -/
def sm_ek (t : Nat) : Nat := match t with
  | 2 => 3
  | 3 => 6
  | _ => 8
/-- steps that make cells, take constants, texts, or copy; d: how many calls may stand open -/
def sm_k (e : sm_E) (d : Nat) (st : List Value) (h : sm_H) : Option (Nat × List Value × sm_H) := match e.1 with
  | .new _ => if e.2.1 < 11 ∧ h.length < 999 then some (3, .ref h.length :: st, h ++ [.inr (e.2.1, sm_df e.2.1)]) else none
  | .newarray .int => match st with
    | .int n :: r => if ¬ n < 0 ∧ n.toNatClampNeg ≤ 10000 ∧ h.length < 999 then some (2, .ref h.length :: r, h ++ [.inl (0, n.toNatClampNeg, .inl (fun _ => 0))]) else none
    | _ => none
  | .newarray .long => match st with
    | .int n :: r => if ¬ n < 0 ∧ n.toNatClampNeg ≤ 10000 ∧ h.length < 999 then some (2, .ref h.length :: r, h ++ [.inl (1, n.toNatClampNeg, .inr (.inl (fun _ => 0)))]) else none
    | _ => none
  | .anewarray _ => match st with
    | .int n :: r => if (e.2.1 = 2 ∨ e.2.1 = 3 ∨ e.2.1 = 4) ∧ ¬ n < 0 ∧ n.toNatClampNeg ≤ 10000 ∧ h.length < 999 then some (3, .ref h.length :: r, h ++ [.inl (e.2.1, n.toNatClampNeg, .inr (.inr (.inr (.inr (fun _ => none)))))]) else none
    | _ => none
  | .aastore => match st with
    | .ref v :: .int i :: .ref a :: r => match h[a]?, h[v]? with
      | some (.inl (t, n, .inr (.inr (.inr (.inr f))))), some (.inr (ci, _)) => if (t = 2 ∨ t = 3 ∨ t = 4) ∧ ci = sm_ek t ∧ ¬ (i < 0 ∨ n ≤ i.toNatClampNeg) then some (1, r, h.set a (.inl (t, n, .inr (.inr (.inr (.inr (va_up f i.toNatClampNeg (some v)))))))) else none
      | _, _ => none
    | _ => none
  | .ldc _ => if e.2.2.2 = 0 then some (2, .int (Int32.ofNat e.2.1) :: st, h) else if e.2.2.2 = 1 ∧ e.2.1 < 6 then some (2, .ref (1000 + e.2.1) :: st, h) else none
  | .ldc_w _ => some (3, .int (Int32.ofNat e.2.1) :: st, h)
  | .ldc2_w _ => some (3, .long (Int64.ofNat e.2.1) :: st, h)
  | .invokespecial _ => match st with
    | .ref _ :: r => if e.2.1 = 999 ∧ 1 ≤ d ∧ sm_cat r ≤ 8 then some (3, r, h) else none
    | _ => none
  | .invokestatic _ => match st with
    | .int n :: .int dp :: .ref b :: .int sp :: .ref a :: r => match h[a]?, h[b]? with
      | some (.inl (ta, na, .inr (.inl f))), some (.inl (tb, nb, .inr (.inl g))) => if e.2.1 = 998 ∧ 1 ≤ d ∧ sm_cat r ≤ 8 ∧ ta = 1 ∧ tb = 1 ∧ ¬ sp < 0 ∧ ¬ dp < 0 ∧ ¬ n < 0 ∧ sp.toNatClampNeg + n.toNatClampNeg ≤ na ∧ dp.toNatClampNeg + n.toNatClampNeg ≤ nb then some (3, r, h.set b (.inl (tb, nb, .inr (.inl (va_cpy f g sp.toNatClampNeg dp.toNatClampNeg n.toNatClampNeg))))) else none
      | _, _ => none
    | _ => none
  | _ => none
/-- calls of the texts' own methods: length, charAt, equals -/
def sm_x (e : sm_E) (d : Nat) (st : List Value) : Option (List Value) := match e.1 with
  | .invokevirtual _ => if e.2.1 = 900 then match st with
      | .ref a :: r => if 6 ≤ d ∧ sm_cat r ≤ 8 ∧ 1000 ≤ a ∧ a < 1006 then some (.int (Int32.ofNat (sm_tx (a - 1000)).length) :: r) else none
      | _ => none
    else if e.2.1 = 901 then match st with
      | .int i :: .ref a :: r => if 6 ≤ d ∧ sm_cat r ≤ 8 ∧ 1000 ≤ a ∧ a < 1006 ∧ ¬ (i < 0 ∨ (sm_tx (a - 1000)).length ≤ i.toNatClampNeg) then some (.int (Int32.ofNat ((sm_tx (a - 1000)).getD i.toNatClampNeg 0)) :: r) else none
      | _ => none
    else if e.2.1 = 902 then match st with
      | .ref b :: .ref a :: r => if 6 ≤ d ∧ sm_cat r ≤ 8 ∧ 1000 ≤ a ∧ a < 1006 ∧ 1000 ≤ b ∧ b < 1006 then some (.int (if a = b then 1 else 0) :: r) else none
      | _ => none
    else none
  | _ => none
/-- a method's end -/
def sm_rt (e : sm_E) (ret : Option FieldType) (st : List Value) : Option (Option Value) := match e.1, ret, st with
  | .return_, none, [] => some none
  | .ireturn, some .int, [.int v] => some (some (.int v))
  | .ireturn, some .boolean, [.int v] => if v = 0 ∨ v = 1 then some (some (.int v)) else none
  | .lreturn, some .long, [.long v] => some (some (.long v))
  | .areturn, some (.object _), [.ref a] => some (some (.ref a))
  | .areturn, some (.object _), [.null] => some (some .null)
  | _, _, _ => none
/-- a call: who, with what, what stays on the stack -/
def sm_cl (e : sm_E) (st : List Value) (h : sm_H) : Option (Nat × List Value × List Value) := match e.1 with
  | .invokevirtual _ => match st.drop e.2.2.1 with
    | .ref b :: r => match h[b]? with
      | some (.inr (ci, _)) => if ci = e.2.2.2 ∧ sm_cat r ≤ 8 ∧ e.2.2.1 ≤ st.length then some (e.2.1, .ref b :: (st.take e.2.2.1).reverse, r) else none
      | _ => none
    | _ => none
  | .invokespecial _ => match st.drop e.2.2.1 with
    | .ref b :: r => if sm_cat r ≤ 8 ∧ e.2.2.1 ≤ st.length then some (e.2.1, .ref b :: (st.take e.2.2.1).reverse, r) else none
    | _ => none
  | .invokestatic _ => if sm_cat (st.drop e.2.2.1) ≤ 8 ∧ e.2.2.1 ≤ st.length then some (e.2.1, (st.take e.2.2.1).reverse, st.drop e.2.2.1) else none
  | _ => none
def sm_run (M : Nat → Option sm_I) : Nat → Nat → sm_I → Nat → sm_L → List Value → sm_H → Option (Option Value × sm_H)
  | 0, _, _, _, _, _, _ => none
  | n + 1, d, I, pc, lv, st, h => match I.2.2.2.2[pc]? with
    | some (some e) => match sm_p e I.2.2.1 pc lv st with
      | some g => sm_run M n d I g.1 g.2.1 g.2.2 h
      | none => match sm_h e st h with
        | some g => sm_run M n d I (pc + g.1) lv g.2.1 g.2.2
        | none => match sm_k e d st h with
          | some g => sm_run M n d I (pc + g.1) lv g.2.1 g.2.2
          | none => match sm_x e d st with
            | some g => sm_run M n d I (pc + 3) lv g h
            | none => match sm_rt e I.2.2.2.1 st with
              | some v => some (v, h)
              | none => match sm_cl e st h with
                | some g => match d with
                  | 0 => none
                  | d + 1 => match M g.1 with
                    | some J => if sm_cat g.2.1 ≤ J.2.2.1 then match sm_run M n d J 0 (lv_args 0 g.2.1) [] h with
                        | some q => sm_run M n (d + 1) I (pc + 3) lv (q.1.toList ++ g.2.2) q.2
                        | none => none
                      else none
                    | none => none
                | none => none
    | _ => none
theorem sm_run_up (M : Nat → Option sm_I) : ∀ (n d : Nat) (I : sm_I) (pc : Nat) (lv : sm_L) (st : List Value) (h : sm_H) (r : Option Value × sm_H), sm_run M n d I pc lv st h = some r → sm_run M (n + 1) d I pc lv st h = some r := by
  intro n
  induction n with
  | zero => intro d I pc lv st h r hr; cases hr
  | succ n ih =>
    intro d I pc lv st h r hr
    unfold sm_run at hr ⊢
    split at hr
    · rename_i e he
      try rw [he]
      try dsimp only
      split at hr
      · rename_i g hg
        try rw [hg]
        exact ih _ _ _ _ _ _ _ hr
      · rename_i hg
        try rw [hg]
        try dsimp only
        split at hr
        · rename_i g hg
          try rw [hg]
          exact ih _ _ _ _ _ _ _ hr
        · rename_i hg
          try rw [hg]
          try dsimp only
          split at hr
          · rename_i g hg
            try rw [hg]
            exact ih _ _ _ _ _ _ _ hr
          · rename_i hg
            try rw [hg]
            try dsimp only
            split at hr
            · rename_i g hg
              try rw [hg]
              exact ih _ _ _ _ _ _ _ hr
            · rename_i hg
              try rw [hg]
              try dsimp only
              split at hr
              · rename_i g hg
                try rw [hg]
                exact hr
              · rename_i hg
                try rw [hg]
                try dsimp only
                split at hr
                · rename_i g hg
                  try rw [hg]
                  try dsimp only
                  split at hr
                  · cases hr
                  · split at hr
                    · rename_i J hJ
                      try rw [hJ]
                      try dsimp only
                      split at hr
                      · rename_i hcat
                        try rw [if_pos hcat]
                        split at hr
                        · rename_i q hq
                          rw [ih _ _ _ _ _ _ _ hq]
                          exact ih _ _ _ _ _ _ _ hr
                        · cases hr
                      · cases hr
                    · cases hr
                · cases hr
    · cases hr
theorem sm_run_le (M : Nat → Option sm_I) {n k d : Nat} {I : sm_I} {pc : Nat} {lv : sm_L} {st : List Value} {h : sm_H} {r : Option Value × sm_H} (hk : n ≤ k) (hr : sm_run M n d I pc lv st h = some r) : sm_run M k d I pc lv st h = some r := by
  induction hk with
  | refl => exact hr
  | step _ ih => exact sm_run_up M _ _ _ _ _ _ _ _ ih
/-- how many slots the cells have -/
def sm_sz : va_E → Nat
  | .inl q => q.2.1
  | .inr o => o.2.length
def sm_sl (h : sm_H) : Nat := (h.map sm_sz).sum
theorem sm_sl_set {h : sm_H} {a : Nat} {c c' : va_E} (hc : h[a]? = some c) (he : sm_sz c' = sm_sz c) : sm_sl (h.set a c') = sm_sl h := by
  induction h generalizing a with
  | nil => cases hc
  | cons x t ih =>
    cases a with
    | zero =>
      have : x = c := by simpa using hc
      subst this
      simp [sm_sl, he]
    | succ a =>
      have := ih (a := a) (by simpa using hc)
      simp only [sm_sl, List.set_cons_succ, List.map_cons, List.sum_cons] at this ⊢
      omega
theorem sm_h_size {e : sm_E} {st : List Value} {h : sm_H} {g : Nat × List Value × sm_H} (hg : sm_h e st h = some g) : g.2.2.length = h.length ∧ sm_sl g.2.2 = sm_sl h := by
  unfold sm_h at hg
  repeat' split at hg
  all_goals first
    | (cases hg; done)
    | (cases hg; exact ⟨rfl, rfl⟩)
    | (cases hg; refine ⟨by simp, ?_⟩; refine sm_sl_set (by assumption) ?_; simp [sm_sz])
theorem sm_k_size {e : sm_E} {d : Nat} {st : List Value} {h : sm_H} {g : Nat × List Value × sm_H} (hg : sm_k e d st h = some g) : h.length ≤ g.2.2.length ∧ sm_sl h ≤ sm_sl g.2.2 := by
  unfold sm_k at hg
  repeat' split at hg
  all_goals first
    | (cases hg; done)
    | (cases hg; exact ⟨Nat.le_refl _, Nat.le_refl _⟩)
    | (cases hg; refine ⟨by simp, ?_⟩; simp [sm_sl]; done)
    | (cases hg; refine ⟨by simp, ?_⟩; refine Nat.le_of_eq (sm_sl_set (by assumption) ?_).symm; simp [sm_sz])
theorem sm_run_size (M : Nat → Option sm_I) : ∀ (n d : Nat) (I : sm_I) (pc : Nat) (lv : sm_L) (st : List Value) (h : sm_H) (r : Option Value × sm_H), sm_run M n d I pc lv st h = some r → h.length ≤ r.2.length ∧ sm_sl h ≤ sm_sl r.2 := by
  intro n
  induction n with
  | zero => intro d I pc lv st h r hr; cases hr
  | succ n ih =>
    intro d I pc lv st h r hr
    unfold sm_run at hr
    split at hr
    · split at hr
      · exact ih _ _ _ _ _ _ _ hr
      · split at hr
        · rename_i g hg
          obtain ⟨a1, a2⟩ := sm_h_size hg
          obtain ⟨b1, b2⟩ := ih _ _ _ _ _ _ _ hr
          omega
        · split at hr
          · rename_i g hg
            obtain ⟨a1, a2⟩ := sm_k_size hg
            obtain ⟨b1, b2⟩ := ih _ _ _ _ _ _ _ hr
            omega
          · split at hr
            · exact ih _ _ _ _ _ _ _ hr
            · split at hr
              · cases hr; exact ⟨Nat.le_refl _, Nat.le_refl _⟩
              · split at hr
                · split at hr
                  · cases hr
                  · split at hr
                    · split at hr
                      · split at hr
                        · rename_i q hq
                          obtain ⟨a1, a2⟩ := ih _ _ _ _ _ _ _ hq
                          obtain ⟨b1, b2⟩ := ih _ _ _ _ _ _ _ hr
                          omega
                        · cases hr
                      · cases hr
                    · cases hr
                · cases hr
    · cases hr
