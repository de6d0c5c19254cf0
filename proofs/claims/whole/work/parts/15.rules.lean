/-! a run of the small machine over the store; rows for its instructions -/
/-- what the locals lv say stands in X -/
def Sub (lv X : sm_L) : Prop := ∀ q ∈ lv, sm_ld X q.1 = some q.2
theorem Sn (X : sm_L) : Sub [] X := fun q h => by cases h
theorem Sc {i : Nat} {v : Value} {r X : sm_L} (h : sm_ld X i = some v) (k : Sub r X) : Sub ((i, v) :: r) X := by
  intro q hq
  rcases List.mem_cons.mp hq with rfl | hq
  · exact h
  · exact k q hq
theorem Sub.ld {lv X : sm_L} (h : Sub lv X) {i : Nat} {v : Value} (hl : sm_ld lv i = some v) : sm_ld X i = some v := h _ (sm_ld_mem hl)
theorem Sub.tr {a b c : sm_L} (h : Sub a b) (k : Sub b c) : Sub a c := fun q hq => k.ld (h q hq)
theorem sm_ld_filter {f : Nat × Value → Bool} {k : Nat} {v : Value} (hf : f (k, v) = true) : ∀ {lv : sm_L}, sm_ld lv k = some v → sm_ld (lv.filter f) k = some v := by
  intro lv
  induction lv with
  | nil => intro h; cases h
  | cons q r ih =>
    intro h
    unfold sm_ld at h
    split at h
    · rename_i hq
      obtain ⟨a, b⟩ := q
      cases h
      dsimp only at hq
      subst hq
      rw [List.filter_cons, if_pos hf]
      unfold sm_ld
      rw [if_pos rfl]
    · rename_i hq
      rw [List.filter_cons]
      split
      · unfold sm_ld
        rw [if_neg hq]
        exact ih h
      · exact ih h
theorem Sub.st1 {lv X : sm_L} (h : Sub lv X) (i : Nat) (v : Value) : Sub (sm_st1 lv i v) (sm_st1 X i v) := by
  intro q hq
  unfold sm_st1 at hq ⊢
  rcases List.mem_cons.mp hq with rfl | hq
  · unfold sm_ld; rw [if_pos rfl]
  · obtain ⟨h1, h2⟩ := List.mem_filter.mp hq
    have hne : ¬ i = q.1 := by
      intro e
      simp [e] at h2
    unfold sm_ld
    rw [if_neg hne]
    exact sm_ld_filter h2 (h q h1)
theorem Sub.st2 {lv X : sm_L} (h : Sub lv X) (i : Nat) (v : Value) : Sub (sm_st2 lv i v) (sm_st2 X i v) := by
  intro q hq
  unfold sm_st2 at hq ⊢
  rcases List.mem_cons.mp hq with rfl | hq
  · unfold sm_ld; rw [if_pos rfl]
  · obtain ⟨h1, h2⟩ := List.mem_filter.mp hq
    have hne : ¬ i = q.1 := by
      intro e
      simp [e] at h2
    unfold sm_ld
    rw [if_neg hne]
    exact sm_ld_filter h2 (h q h1)
def G (d : Nat) (I : sm_I) (pc : Nat) (lv : sm_L) (st : List Value) (U : sU) (r : Option Value) (U' : sU) : Prop := ∀ X, Sub lv X → ∃ n, sm_run sm_M n d I pc X st (lay U) = some (r, lay U')
def Rn (d : Nat) (J : sm_I) (as : List Value) (U : sU) (r : Option Value) (U' : sU) : Prop := sm_cat as ≤ J.2.2.1 ∧ ∃ n, sm_run sm_M n d J 0 (lv_args 0 as) [] (lay U) = some (r, lay U')
abbrev ib (i : Int32) (n : Nat) : Prop := ¬ (i < 0 ∨ n ≤ i.toNatClampNeg)
section GR
variable {d : Nat} {I : sm_I} {pc : Nat} {lv : sm_L} {st : List Value} {U U' : sU} {r : Option Value}
theorem Rn_of {J : sm_I} {as : List Value} (lv : sm_L) (hc : sm_cat as ≤ J.2.2.1) (hs : Sub lv (lv_args 0 as)) (h : G d J 0 lv [] U r U') : Rn d J as U r U' := ⟨hc, h _ hs⟩
/-- fewer locals, in another order -/
theorem g_sub {lv' : sm_L} (hs : Sub lv' lv) (h : G d I pc lv' st U r U') : G d I pc lv st U r U' := fun X hX => h X (hs.tr hX)
theorem g_U {U1 : sU} (e : U = U1) (h : G d I pc lv st U1 r U') : G d I pc lv st U r U' := by rw [e]; exact h
theorem g_p {w : sm_E} {q : Nat} {lv' : sm_L} {st' : List Value} (hw : I.2.2.2.2[pc]? = some (some w)) (hp : ∀ X, Sub lv X → ∃ X', sm_p w I.2.2.1 pc X st = some (q, X', st') ∧ Sub lv' X') (K : G d I q lv' st' U r U') : G d I pc lv st U r U' := by
  intro X hX
  obtain ⟨X', h1, h2⟩ := hp X hX
  obtain ⟨n, hn⟩ := K X' h2
  exact ⟨n + 1, by unfold sm_run; rw [hw]; dsimp only; rw [h1]; exact hn⟩
theorem g_h {w : sm_E} {k : Nat} {st' : List Value} {U1 : sU} (hw : I.2.2.2.2[pc]? = some (some w)) (hn : ∀ X, sm_p w I.2.2.1 pc X st = none) (hh : sm_h w st (lay U) = some (k, st', lay U1)) (K : G d I (pc + k) lv st' U1 r U') : G d I pc lv st U r U' := by
  intro X hX
  obtain ⟨n, hn'⟩ := K X hX
  exact ⟨n + 1, by unfold sm_run; rw [hw]; dsimp only; rw [hn X]; dsimp only; rw [hh]; dsimp only; exact hn'⟩
theorem g_k {w : sm_E} {k : Nat} {st' : List Value} {U1 : sU} (hw : I.2.2.2.2[pc]? = some (some w)) (hn : ∀ X, sm_p w I.2.2.1 pc X st = none) (hn2 : sm_h w st (lay U) = none) (hh : sm_k w d st (lay U) = some (k, st', lay U1)) (K : G d I (pc + k) lv st' U1 r U') : G d I pc lv st U r U' := by
  intro X hX
  obtain ⟨n, hn'⟩ := K X hX
  exact ⟨n + 1, by unfold sm_run; rw [hw]; dsimp only; rw [hn X]; dsimp only; rw [hn2]; dsimp only; rw [hh]; dsimp only; exact hn'⟩
theorem g_x {w : sm_E} {st' : List Value} (hw : I.2.2.2.2[pc]? = some (some w)) (hn : ∀ X, sm_p w I.2.2.1 pc X st = none) (hn2 : sm_h w st (lay U) = none) (hn3 : sm_k w d st (lay U) = none) (hh : sm_x w d st = some st') (K : G d I (pc + 3) lv st' U r U') : G d I pc lv st U r U' := by
  intro X hX
  obtain ⟨n, hn'⟩ := K X hX
  exact ⟨n + 1, by unfold sm_run; rw [hw]; dsimp only; rw [hn X]; dsimp only; rw [hn2]; dsimp only; rw [hn3]; dsimp only; rw [hh]; dsimp only; exact hn'⟩
theorem g_r {w : sm_E} (hw : I.2.2.2.2[pc]? = some (some w)) (hn : ∀ X, sm_p w I.2.2.1 pc X st = none) (hn2 : sm_h w st (lay U) = none) (hn3 : sm_k w d st (lay U) = none) (hn4 : sm_x w d st = none) (hh : sm_rt w I.2.2.2.1 st = some r) : G d I pc lv st U r U := by
  intro X hX
  exact ⟨1, by unfold sm_run; rw [hw]; dsimp only; rw [hn X]; dsimp only; rw [hn2]; dsimp only; rw [hn3]; dsimp only; rw [hn4]; dsimp only; rw [hh]⟩
theorem g_c {w : sm_E} {J : sm_I} {y : Nat} {as rest : List Value} {rv : Option Value} {U1 : sU} (hw : I.2.2.2.2[pc]? = some (some w)) (hn : ∀ X, sm_p w I.2.2.1 pc X st = none) (hn2 : sm_h w st (lay U) = none) (hn3 : sm_k w (d + 1) st (lay U) = none) (hn4 : sm_x w (d + 1) st = none) (hn5 : sm_rt w I.2.2.2.1 st = none) (hc : sm_cl w st (lay U) = some (y, as, rest)) (hJ : sm_M y = some J)
    (run : Rn d J as U rv U1) (K : G (d + 1) I (pc + 3) lv (rv.toList ++ rest) U1 r U') : G (d + 1) I pc lv st U r U' := by
  intro X hX
  obtain ⟨n, hn'⟩ := K X hX
  obtain ⟨hcat, k, hk⟩ := run
  refine ⟨n + k + 1, ?_⟩
  unfold sm_run
  rw [hw]; dsimp only; rw [hn X]; dsimp only; rw [hn2]; dsimp only; rw [hn3]; dsimp only; rw [hn4]; dsimp only; rw [hn5]; dsimp only; rw [hc]; dsimp only; rw [hJ]; dsimp only
  rw [if_pos hcat, sm_run_le _ (Nat.le_add_left k n) hk]
  dsimp only
  exact sm_run_le _ (Nat.le_add_right n k) hn' 
theorem g_iload_n {n : Fin 4} {x : Int32} {w1 w2 w3 : Nat} (q : Nat) (hw : I.2.2.2.2[pc]? = some (some (.iload_n n, w1, w2, w3))) (hl : sm_ld lv n.val = some (.int x)) (hq : pc + 1 = q) (K : G d I q lv (.int x :: st) U r U') : G d I pc lv st U r U' := by
  subst hq
  exact g_p hw (fun X hX => ⟨X, by unfold sm_p sm_lod; dsimp only; rw [hX.ld hl]; rfl, hX⟩) K
theorem g_iload {n : Nat} {x : Int32} {w1 w2 w3 : Nat} (q : Nat) (hw : I.2.2.2.2[pc]? = some (some (.iload n, w1, w2, w3))) (hl : sm_ld lv n = some (.int x)) (hq : pc + 2 = q) (K : G d I q lv (.int x :: st) U r U') : G d I pc lv st U r U' := by
  subst hq
  exact g_p hw (fun X hX => ⟨X, by unfold sm_p sm_lod; dsimp only; rw [hX.ld hl]; rfl, hX⟩) K
theorem g_lload_n {n : Fin 4} {x : Int64} {w1 w2 w3 : Nat} (q : Nat) (hw : I.2.2.2.2[pc]? = some (some (.lload_n n, w1, w2, w3))) (hl : sm_ld lv n.val = some (.long x)) (hq : pc + 1 = q) (K : G d I q lv (.long x :: st) U r U') : G d I pc lv st U r U' := by
  subst hq
  exact g_p hw (fun X hX => ⟨X, by unfold sm_p sm_lod; dsimp only; rw [hX.ld hl]; rfl, hX⟩) K
theorem g_lload {n : Nat} {x : Int64} {w1 w2 w3 : Nat} (q : Nat) (hw : I.2.2.2.2[pc]? = some (some (.lload n, w1, w2, w3))) (hl : sm_ld lv n = some (.long x)) (hq : pc + 2 = q) (K : G d I q lv (.long x :: st) U r U') : G d I pc lv st U r U' := by
  subst hq
  exact g_p hw (fun X hX => ⟨X, by unfold sm_p sm_lod; dsimp only; rw [hX.ld hl]; rfl, hX⟩) K
theorem g_aload_n {n : Fin 4} {x : Nat} {w1 w2 w3 : Nat} (q : Nat) (hw : I.2.2.2.2[pc]? = some (some (.aload_n n, w1, w2, w3))) (hl : sm_ld lv n.val = some (.ref x)) (hq : pc + 1 = q) (K : G d I q lv (.ref x :: st) U r U') : G d I pc lv st U r U' := by
  subst hq
  exact g_p hw (fun X hX => ⟨X, by unfold sm_p sm_lod; dsimp only; rw [hX.ld hl]; rfl, hX⟩) K
theorem g_aload {n : Nat} {x : Nat} {w1 w2 w3 : Nat} (q : Nat) (hw : I.2.2.2.2[pc]? = some (some (.aload n, w1, w2, w3))) (hl : sm_ld lv n = some (.ref x)) (hq : pc + 2 = q) (K : G d I q lv (.ref x :: st) U r U') : G d I pc lv st U r U' := by
  subst hq
  exact g_p hw (fun X hX => ⟨X, by unfold sm_p sm_lod; dsimp only; rw [hX.ld hl]; rfl, hX⟩) K
theorem g_aload_nq {n : Fin 4} {x : Option Nat} {w1 w2 w3 : Nat} (q : Nat) (hw : I.2.2.2.2[pc]? = some (some (.aload_n n, w1, w2, w3))) (hl : sm_ld lv n.val = some (va_rf x)) (hq : pc + 1 = q) (K : G d I q lv (va_rf x :: st) U r U') : G d I pc lv st U r U' := by
  subst hq
  refine g_p hw (fun X hX => ⟨X, ?_, hX⟩) K
  unfold sm_p sm_lod
  dsimp only
  rw [hX.ld hl]
  cases x <;> rfl
theorem g_aloadq {n : Nat} {x : Option Nat} {w1 w2 w3 : Nat} (q : Nat) (hw : I.2.2.2.2[pc]? = some (some (.aload n, w1, w2, w3))) (hl : sm_ld lv n = some (va_rf x)) (hq : pc + 2 = q) (K : G d I q lv (va_rf x :: st) U r U') : G d I pc lv st U r U' := by
  subst hq
  refine g_p hw (fun X hX => ⟨X, ?_, hX⟩) K
  unfold sm_p sm_lod
  dsimp only
  rw [hX.ld hl]
  cases x <;> rfl
theorem g_istore_n {n : Fin 4} {x : Int32} {w1 w2 w3 : Nat} (q : Nat) (lv' : sm_L) (hw : I.2.2.2.2[pc]? = some (some (.istore_n n, w1, w2, w3))) (hn : n.val < I.2.2.1) (hv : sm_st1 lv n.val (.int x) = lv') (hq : pc + 1 = q) (K : G d I q lv' st U r U') : G d I pc lv (.int x :: st) U r U' := by
  subst hq
  subst hv
  refine g_p hw (fun X hX => ⟨sm_st1 X n.val (.int x), ?_, hX.st1 n.val (.int x)⟩) K
  unfold sm_p sm_sto
  dsimp only
  rw [if_pos ⟨rfl, hn⟩]
theorem g_istore {n : Nat} {x : Int32} {w1 w2 w3 : Nat} (q : Nat) (lv' : sm_L) (hw : I.2.2.2.2[pc]? = some (some (.istore n, w1, w2, w3))) (hn : n < I.2.2.1) (hv : sm_st1 lv n (.int x) = lv') (hq : pc + 2 = q) (K : G d I q lv' st U r U') : G d I pc lv (.int x :: st) U r U' := by
  subst hq
  subst hv
  refine g_p hw (fun X hX => ⟨sm_st1 X n (.int x), ?_, hX.st1 n (.int x)⟩) K
  unfold sm_p sm_sto
  dsimp only
  rw [if_pos ⟨rfl, hn⟩]
theorem g_lstore_n {n : Fin 4} {x : Int64} {w1 w2 w3 : Nat} (q : Nat) (lv' : sm_L) (hw : I.2.2.2.2[pc]? = some (some (.lstore_n n, w1, w2, w3))) (hn : n.val + 1 < I.2.2.1) (hv : sm_st2 lv n.val (.long x) = lv') (hq : pc + 1 = q) (K : G d I q lv' st U r U') : G d I pc lv (.long x :: st) U r U' := by
  subst hq
  subst hv
  refine g_p hw (fun X hX => ⟨sm_st2 X n.val (.long x), ?_, hX.st2 n.val (.long x)⟩) K
  unfold sm_p sm_sto
  dsimp only
  rw [if_pos ⟨rfl, hn⟩]
theorem g_lstore {n : Nat} {x : Int64} {w1 w2 w3 : Nat} (q : Nat) (lv' : sm_L) (hw : I.2.2.2.2[pc]? = some (some (.lstore n, w1, w2, w3))) (hn : n + 1 < I.2.2.1) (hv : sm_st2 lv n (.long x) = lv') (hq : pc + 2 = q) (K : G d I q lv' st U r U') : G d I pc lv (.long x :: st) U r U' := by
  subst hq
  subst hv
  refine g_p hw (fun X hX => ⟨sm_st2 X n (.long x), ?_, hX.st2 n (.long x)⟩) K
  unfold sm_p sm_sto
  dsimp only
  rw [if_pos ⟨rfl, hn⟩]
theorem g_astore_n {n : Fin 4} {x : Nat} {w1 w2 w3 : Nat} (q : Nat) (lv' : sm_L) (hw : I.2.2.2.2[pc]? = some (some (.astore_n n, w1, w2, w3))) (hn : n.val < I.2.2.1) (hv : sm_st1 lv n.val (.ref x) = lv') (hq : pc + 1 = q) (K : G d I q lv' st U r U') : G d I pc lv (.ref x :: st) U r U' := by
  subst hq
  subst hv
  refine g_p hw (fun X hX => ⟨sm_st1 X n.val (.ref x), ?_, hX.st1 n.val (.ref x)⟩) K
  unfold sm_p sm_sto
  dsimp only
  rw [if_pos ⟨rfl, hn⟩]
theorem g_astore {n : Nat} {x : Nat} {w1 w2 w3 : Nat} (q : Nat) (lv' : sm_L) (hw : I.2.2.2.2[pc]? = some (some (.astore n, w1, w2, w3))) (hn : n < I.2.2.1) (hv : sm_st1 lv n (.ref x) = lv') (hq : pc + 2 = q) (K : G d I q lv' st U r U') : G d I pc lv (.ref x :: st) U r U' := by
  subst hq
  subst hv
  refine g_p hw (fun X hX => ⟨sm_st1 X n (.ref x), ?_, hX.st1 n (.ref x)⟩) K
  unfold sm_p sm_sto
  dsimp only
  rw [if_pos ⟨rfl, hn⟩]
/-- storing a reference or null -/
def sm_L1q (lv : sm_L) (i : Nat) (x : Option Nat) : sm_L := (i, va_rf x) :: lv.filter (fun q => !(q.1 == i) && !(q.1 + 1 == i && q.2.category == 2))
theorem sm_L1q_eq (lv : sm_L) (i : Nat) (x : Option Nat) : sm_L1q lv i x = sm_st1 lv i (va_rf x) := rfl
theorem g_astore_nq {n : Fin 4} {x : Option Nat} {w1 w2 w3 : Nat} (q : Nat) (lv' : sm_L) (hw : I.2.2.2.2[pc]? = some (some (.astore_n n, w1, w2, w3))) (hn : n.val < I.2.2.1) (hv : sm_L1q lv n.val x = lv') (hq : pc + 1 = q) (K : G d I q lv' st U r U') : G d I pc lv (va_rf x :: st) U r U' := by
  subst hq
  subst hv
  have K := (sm_L1q_eq lv n.val x) ▸ K
  refine g_p hw (fun X hX => ⟨sm_st1 X n.val (va_rf x), ?_, hX.st1 n.val (va_rf x)⟩) K
  unfold sm_p sm_sto
  dsimp only
  cases x <;> exact if_pos ⟨rfl, hn⟩
theorem g_astoreq {n : Nat} {x : Option Nat} {w1 w2 w3 : Nat} (q : Nat) (lv' : sm_L) (hw : I.2.2.2.2[pc]? = some (some (.astore n, w1, w2, w3))) (hn : n < I.2.2.1) (hv : sm_L1q lv n x = lv') (hq : pc + 2 = q) (K : G d I q lv' st U r U') : G d I pc lv (va_rf x :: st) U r U' := by
  subst hq
  subst hv
  have K := (sm_L1q_eq lv n x) ▸ K
  refine g_p hw (fun X hX => ⟨sm_st1 X n (va_rf x), ?_, hX.st1 n (va_rf x)⟩) K
  unfold sm_p sm_sto
  dsimp only
  cases x <;> exact if_pos ⟨rfl, hn⟩
theorem g_iconst {n : Int} {v : Int32} {w1 w2 w3 : Nat} (q : Nat) (hw : I.2.2.2.2[pc]? = some (some (.iconst n, w1, w2, w3))) (hv : Int32.ofInt n = v) (hq : pc + 1 = q) (K : G d I q lv (.int v :: st) U r U') : G d I pc lv st U r U' := by
  subst hq
  exact g_p hw (fun X hX => ⟨X, by rw [← hv]; rfl, hX⟩) K
theorem g_bipush {n : Int} {v : Int32} {w1 w2 w3 : Nat} (q : Nat) (hw : I.2.2.2.2[pc]? = some (some (.bipush n, w1, w2, w3))) (hv : (Int8.ofInt n).toInt32 = v) (hq : pc + 2 = q) (K : G d I q lv (.int v :: st) U r U') : G d I pc lv st U r U' := by
  subst hq
  exact g_p hw (fun X hX => ⟨X, by rw [← hv]; rfl, hX⟩) K
theorem g_sipush {n : Int} {v : Int32} {w1 w2 w3 : Nat} (q : Nat) (hw : I.2.2.2.2[pc]? = some (some (.sipush n, w1, w2, w3))) (hv : (Int16.ofInt n).toInt32 = v) (hq : pc + 3 = q) (K : G d I q lv (.int v :: st) U r U') : G d I pc lv st U r U' := by
  subst hq
  exact g_p hw (fun X hX => ⟨X, by rw [← hv]; rfl, hX⟩) K
theorem g_lconst {n : Fin 2} {v : Int64} {w1 w2 w3 : Nat} (q : Nat) (hw : I.2.2.2.2[pc]? = some (some (.lconst n, w1, w2, w3))) (hv : Int64.ofNat (n : Nat) = v) (hq : pc + 1 = q) (K : G d I q lv (.long v :: st) U r U') : G d I pc lv st U r U' := by
  subst hq
  exact g_p hw (fun X hX => ⟨X, by rw [← hv]; rfl, hX⟩) K
theorem g_aconst_null {w1 w2 w3 : Nat} (q : Nat) (hw : I.2.2.2.2[pc]? = some (some (.aconst_null, w1, w2, w3))) (hq : pc + 1 = q) (K : G d I q lv (va_rf none :: st) U r U') : G d I pc lv st U r U' := by
  subst hq
  exact g_p hw (fun X hX => ⟨X, rfl, hX⟩) K
theorem g_iadd {x y : Int32} {w1 w2 w3 : Nat} (q : Nat) (hw : I.2.2.2.2[pc]? = some (some (.iadd, w1, w2, w3))) (hq : pc + 1 = q) (K : G d I q lv (.int (x + y) :: st) U r U') : G d I pc lv (.int y :: .int x :: st) U r U' := by
  subst hq
  exact g_p hw (fun X hX => ⟨X, rfl, hX⟩) K
theorem g_isub {x y : Int32} {w1 w2 w3 : Nat} (q : Nat) (hw : I.2.2.2.2[pc]? = some (some (.isub, w1, w2, w3))) (hq : pc + 1 = q) (K : G d I q lv (.int (x - y) :: st) U r U') : G d I pc lv (.int y :: .int x :: st) U r U' := by
  subst hq
  exact g_p hw (fun X hX => ⟨X, rfl, hX⟩) K
theorem g_imul {x y : Int32} {w1 w2 w3 : Nat} (q : Nat) (hw : I.2.2.2.2[pc]? = some (some (.imul, w1, w2, w3))) (hq : pc + 1 = q) (K : G d I q lv (.int (x * y) :: st) U r U') : G d I pc lv (.int y :: .int x :: st) U r U' := by
  subst hq
  exact g_p hw (fun X hX => ⟨X, rfl, hX⟩) K
theorem g_iand {x y : Int32} {w1 w2 w3 : Nat} (q : Nat) (hw : I.2.2.2.2[pc]? = some (some (.iand, w1, w2, w3))) (hq : pc + 1 = q) (K : G d I q lv (.int (x &&& y) :: st) U r U') : G d I pc lv (.int y :: .int x :: st) U r U' := by
  subst hq
  exact g_p hw (fun X hX => ⟨X, rfl, hX⟩) K
theorem g_ior {x y : Int32} {w1 w2 w3 : Nat} (q : Nat) (hw : I.2.2.2.2[pc]? = some (some (.ior, w1, w2, w3))) (hq : pc + 1 = q) (K : G d I q lv (.int (x ||| y) :: st) U r U') : G d I pc lv (.int y :: .int x :: st) U r U' := by
  subst hq
  exact g_p hw (fun X hX => ⟨X, rfl, hX⟩) K
theorem g_ixor {x y : Int32} {w1 w2 w3 : Nat} (q : Nat) (hw : I.2.2.2.2[pc]? = some (some (.ixor, w1, w2, w3))) (hq : pc + 1 = q) (K : G d I q lv (.int (x ^^^ y) :: st) U r U') : G d I pc lv (.int y :: .int x :: st) U r U' := by
  subst hq
  exact g_p hw (fun X hX => ⟨X, rfl, hX⟩) K
theorem g_ishl {x y : Int32} {w1 w2 w3 : Nat} (q : Nat) (hw : I.2.2.2.2[pc]? = some (some (.ishl, w1, w2, w3))) (hq : pc + 1 = q) (K : G d I q lv (.int (x <<< (y &&& 31)) :: st) U r U') : G d I pc lv (.int y :: .int x :: st) U r U' := by
  subst hq
  exact g_p hw (fun X hX => ⟨X, rfl, hX⟩) K
theorem g_ishr {x y : Int32} {w1 w2 w3 : Nat} (q : Nat) (hw : I.2.2.2.2[pc]? = some (some (.ishr, w1, w2, w3))) (hq : pc + 1 = q) (K : G d I q lv (.int (x >>> (y &&& 31)) :: st) U r U') : G d I pc lv (.int y :: .int x :: st) U r U' := by
  subst hq
  exact g_p hw (fun X hX => ⟨X, rfl, hX⟩) K
theorem g_iushr {x y : Int32} {w1 w2 w3 : Nat} (q : Nat) (hw : I.2.2.2.2[pc]? = some (some (.iushr, w1, w2, w3))) (hq : pc + 1 = q) (K : G d I q lv (.int ((x.toUInt32 >>> (y.toUInt32 &&& Int32.toUInt32 31)).toInt32) :: st) U r U') : G d I pc lv (.int y :: .int x :: st) U r U' := by
  subst hq
  exact g_p hw (fun X hX => ⟨X, rfl, hX⟩) K
theorem g_ladd {x y : Int64} {w1 w2 w3 : Nat} (q : Nat) (hw : I.2.2.2.2[pc]? = some (some (.ladd, w1, w2, w3))) (hq : pc + 1 = q) (K : G d I q lv (.long (x + y) :: st) U r U') : G d I pc lv (.long y :: .long x :: st) U r U' := by
  subst hq
  exact g_p hw (fun X hX => ⟨X, rfl, hX⟩) K
theorem g_lsub {x y : Int64} {w1 w2 w3 : Nat} (q : Nat) (hw : I.2.2.2.2[pc]? = some (some (.lsub, w1, w2, w3))) (hq : pc + 1 = q) (K : G d I q lv (.long (x - y) :: st) U r U') : G d I pc lv (.long y :: .long x :: st) U r U' := by
  subst hq
  exact g_p hw (fun X hX => ⟨X, rfl, hX⟩) K
theorem g_lmul {x y : Int64} {w1 w2 w3 : Nat} (q : Nat) (hw : I.2.2.2.2[pc]? = some (some (.lmul, w1, w2, w3))) (hq : pc + 1 = q) (K : G d I q lv (.long (x * y) :: st) U r U') : G d I pc lv (.long y :: .long x :: st) U r U' := by
  subst hq
  exact g_p hw (fun X hX => ⟨X, rfl, hX⟩) K
theorem g_land {x y : Int64} {w1 w2 w3 : Nat} (q : Nat) (hw : I.2.2.2.2[pc]? = some (some (.land, w1, w2, w3))) (hq : pc + 1 = q) (K : G d I q lv (.long (x &&& y) :: st) U r U') : G d I pc lv (.long y :: .long x :: st) U r U' := by
  subst hq
  exact g_p hw (fun X hX => ⟨X, rfl, hX⟩) K
theorem g_lor {x y : Int64} {w1 w2 w3 : Nat} (q : Nat) (hw : I.2.2.2.2[pc]? = some (some (.lor, w1, w2, w3))) (hq : pc + 1 = q) (K : G d I q lv (.long (x ||| y) :: st) U r U') : G d I pc lv (.long y :: .long x :: st) U r U' := by
  subst hq
  exact g_p hw (fun X hX => ⟨X, rfl, hX⟩) K
theorem g_lxor {x y : Int64} {w1 w2 w3 : Nat} (q : Nat) (hw : I.2.2.2.2[pc]? = some (some (.lxor, w1, w2, w3))) (hq : pc + 1 = q) (K : G d I q lv (.long (x ^^^ y) :: st) U r U') : G d I pc lv (.long y :: .long x :: st) U r U' := by
  subst hq
  exact g_p hw (fun X hX => ⟨X, rfl, hX⟩) K
theorem g_ineg {x : Int32} {w1 w2 w3 : Nat} (q : Nat) (hw : I.2.2.2.2[pc]? = some (some (.ineg, w1, w2, w3))) (hq : pc + 1 = q) (K : G d I q lv (.int (-x) :: st) U r U') : G d I pc lv (.int x :: st) U r U' := by
  subst hq
  exact g_p hw (fun X hX => ⟨X, rfl, hX⟩) K
theorem g_lneg {x : Int64} {w1 w2 w3 : Nat} (q : Nat) (hw : I.2.2.2.2[pc]? = some (some (.lneg, w1, w2, w3))) (hq : pc + 1 = q) (K : G d I q lv (.long (-x) :: st) U r U') : G d I pc lv (.long x :: st) U r U' := by
  subst hq
  exact g_p hw (fun X hX => ⟨X, rfl, hX⟩) K
theorem g_i2l {x : Int32} {w1 w2 w3 : Nat} (q : Nat) (hw : I.2.2.2.2[pc]? = some (some (.i2l, w1, w2, w3))) (hq : pc + 1 = q) (K : G d I q lv (.long x.toInt64 :: st) U r U') : G d I pc lv (.int x :: st) U r U' := by
  subst hq
  exact g_p hw (fun X hX => ⟨X, rfl, hX⟩) K
theorem g_l2i {x : Int64} {w1 w2 w3 : Nat} (q : Nat) (hw : I.2.2.2.2[pc]? = some (some (.l2i, w1, w2, w3))) (hq : pc + 1 = q) (K : G d I q lv (.int x.toInt32 :: st) U r U') : G d I pc lv (.long x :: st) U r U' := by
  subst hq
  exact g_p hw (fun X hX => ⟨X, rfl, hX⟩) K
theorem g_i2b {x : Int32} {w1 w2 w3 : Nat} (q : Nat) (hw : I.2.2.2.2[pc]? = some (some (.i2b, w1, w2, w3))) (hq : pc + 1 = q) (K : G d I q lv (.int x.toInt8.toInt32 :: st) U r U') : G d I pc lv (.int x :: st) U r U' := by
  subst hq
  exact g_p hw (fun X hX => ⟨X, rfl, hX⟩) K
theorem g_i2s {x : Int32} {w1 w2 w3 : Nat} (q : Nat) (hw : I.2.2.2.2[pc]? = some (some (.i2s, w1, w2, w3))) (hq : pc + 1 = q) (K : G d I q lv (.int x.toInt16.toInt32 :: st) U r U') : G d I pc lv (.int x :: st) U r U' := by
  subst hq
  exact g_p hw (fun X hX => ⟨X, rfl, hX⟩) K
theorem g_lcmp {x y : Int64} {w1 w2 w3 : Nat} (q : Nat) (hw : I.2.2.2.2[pc]? = some (some (.lcmp, w1, w2, w3))) (hq : pc + 1 = q) (K : G d I q lv (.int (lg_cmp x y) :: st) U r U') : G d I pc lv (.long y :: .long x :: st) U r U' := by
  subst hq
  exact g_p hw (fun X hX => ⟨X, rfl, hX⟩) K
theorem g_lshl {x : Int64} {y : Int32} {w1 w2 w3 : Nat} (q : Nat) (hw : I.2.2.2.2[pc]? = some (some (.lshl, w1, w2, w3))) (hq : pc + 1 = q) (K : G d I q lv (.long (x <<< (y.toInt64 &&& 63)) :: st) U r U') : G d I pc lv (.int y :: .long x :: st) U r U' := by
  subst hq
  exact g_p hw (fun X hX => ⟨X, rfl, hX⟩) K
theorem g_idiv {x y : Int32} {w1 w2 w3 : Nat} (q : Nat) (hw : I.2.2.2.2[pc]? = some (some (.idiv, w1, w2, w3))) (hy : ¬ y = 0) (hq : pc + 1 = q) (K : G d I q lv (.int (x / y) :: st) U r U') : G d I pc lv (.int y :: .int x :: st) U r U' := by
  subst hq
  exact g_p hw (fun X hX => ⟨X, by unfold sm_p; dsimp only; rw [if_pos hy], hX⟩) K
theorem g_irem {x y : Int32} {w1 w2 w3 : Nat} (q : Nat) (hw : I.2.2.2.2[pc]? = some (some (.irem, w1, w2, w3))) (hy : ¬ y = 0) (hq : pc + 1 = q) (K : G d I q lv (.int (x - x / y * y) :: st) U r U') : G d I pc lv (.int y :: .int x :: st) U r U' := by
  subst hq
  exact g_p hw (fun X hX => ⟨X, by unfold sm_p; dsimp only; rw [if_pos hy], hX⟩) K
theorem g_ldiv {x y : Int64} {w1 w2 w3 : Nat} (q : Nat) (hw : I.2.2.2.2[pc]? = some (some (.ldiv, w1, w2, w3))) (hy : ¬ y = 0) (hq : pc + 1 = q) (K : G d I q lv (.long (x / y) :: st) U r U') : G d I pc lv (.long y :: .long x :: st) U r U' := by
  subst hq
  exact g_p hw (fun X hX => ⟨X, by unfold sm_p; dsimp only; rw [if_pos hy], hX⟩) K
theorem g_dup {v : Value} {w1 w2 w3 : Nat} (q : Nat) (hw : I.2.2.2.2[pc]? = some (some (.dup, w1, w2, w3))) (hv : v.category = 1) (hq : pc + 1 = q) (K : G d I q lv (v :: v :: st) U r U') : G d I pc lv (v :: st) U r U' := by
  subst hq
  exact g_p hw (fun X hX => ⟨X, by unfold sm_p; dsimp only; rw [if_pos hv], hX⟩) K
theorem g_pop {v : Value} {w1 w2 w3 : Nat} (q : Nat) (hw : I.2.2.2.2[pc]? = some (some (.pop, w1, w2, w3))) (hv : v.category = 1) (hq : pc + 1 = q) (K : G d I q lv st U r U') : G d I pc lv (v :: st) U r U' := by
  subst hq
  exact g_p hw (fun X hX => ⟨X, by unfold sm_p; dsimp only; rw [if_pos hv], hX⟩) K
theorem g_dup_x1 {v z : Value} {w1 w2 w3 : Nat} (q : Nat) (hw : I.2.2.2.2[pc]? = some (some (.dup_x1, w1, w2, w3))) (hv : v.category = 1) (hz : z.category = 1) (hq : pc + 1 = q) (K : G d I q lv (v :: z :: v :: st) U r U') : G d I pc lv (v :: z :: st) U r U' := by
  subst hq
  exact g_p hw (fun X hX => ⟨X, by unfold sm_p; dsimp only; rw [if_pos ⟨hv, hz⟩], hX⟩) K
theorem g_dup2 {v z : Value} {w1 w2 w3 : Nat} (q : Nat) (hw : I.2.2.2.2[pc]? = some (some (.dup2, w1, w2, w3))) (hv : v.category = 1) (hz : z.category = 1) (hq : pc + 1 = q) (K : G d I q lv (v :: z :: v :: z :: st) U r U') : G d I pc lv (v :: z :: st) U r U' := by
  subst hq
  exact g_p hw (fun X hX => ⟨X, by unfold sm_p; dsimp only; rw [if_pos ⟨hv, hz⟩], hX⟩) K
theorem g_iinc {i : Nat} {n : Int} {x v : Int32} {w1 w2 w3 : Nat} (q : Nat) (lv' : sm_L) (hw : I.2.2.2.2[pc]? = some (some (.iinc i n, w1, w2, w3))) (hl : sm_ld lv i = some (.int x)) (hn : i < I.2.2.1) (hx : x + Int32.ofInt n = v) (hv : sm_st1 lv i (.int v) = lv') (hq : pc + 3 = q) (K : G d I q lv' st U r U') : G d I pc lv st U r U' := by
  subst hq
  subst hx
  subst hv
  refine g_p hw (fun X hX => ⟨sm_st1 X i (.int (x + Int32.ofInt n)), ?_, hX.st1 i _⟩) K
  unfold sm_p
  dsimp only
  rw [hX.ld hl]
  dsimp only
  rw [if_pos hn]
theorem g_goto {n : Int} {w2 w3 : Nat} (q : Nat) (hw : I.2.2.2.2[pc]? = some (some (.goto n, q, w2, w3))) (K : G d I q lv st U r U') : G d I pc lv st U r U' := g_p hw (fun X hX => ⟨X, rfl, hX⟩) K
theorem g_if_eq {x : Int32} {n : Int} {w2 w3 : Nat} (t q : Nat) (hw : I.2.2.2.2[pc]? = some (some (.ifCond .eq n, t, w2, w3))) (hq : pc + 3 = q) (kt : x = 0 → G d I t lv st U r U') (kf : ¬ x = 0 → G d I q lv st U r U') : G d I pc lv (.int x :: st) U r U' := by
  subst hq
  by_cases h : sm_cmp .eq x 0
  · exact g_p hw (fun X hX => ⟨X, by unfold sm_p; dsimp only; rw [sm_if_t h], hX⟩) (kt h)
  · exact g_p hw (fun X hX => ⟨X, by unfold sm_p; dsimp only; rw [sm_if_f h], hX⟩) (kf h)
theorem g_icmp_eq {x y : Int32} {n : Int} {w2 w3 : Nat} (t q : Nat) (hw : I.2.2.2.2[pc]? = some (some (.if_icmp .eq n, t, w2, w3))) (hq : pc + 3 = q) (kt : x = y → G d I t lv st U r U') (kf : ¬ x = y → G d I q lv st U r U') : G d I pc lv (.int y :: .int x :: st) U r U' := by
  subst hq
  by_cases h : sm_cmp .eq x y
  · exact g_p hw (fun X hX => ⟨X, by unfold sm_p; dsimp only; rw [sm_if_t h], hX⟩) (kt h)
  · exact g_p hw (fun X hX => ⟨X, by unfold sm_p; dsimp only; rw [sm_if_f h], hX⟩) (kf h)
theorem g_if_ne {x : Int32} {n : Int} {w2 w3 : Nat} (t q : Nat) (hw : I.2.2.2.2[pc]? = some (some (.ifCond .ne n, t, w2, w3))) (hq : pc + 3 = q) (kt : ¬ x = 0 → G d I t lv st U r U') (kf : x = 0 → G d I q lv st U r U') : G d I pc lv (.int x :: st) U r U' := by
  subst hq
  by_cases h : sm_cmp .ne x 0
  · exact g_p hw (fun X hX => ⟨X, by unfold sm_p; dsimp only; rw [sm_if_t h], hX⟩) (kt h)
  · exact g_p hw (fun X hX => ⟨X, by unfold sm_p; dsimp only; rw [sm_if_f h], hX⟩) (kf (Decidable.not_not.mp h))
theorem g_icmp_ne {x y : Int32} {n : Int} {w2 w3 : Nat} (t q : Nat) (hw : I.2.2.2.2[pc]? = some (some (.if_icmp .ne n, t, w2, w3))) (hq : pc + 3 = q) (kt : ¬ x = y → G d I t lv st U r U') (kf : x = y → G d I q lv st U r U') : G d I pc lv (.int y :: .int x :: st) U r U' := by
  subst hq
  by_cases h : sm_cmp .ne x y
  · exact g_p hw (fun X hX => ⟨X, by unfold sm_p; dsimp only; rw [sm_if_t h], hX⟩) (kt h)
  · exact g_p hw (fun X hX => ⟨X, by unfold sm_p; dsimp only; rw [sm_if_f h], hX⟩) (kf (Decidable.not_not.mp h))
theorem g_if_lt {x : Int32} {n : Int} {w2 w3 : Nat} (t q : Nat) (hw : I.2.2.2.2[pc]? = some (some (.ifCond .lt n, t, w2, w3))) (hq : pc + 3 = q) (kt : x < 0 → G d I t lv st U r U') (kf : ¬ x < 0 → G d I q lv st U r U') : G d I pc lv (.int x :: st) U r U' := by
  subst hq
  by_cases h : sm_cmp .lt x 0
  · exact g_p hw (fun X hX => ⟨X, by unfold sm_p; dsimp only; rw [sm_if_t h], hX⟩) (kt h)
  · exact g_p hw (fun X hX => ⟨X, by unfold sm_p; dsimp only; rw [sm_if_f h], hX⟩) (kf h)
theorem g_icmp_lt {x y : Int32} {n : Int} {w2 w3 : Nat} (t q : Nat) (hw : I.2.2.2.2[pc]? = some (some (.if_icmp .lt n, t, w2, w3))) (hq : pc + 3 = q) (kt : x < y → G d I t lv st U r U') (kf : ¬ x < y → G d I q lv st U r U') : G d I pc lv (.int y :: .int x :: st) U r U' := by
  subst hq
  by_cases h : sm_cmp .lt x y
  · exact g_p hw (fun X hX => ⟨X, by unfold sm_p; dsimp only; rw [sm_if_t h], hX⟩) (kt h)
  · exact g_p hw (fun X hX => ⟨X, by unfold sm_p; dsimp only; rw [sm_if_f h], hX⟩) (kf h)
theorem g_if_ge {x : Int32} {n : Int} {w2 w3 : Nat} (t q : Nat) (hw : I.2.2.2.2[pc]? = some (some (.ifCond .ge n, t, w2, w3))) (hq : pc + 3 = q) (kt : 0 ≤ x → G d I t lv st U r U') (kf : ¬ 0 ≤ x → G d I q lv st U r U') : G d I pc lv (.int x :: st) U r U' := by
  subst hq
  by_cases h : sm_cmp .ge x 0
  · exact g_p hw (fun X hX => ⟨X, by unfold sm_p; dsimp only; rw [sm_if_t h], hX⟩) (kt h)
  · exact g_p hw (fun X hX => ⟨X, by unfold sm_p; dsimp only; rw [sm_if_f h], hX⟩) (kf h)
theorem g_icmp_ge {x y : Int32} {n : Int} {w2 w3 : Nat} (t q : Nat) (hw : I.2.2.2.2[pc]? = some (some (.if_icmp .ge n, t, w2, w3))) (hq : pc + 3 = q) (kt : y ≤ x → G d I t lv st U r U') (kf : ¬ y ≤ x → G d I q lv st U r U') : G d I pc lv (.int y :: .int x :: st) U r U' := by
  subst hq
  by_cases h : sm_cmp .ge x y
  · exact g_p hw (fun X hX => ⟨X, by unfold sm_p; dsimp only; rw [sm_if_t h], hX⟩) (kt h)
  · exact g_p hw (fun X hX => ⟨X, by unfold sm_p; dsimp only; rw [sm_if_f h], hX⟩) (kf h)
theorem g_if_gt {x : Int32} {n : Int} {w2 w3 : Nat} (t q : Nat) (hw : I.2.2.2.2[pc]? = some (some (.ifCond .gt n, t, w2, w3))) (hq : pc + 3 = q) (kt : 0 < x → G d I t lv st U r U') (kf : ¬ 0 < x → G d I q lv st U r U') : G d I pc lv (.int x :: st) U r U' := by
  subst hq
  by_cases h : sm_cmp .gt x 0
  · exact g_p hw (fun X hX => ⟨X, by unfold sm_p; dsimp only; rw [sm_if_t h], hX⟩) (kt h)
  · exact g_p hw (fun X hX => ⟨X, by unfold sm_p; dsimp only; rw [sm_if_f h], hX⟩) (kf h)
theorem g_icmp_gt {x y : Int32} {n : Int} {w2 w3 : Nat} (t q : Nat) (hw : I.2.2.2.2[pc]? = some (some (.if_icmp .gt n, t, w2, w3))) (hq : pc + 3 = q) (kt : y < x → G d I t lv st U r U') (kf : ¬ y < x → G d I q lv st U r U') : G d I pc lv (.int y :: .int x :: st) U r U' := by
  subst hq
  by_cases h : sm_cmp .gt x y
  · exact g_p hw (fun X hX => ⟨X, by unfold sm_p; dsimp only; rw [sm_if_t h], hX⟩) (kt h)
  · exact g_p hw (fun X hX => ⟨X, by unfold sm_p; dsimp only; rw [sm_if_f h], hX⟩) (kf h)
theorem g_if_le {x : Int32} {n : Int} {w2 w3 : Nat} (t q : Nat) (hw : I.2.2.2.2[pc]? = some (some (.ifCond .le n, t, w2, w3))) (hq : pc + 3 = q) (kt : x ≤ 0 → G d I t lv st U r U') (kf : ¬ x ≤ 0 → G d I q lv st U r U') : G d I pc lv (.int x :: st) U r U' := by
  subst hq
  by_cases h : sm_cmp .le x 0
  · exact g_p hw (fun X hX => ⟨X, by unfold sm_p; dsimp only; rw [sm_if_t h], hX⟩) (kt h)
  · exact g_p hw (fun X hX => ⟨X, by unfold sm_p; dsimp only; rw [sm_if_f h], hX⟩) (kf h)
theorem g_icmp_le {x y : Int32} {n : Int} {w2 w3 : Nat} (t q : Nat) (hw : I.2.2.2.2[pc]? = some (some (.if_icmp .le n, t, w2, w3))) (hq : pc + 3 = q) (kt : x ≤ y → G d I t lv st U r U') (kf : ¬ x ≤ y → G d I q lv st U r U') : G d I pc lv (.int y :: .int x :: st) U r U' := by
  subst hq
  by_cases h : sm_cmp .le x y
  · exact g_p hw (fun X hX => ⟨X, by unfold sm_p; dsimp only; rw [sm_if_t h], hX⟩) (kt h)
  · exact g_p hw (fun X hX => ⟨X, by unfold sm_p; dsimp only; rw [sm_if_f h], hX⟩) (kf h)
theorem g_ifnull {x : Nat} {n : Int} {t w2 w3 : Nat} (q : Nat) (hw : I.2.2.2.2[pc]? = some (some (.ifnull n, t, w2, w3))) (hq : pc + 3 = q) (K : G d I q lv st U r U') : G d I pc lv (.ref x :: st) U r U' := by
  subst hq
  exact g_p hw (fun X hX => ⟨X, rfl, hX⟩) K
theorem g_ifnullN {n : Int} {t w2 w3 : Nat} (q : Nat) (hw : I.2.2.2.2[pc]? = some (some (.ifnull n, t, w2, w3))) (hq : t = q) (K : G d I q lv st U r U') : G d I pc lv (.null :: st) U r U' := by
  subst hq
  exact g_p hw (fun X hX => ⟨X, rfl, hX⟩) K
theorem g_ifnonnull {x : Nat} {n : Int} {t w2 w3 : Nat} (q : Nat) (hw : I.2.2.2.2[pc]? = some (some (.ifnonnull n, t, w2, w3))) (hq : t = q) (K : G d I q lv st U r U') : G d I pc lv (.ref x :: st) U r U' := by
  subst hq
  exact g_p hw (fun X hX => ⟨X, rfl, hX⟩) K
theorem g_ifnonnullN {n : Int} {t w2 w3 : Nat} (q : Nat) (hw : I.2.2.2.2[pc]? = some (some (.ifnonnull n, t, w2, w3))) (hq : pc + 3 = q) (K : G d I q lv st U r U') : G d I pc lv (.null :: st) U r U' := by
  subst hq
  exact g_p hw (fun X hX => ⟨X, rfl, hX⟩) K
theorem g_tsw {dflt lo hi : Int} {offs : Array Int} {x : Int32} {w1 w2 w3 : Nat} (q : Nat) (hw : I.2.2.2.2[pc]? = some (some (.tableswitch dflt lo hi offs, w1, w2, w3))) (hq : (if x.toInt < lo ∨ hi < x.toInt then sm_tgt pc dflt else (offs[(x.toInt - lo).toNat]?).bind (sm_tgt pc)) = some q) (K : G d I q lv st U r U') : G d I pc lv (.int x :: st) U r U' := by
  refine g_p hw (fun X hX => ⟨X, ?_, hX⟩) K
  unfold sm_p
  dsimp only
  split at hq
  · rename_i h
    rw [if_pos h, hq]
    rfl
  · rename_i h
    rw [if_neg h]
    cases ho : offs[(x.toInt - lo).toNat]? with
    | none => rw [ho] at hq; cases hq
    | some off => rw [ho] at hq; dsimp only [Option.bind_some] at hq; dsimp only; rw [hq]; rfl
theorem g_lsw {dflt : Int} {ps : Array (Int × Int)} {x : Int32} {w1 w2 w3 : Nat} (q : Nat) (hw : I.2.2.2.2[pc]? = some (some (.lookupswitch dflt ps, w1, w2, w3))) (hs : (ps.toList.zip (ps.toList.drop 1)).all (fun (a, next) => a.1 < next.1) = true) (hq : sm_tgt pc (Op.lookupswitch.offset ps.toList dflt x.toInt) = some q) (K : G d I q lv st U r U') : G d I pc lv (.int x :: st) U r U' := by
  refine g_p hw (fun X hX => ⟨X, ?_, hX⟩) K
  unfold sm_p
  dsimp only
  rw [if_pos hs, hq]
  rfl
theorem g_get {idx c i z a : Nat} {v : Value} (q : Nat) (hw : I.2.2.2.2[pc]? = some (some (.getfield idx, c, i, z))) (hs : sh a = c) (hc : c < 11) (hv : (fdU U a c)[i]? = some v) (hq : pc + 3 = q) (K : G d I q lv (v :: st) U r U') : G d I pc lv (.ref a :: st) U r U' := by
  subst hq
  refine g_h hw (fun X => rfl) ?_ K
  unfold sm_h
  dsimp only
  rw [lay_o hs hc]
  dsimp only
  rw [if_pos rfl, hv]
theorem g_put {idx c i z a : Nat} {v : Value} {U1 : sU} (q : Nat) (hw : I.2.2.2.2[pc]? = some (some (.putfield idx, c, i, z))) (hs : sh a = c) (hc : c < 11) (hl : i < (fdU U a c).length) (hok : sm_fok (z % 10) v = true) (hf : fdU U1 a c = (fdU U a c).set i v) (ho : ∀ b q, b ≠ a → ceU U1 b q = ceU U b q) (hq : pc + 3 = q) (K : G d I q lv st U1 r U') : G d I pc lv (v :: .ref a :: st) U r U' := by
  subst hq
  refine g_h hw (fun X => rfl) ?_ K
  unfold sm_h
  dsimp only
  rw [lay_o hs hc]
  dsimp only
  rw [if_pos ⟨rfl, hl, hok⟩, lay_set (U1 := U1) hs (by omega) ?_ ho]
  rw [← hf]
  unfold ceU
  dsimp only
  split <;> first | omega | rfl
theorem g_putI {idx c i z a : Nat} {x : Int32} (q : Nat) (hw : I.2.2.2.2[pc]? = some (some (.putfield idx, c, i, z))) (hs : sh a = c) (hc : c < 11) (hl : i < (fdU U a c).length) (hz : z % 10 = 0) (hf : fdU (sI U a i x) a c = (fdU U a c).set i (.int x)) (hq : pc + 3 = q) (K : G d I q lv st (sI U a i x) r U') : G d I pc lv (.int x :: .ref a :: st) U r U' :=
  g_put q hw hs hc hl (by rw [hz]; rfl) hf ceU_sI hq K
theorem g_putZ {idx c i z a : Nat} {x : Int32} (q : Nat) (hw : I.2.2.2.2[pc]? = some (some (.putfield idx, c, i, z))) (hs : sh a = c) (hc : c < 11) (hl : i < (fdU U a c).length) (hz : z % 10 = 1) (hx : x = 0 ∨ x = 1) (hf : fdU (sI U a i x) a c = (fdU U a c).set i (.int x)) (hq : pc + 3 = q) (K : G d I q lv st (sI U a i x) r U') : G d I pc lv (.int x :: .ref a :: st) U r U' :=
  g_put q hw hs hc hl (by rw [hz]; rcases hx with rfl | rfl <;> rfl) hf ceU_sI hq K
theorem g_putJ {idx c i z a : Nat} {x : Int64} (q : Nat) (hw : I.2.2.2.2[pc]? = some (some (.putfield idx, c, i, z))) (hs : sh a = c) (hc : c < 11) (hl : i < (fdU U a c).length) (hz : z % 10 = 2) (hf : fdU (sJ U a i x) a c = (fdU U a c).set i (.long x)) (hq : pc + 3 = q) (K : G d I q lv st (sJ U a i x) r U') : G d I pc lv (.long x :: .ref a :: st) U r U' :=
  g_put q hw hs hc hl (by rw [hz]; rfl) hf ceU_sJ hq K
theorem g_putK {idx z a t : Nat} (q : Nat) (hw : I.2.2.2.2[pc]? = some (some (.putfield idx, 4, 6, z))) (hs : sh a = 4) (hz : z % 10 = 3) (ht : sh t = 8) (hq : pc + 3 = q) (K : G d I q lv st (sK U a t) r U') : G d I pc lv (.ref t :: .ref a :: st) U r U' :=
  g_put q hw hs (by decide) (Nat.le_of_ble_eq_true rfl) (by rw [hz]; rfl) (fs_4_6 ht) ceU_sK hq K
theorem g_iald {i : Int32} {a n w1 w2 w3 : Nat} (q : Nat) (hw : I.2.2.2.2[pc]? = some (some (.iaload, w1, w2, w3))) (hs : sh a = 11) (hn : ln a = n) (hi : ib i n) (hq : pc + 1 = q) (K : G d I q lv (.int (U.1 a i.toNatClampNeg) :: st) U r U') : G d I pc lv (.int i :: .ref a :: st) U r U' := by
  subst hq
  subst hn
  refine g_h hw (fun X => rfl) ?_ K
  unfold sm_h
  dsimp only
  rw [lay_at hs (by decide)]
  exact if_pos ⟨rfl, hi⟩
theorem g_lald {i : Int32} {a n w1 w2 w3 : Nat} (q : Nat) (hw : I.2.2.2.2[pc]? = some (some (.laload, w1, w2, w3))) (hs : sh a = 12) (hn : ln a = n) (hi : ib i n) (hq : pc + 1 = q) (K : G d I q lv (.long (U.2.1 a i.toNatClampNeg) :: st) U r U') : G d I pc lv (.int i :: .ref a :: st) U r U' := by
  subst hq
  subst hn
  refine g_h hw (fun X => rfl) ?_ K
  unfold sm_h
  dsimp only
  rw [lay_at hs (by decide)]
  exact if_pos ⟨rfl, hi⟩
theorem g_iast {i x : Int32} {a n w1 w2 w3 : Nat} (q : Nat) (hw : I.2.2.2.2[pc]? = some (some (.iastore, w1, w2, w3))) (hs : sh a = 11) (hn : ln a = n) (hi : ib i n) (hq : pc + 1 = q) (K : G d I q lv st (sI U a i.toNatClampNeg x) r U') : G d I pc lv (.int x :: .int i :: .ref a :: st) U r U' := by
  subst hq
  subst hn
  refine g_h hw (fun X => rfl) ?_ K
  unfold sm_h
  dsimp only
  rw [lay_at hs (by decide)]
  refine (if_pos ⟨rfl, hi⟩).trans ?_
  rw [lay_set (U1 := sI U a i.toNatClampNeg x) hs (by decide) ?_ ceU_sI]
  show Sum.inl (0, ln a, Sum.inl ((sI U a i.toNatClampNeg x).1 a)) = _
  have e : (sI U a i.toNatClampNeg x).1 a = upd (U.1 a) i.toNatClampNeg x := by funext j; exact if_pos rfl
  rw [e]
theorem g_last {i : Int32} {x : Int64} {a n w1 w2 w3 : Nat} (q : Nat) (hw : I.2.2.2.2[pc]? = some (some (.lastore, w1, w2, w3))) (hs : sh a = 12) (hn : ln a = n) (hi : ib i n) (hq : pc + 1 = q) (K : G d I q lv st (sJ U a i.toNatClampNeg x) r U') : G d I pc lv (.long x :: .int i :: .ref a :: st) U r U' := by
  subst hq
  subst hn
  refine g_h hw (fun X => rfl) ?_ K
  unfold sm_h
  dsimp only
  rw [lay_at hs (by decide)]
  refine (if_pos ⟨rfl, hi⟩).trans ?_
  rw [lay_set (U1 := sJ U a i.toNatClampNeg x) hs (by decide) ?_ ceU_sJ]
  show Sum.inl (1, ln a, Sum.inr (Sum.inl ((sJ U a i.toNatClampNeg x).2.1 a))) = _
  have e : (sJ U a i.toNatClampNeg x).2.1 a = vp_updL (U.2.1 a) i.toNatClampNeg x := by funext j; exact if_pos rfl
  rw [e]
theorem g_alen {a c n w1 w2 w3 : Nat} (q : Nat) (hw : I.2.2.2.2[pc]? = some (some (.arraylength, w1, w2, w3))) (hs : sh a = c) (hc : c = 11 ∨ c = 12 ∨ c = 13 ∨ c = 14 ∨ c = 15) (hn : ln a = n) (hq : pc + 1 = q) (K : G d I q lv (.int (Int32.ofNat n) :: st) U r U') : G d I pc lv (.ref a :: st) U r U' := by
  subst hq
  subst hn
  refine g_h hw (fun X => rfl) ?_ K
  unfold sm_h
  dsimp only
  rcases hc with rfl | rfl | rfl | rfl | rfl <;> (rw [lay_at hs (by decide)]; rfl)
theorem g_aald {i : Int32} {a c n w1 w2 w3 : Nat} (q : Nat) (hw : I.2.2.2.2[pc]? = some (some (.aaload, w1, w2, w3))) (hs : sh a = c) (hc : c = 13 ∨ c = 14 ∨ c = 15) (hn : ln a = n) (hi : ib i n) (hq : pc + 1 = q) (K : G d I q lv (.ref (rfA a c i.toNatClampNeg) :: st) U r U') : G d I pc lv (.int i :: .ref a :: st) U r U' := by
  subst hq
  subst hn
  refine g_h hw (fun X => rfl) ?_ K
  have hlt : i.toNatClampNeg < ln a := Nat.not_le.mp fun q => hi (Or.inr q)
  unfold sm_h
  dsimp only
  rcases hc with rfl | rfl | rfl <;> (rw [lay_at hs (by decide)]; refine (if_pos ⟨by decide, hi⟩).trans ?_; dsimp only; rw [if_pos hlt]; rfl)
theorem g_ldc {idx : Nat} {w1 w2 : Nat} {v : Int32} (q : Nat) (hw : I.2.2.2.2[pc]? = some (some (.ldc idx, w1, w2, 0))) (hv : Int32.ofNat w1 = v) (hq : pc + 2 = q) (K : G d I q lv (.int v :: st) U r U') : G d I pc lv st U r U' := by
  subst hq
  subst hv
  exact g_k hw (fun X => rfl) rfl rfl K
theorem g_ldcS {idx w1 w2 : Nat} (q : Nat) (hw : I.2.2.2.2[pc]? = some (some (.ldc idx, w1, w2, 1))) (h6 : w1 < 6) (hq : pc + 2 = q) (K : G d I q lv (.ref (1000 + w1) :: st) U r U') : G d I pc lv st U r U' := by
  subst hq
  refine g_k hw (fun X => rfl) rfl ?_ K
  unfold sm_k
  dsimp only
  rw [if_neg (by decide), if_pos ⟨rfl, h6⟩]
theorem g_ldc_w {idx : Nat} {w1 w2 w3 : Nat} {v : Int32} (q : Nat) (hw : I.2.2.2.2[pc]? = some (some (.ldc_w idx, w1, w2, w3))) (hv : Int32.ofNat w1 = v) (hq : pc + 3 = q) (K : G d I q lv (.int v :: st) U r U') : G d I pc lv st U r U' := by
  subst hq
  subst hv
  exact g_k hw (fun X => rfl) rfl rfl K
theorem g_ldc2_w {idx : Nat} {w1 w2 w3 : Nat} {v : Int64} (q : Nat) (hw : I.2.2.2.2[pc]? = some (some (.ldc2_w idx, w1, w2, w3))) (hv : Int64.ofNat w1 = v) (hq : pc + 3 = q) (K : G d I q lv (.long v :: st) U r U') : G d I pc lv st U r U' := by
  subst hq
  subst hv
  exact g_k hw (fun X => rfl) rfl rfl K
theorem g_vret {w1 w2 w3 : Nat} (hw : I.2.2.2.2[pc]? = some (some (.return_, w1, w2, w3))) (hr : I.2.2.2.1 = none) : G d I pc lv [] U none U :=
  g_r hw (fun X => rfl) rfl rfl rfl (by rw [hr]; rfl)
theorem g_iret {x : Int32} {w1 w2 w3 : Nat} (hw : I.2.2.2.2[pc]? = some (some (.ireturn, w1, w2, w3))) (hr : I.2.2.2.1 = some .int) : G d I pc lv [.int x] U (some (.int x)) U :=
  g_r hw (fun X => rfl) rfl rfl rfl (by rw [hr]; rfl)
theorem g_zret {x : Int32} {w1 w2 w3 : Nat} (hw : I.2.2.2.2[pc]? = some (some (.ireturn, w1, w2, w3))) (hr : I.2.2.2.1 = some .boolean) (hx : x = 0 ∨ x = 1) : G d I pc lv [.int x] U (some (.int x)) U :=
  g_r hw (fun X => rfl) rfl rfl rfl (by rw [hr]; exact if_pos hx)
theorem g_lret {x : Int64} {w1 w2 w3 : Nat} (hw : I.2.2.2.2[pc]? = some (some (.lreturn, w1, w2, w3))) (hr : I.2.2.2.1 = some .long) : G d I pc lv [.long x] U (some (.long x)) U :=
  g_r hw (fun X => rfl) rfl rfl rfl (by rw [hr]; rfl)
theorem g_aret {x : Option Nat} {C : String} {w1 w2 w3 : Nat} (hw : I.2.2.2.2[pc]? = some (some (.areturn, w1, w2, w3))) (hr : I.2.2.2.1 = some (.object C)) : G d I pc lv [va_rf x] U (some (va_rf x)) U := by
  cases x <;> exact g_r hw (fun X => rfl) rfl rfl rfl (by rw [hr]; rfl)
theorem g_callV {idx y n c b : Nat} {as rest : List Value} {J : sm_I} {rv : Option Value} {U1 : sU} (q : Nat) (hw : I.2.2.2.2[pc]? = some (some (.invokevirtual idx, y, n, c))) (hy : y < 900) (hst : st.drop n = .ref b :: rest) (has : (st.take n).reverse = as) (hln : n ≤ st.length) (hs : sh b = c) (hc : c < 11) (hcat : sm_cat rest ≤ 8) (hJ : sm_M y = some J) (hq : pc + 3 = q)
    (run : Rn d J (.ref b :: as) U rv U1) (K : G (d + 1) I q lv (rv.toList ++ rest) U1 r U') : G (d + 1) I pc lv st U r U' := by
  subst hq
  subst has
  have h1 : ¬ y = 900 := by omega
  have h2 : ¬ y = 901 := by omega
  have h3 : ¬ y = 902 := by omega
  refine g_c hw (fun X => rfl) rfl rfl ?_ rfl ?_ hJ run K
  · unfold sm_x
    dsimp only
    rw [if_neg h1, if_neg h2, if_neg h3]
  · unfold sm_cl
    dsimp only
    rw [hst]
    dsimp only
    rw [lay_o hs hc]
    exact if_pos ⟨rfl, hcat, hln⟩
theorem g_callS {idx y n c : Nat} {as rest : List Value} {J : sm_I} {rv : Option Value} {U1 : sU} (q : Nat) (hw : I.2.2.2.2[pc]? = some (some (.invokestatic idx, y, n, c))) (hy : ¬ y = 998) (hst : st.drop n = rest) (has : (st.take n).reverse = as) (hln : n ≤ st.length) (hcat : sm_cat rest ≤ 8) (hJ : sm_M y = some J) (hq : pc + 3 = q)
    (run : Rn d J as U rv U1) (K : G (d + 1) I q lv (rv.toList ++ rest) U1 r U') : G (d + 1) I pc lv st U r U' := by
  subst hq
  subst has
  subst hst
  refine g_c hw (fun X => rfl) rfl ?_ rfl rfl ?_ hJ run K
  · unfold sm_k
    dsimp only
    split
    · split
      · rw [if_neg (fun h => hy h.1)]
      · rfl
    · rfl
  · unfold sm_cl
    dsimp only
    exact if_pos ⟨hcat, hln⟩
theorem g_cpy {idx w2 w3 a b na nb : Nat} {sp dp n : Int32} {U1 : sU} (q : Nat) (hw : I.2.2.2.2[pc]? = some (some (.invokestatic idx, 998, w2, w3))) (hd : 1 ≤ d) (hcat : sm_cat st ≤ 8) (ha : sh a = 12) (hb : sh b = 12) (hna : ln a = na) (hnb : ln b = nb) (h : ¬ sp < 0 ∧ ¬ dp < 0 ∧ ¬ n < 0 ∧ sp.toNatClampNeg + n.toNatClampNeg ≤ na ∧ dp.toNatClampNeg + n.toNatClampNeg ≤ nb) (hU : U1 = (U.1, fun c j => if c = b then va_cpy (U.2.1 a) (U.2.1 b) sp.toNatClampNeg dp.toNatClampNeg n.toNatClampNeg j else U.2.1 c j, U.2.2)) (hq : pc + 3 = q)
    (K : G d I q lv st U1 r U') : G d I pc lv (.int n :: .int dp :: .ref b :: .int sp :: .ref a :: st) U r U' := by
  subst hq
  subst hna
  subst hnb
  refine g_k hw (fun X => rfl) rfl ?_ K
  have ho : ∀ c q, c ≠ b → ceU U1 c q = ceU U c q := by
    intro c q hc
    have e : U1.2.1 c = U.2.1 c := by rw [hU]; funext j; exact if_neg hc
    have e2 : fdU U1 c = fdU U c := by
      funext k
      unfold fdU tk
      rw [e, hU]
    unfold ceU
    rw [e, e2, hU]
  have he : ceU U1 b (12, ln b) = .inl (1, ln b, .inr (.inl (va_cpy (U.2.1 a) (U.2.1 b) sp.toNatClampNeg dp.toNatClampNeg n.toNatClampNeg))) := by
    have e : U1.2.1 b = va_cpy (U.2.1 a) (U.2.1 b) sp.toNatClampNeg dp.toNatClampNeg n.toNatClampNeg := by rw [hU]; funext j; exact if_pos rfl
    unfold ceU
    dsimp only
    rw [e]
    rfl
  unfold sm_k
  dsimp only
  rw [lay_at ha (by decide), lay_at hb (by decide)]
  refine (if_pos ⟨rfl, hd, hcat, rfl, rfl, h.1, h.2.1, h.2.2.1, h.2.2.2.1, h.2.2.2.2⟩).trans ?_
  rw [lay_set (U1 := U1) hb (by decide) he ho]
theorem g_slen {idx w2 w3 a : Nat} (q : Nat) (hw : I.2.2.2.2[pc]? = some (some (.invokevirtual idx, 900, w2, w3))) (hd : 6 ≤ d) (hcat : sm_cat st ≤ 8) (h1 : 1000 ≤ a) (h2 : a < 1006) (hq : pc + 3 = q) (K : G d I q lv (.int (Int32.ofNat (sm_tx (a - 1000)).length) :: st) U r U') : G d I pc lv (.ref a :: st) U r U' := by
  subst hq
  refine g_x hw (fun X => rfl) rfl rfl ?_ K
  unfold sm_x
  dsimp only
  rw [if_pos rfl, if_pos ⟨hd, hcat, h1, h2⟩]
theorem g_sch {idx w2 w3 a : Nat} {i : Int32} (q : Nat) (hw : I.2.2.2.2[pc]? = some (some (.invokevirtual idx, 901, w2, w3))) (hd : 6 ≤ d) (hcat : sm_cat st ≤ 8) (h1 : 1000 ≤ a) (h2 : a < 1006) (hi : ib i (sm_tx (a - 1000)).length) (hq : pc + 3 = q) (K : G d I q lv (.int (Int32.ofNat ((sm_tx (a - 1000)).getD i.toNatClampNeg 0)) :: st) U r U') : G d I pc lv (.int i :: .ref a :: st) U r U' := by
  subst hq
  refine g_x hw (fun X => rfl) rfl rfl ?_ K
  unfold sm_x
  dsimp only
  rw [if_neg (by decide), if_pos rfl, if_pos ⟨hd, hcat, h1, h2, hi⟩]
theorem g_seq {idx w2 w3 a b : Nat} (q : Nat) (hw : I.2.2.2.2[pc]? = some (some (.invokevirtual idx, 902, w2, w3))) (hd : 6 ≤ d) (hcat : sm_cat st ≤ 8) (h1 : 1000 ≤ a) (h2 : a < 1006) (h3 : 1000 ≤ b) (h4 : b < 1006) (hq : pc + 3 = q) (K : G d I q lv (.int (if a = b then 1 else 0) :: st) U r U') : G d I pc lv (.ref b :: .ref a :: st) U r U' := by
  subst hq
  refine g_x hw (fun X => rfl) rfl rfl ?_ K
  unfold sm_x
  dsimp only
  rw [if_neg (by decide), if_neg (by decide), if_pos rfl, if_pos ⟨hd, hcat, h1, h2, h3, h4⟩]
end GR
