/-! meaning: the flaws on both sides, in one order -/
theorem c_bad {x k y more v6 cuts w : Int32} {v5 : Option Nat} {U : sU} (hw : ¬ w = 0) : f_127_128 x k y more v5 v6 cuts w U = some (f_157 w U) := by
  unfold f_127_128
  rw [if_neg hw]
  unfold f_127_151
  rw [if_neg hw]
theorem c_clear {x k y more v6 cuts w : Int32} {v5 : Option Nat} {U : sU} : f_127_100 x k y more v5 v6 cuts w U = if w = 0 ∧ k = 2 ∧ ¬ (0 ≤ more.toInt ∧ more.toInt ≤ 100) then some (f_157 6 U) else f_127_128 x k y more v5 v6 cuts w U := by
  have e100 : (100 : Int32).toInt = 100 := rfl
  unfold f_127_100
  by_cases c1 : w = 0
  case neg => rw [if_neg c1, if_neg (fun q => c1 q.1)]
  rw [if_pos c1]
  by_cases c2 : k = 2
  case neg => rw [if_neg c2, if_neg (fun q => c2 q.2.1)]
  rw [if_pos c2]
  by_cases c3 : more < 0
  · rw [if_pos c3]
    rw [i32_lt0] at c3
    rw [if_pos ⟨c1, c2, fun q => by omega⟩]
    unfold f_127_124
    exact c_bad (by decide)
  rw [if_neg c3]
  rw [i32_lt0] at c3
  by_cases c4 : more ≤ 100
  · rw [if_pos c4]
    rw [i32_le] at c4
    rw [if_neg (fun q => q.2.2 ⟨by omega, by omega⟩)]
  · rw [if_neg c4]
    rw [i32_le] at c4
    rw [if_pos ⟨c1, c2, fun q => by omega⟩]
    unfold f_127_124
    exact c_bad (by decide)
theorem m_clear {x k y more v5 n : Int32} {V : sU} : f_215_190 x k y more v5 n V = if k = 2 ∧ ¬ (0 ≤ more.toInt ∧ more.toInt ≤ 100) then (f_174 (-6) V).bind fun q => some (q.1, q.2) else f_215_214 x k y more v5 n V := by
  have e100 : (100 : Int32).toInt = 100 := rfl
  unfold f_215_190
  by_cases c2 : k = 2
  case neg => rw [if_neg c2, if_neg (fun q => c2 q.1)]
  rw [if_pos c2]
  by_cases c3 : more < 0
  · rw [if_pos c3]
    rw [i32_lt0] at c3
    rw [if_pos ⟨c2, fun q => by omega⟩]
  rw [if_neg c3]
  rw [i32_lt0] at c3
  by_cases c4 : more ≤ 100
  · rw [if_pos c4]
    rw [i32_le] at c4
    rw [if_neg (fun q => q.2 ⟨by omega, by omega⟩)]
  · rw [if_neg c4]
    rw [i32_le] at c4
    rw [if_pos ⟨c2, fun q => by omega⟩]
theorem flaw_row {U : sU} {nT nM t n : Nat} {x k y more : Int32} (h : InvN nT nM U) (ht : t < nT) (hx : x = Int32.ofNat t) (hT : Tk U (5 + 5 * t) n) (hk : k = 0 ∨ k = 2 ∨ k = 5) : ∃ w : Int32, (w = 0 ∨ (1 ≤ w.toInt ∧ w.toInt ≤ 7)) ∧ f_127_47 x k y more (some (5 + 5 * t)) 1 U = (if w = 0 then f_127_128 x k y more (some (5 + 5 * t)) 1 0 0 U else some (f_157 w U)) ∧ (∀ V, Lk U V → f_215_19 x k y more 1 V = if w = 0 then f_215_282 x k y more 1 (Int32.ofNat n) V else (f_174 (-w) V).bind fun q => some (q.1, q.2)) ∧ (w = 0 → ∃ s : Nat, (y.toInt = s ∧ s < 8 ∧ sat y = some (264 + 2 * s) ∧ ∃ q, U.1 (264 + 2 * s) 3 = Int32.ofNat q ∧ q ≤ 64 ∧ n ≤ q) ∧ (∀ i, i < 64 → U.2.1 286 (64 * s + i) = U.2.1 (265 + 2 * s) i) ∧ (∀ i, i < n → 0 ≤ (rW U s i).toInt ∧ (rW U s i).toInt < (U.1 (5 + 5 * t) 5).toInt) ∧ (k = 2 → 0 ≤ more.toInt ∧ more.toInt ≤ 100)) := by
  have n8 := h.1.1.2.2.1
  have n12 := hT.2.2.1
  have xt : x.toInt = t := by rw [hx, ofNat_int (by omega)]
  have xc : x.toNatClampNeg = t := by rw [clamp_int]; omega
  have ix : ib x 8 := ib_int.mpr (by omega)
  have cls : f_127_47 x k y more (some (5 + 5 * t)) 1 U = Option.bind (f_162 (5 + 5 * t) y U) fun q => f_127_100 x k y more (some (5 + 5 * t)) 1 0 q U := by
    unfold f_127_47
    rw [if_neg (by rcases hk with rfl | rfl | rfl <;> decide), if_neg (by rcases hk with rfl | rfl | rfl <;> decide)]
    unfold f_127_75
    rw [if_neg (by decide)]
  have mdl : ∀ V, Lk U V → f_215_19 x k y more 1 V = if f_177 y V = 0 then (f_174 (-1) V).bind fun q => some (q.1, q.2) else f_215_57 x k y more 1 V := by
    intro V hV
    unfold f_215_19
    rw [if_neg (f178_yes ((hV.1 280 0 (by omega)).trans h.1.2.1) n8 (by omega)), if_neg (by rcases hk with rfl | rfl | rfl <;> decide), if_neg (by rcases hk with rfl | rfl | rfl <;> decide), if_neg (by decide)]
  have bad : ∀ w : Int32, ¬ w = 0 → f_127_100 x k y more (some (5 + 5 * t)) 1 0 w U = some (f_157 w U) := fun w hw => by rw [c_clear, if_neg (fun q => hw q.1), c_bad hw]
  -- a flaw found early
  have early : ∀ w : Int32, ¬ w = 0 → (1 ≤ w.toInt ∧ w.toInt ≤ 7) → f_162 (5 + 5 * t) y U = some w → (∀ V, Lk U V → f_215_19 x k y more 1 V = (f_174 (-w) V).bind fun q => some (q.1, q.2)) → ∃ w : Int32, (w = 0 ∨ (1 ≤ w.toInt ∧ w.toInt ≤ 7)) ∧ f_127_47 x k y more (some (5 + 5 * t)) 1 U = (if w = 0 then f_127_128 x k y more (some (5 + 5 * t)) 1 0 0 U else some (f_157 w U)) ∧ (∀ V, Lk U V → f_215_19 x k y more 1 V = if w = 0 then f_215_282 x k y more 1 (Int32.ofNat n) V else (f_174 (-w) V).bind fun q => some (q.1, q.2)) ∧ (w = 0 → ∃ s : Nat, (y.toInt = s ∧ s < 8 ∧ sat y = some (264 + 2 * s) ∧ ∃ q, U.1 (264 + 2 * s) 3 = Int32.ofNat q ∧ q ≤ 64 ∧ n ≤ q) ∧ (∀ i, i < 64 → U.2.1 286 (64 * s + i) = U.2.1 (265 + 2 * s) i) ∧ (∀ i, i < n → 0 ≤ (rW U s i).toInt ∧ (rW U s i).toInt < (U.1 (5 + 5 * t) 5).toInt) ∧ (k = 2 → 0 ≤ more.toInt ∧ more.toInt ≤ 100)) := by
    intro w hw hr e1 e2
    refine ⟨w, Or.inr hr, ?_, ?_, fun q => absurd q hw⟩
    · rw [cls, e1, Option.bind_some, bad w hw, if_neg hw]
    · intro V hV; rw [e2 V hV, if_neg hw]
  by_cases hs : y < 0 ∨ 8 ≤ y
  · refine early 1 (by decide) (by decide) ?_ ?_
    · unfold f_162; rw [rowFlaw_no hs]; rfl
    · intro V hV; rw [mdl V hV, if_pos (f177_no hs)]
  obtain ⟨e1, e2, e3, e4⟩ := sat_yes hs
  have mdl2 : ∀ V, Lk U V → f_215_19 x k y more 1 V = if U.1 282 y.toNatClampNeg = 2 then (f_174 (-2) V).bind fun q => some (q.1, q.2) else if U.1 282 y.toNatClampNeg = 0 then (f_174 (-3) V).bind fun q => some (q.1, q.2) else if Int32.ofNat n ≤ U.1 284 y.toNatClampNeg then f_215_139 FU x k y more 1 (Int32.ofNat n) 0 V else (f_174 (-5) V).bind fun q => some (q.1, q.2) := by
    intro V hV
    obtain ⟨nn, _, _, q0, q0', _⟩ := tk_facts h ht
    have en : U.1 288 t = Int32.ofNat n := by rw [q0', ← q0, hT.1]
    rw [mdl V hV, if_neg (f177_yes hs)]
    unfold f_215_57 f_215_79 f_215_100 f_215_131
    simp only [if_pos e3, if_pos ix, xc, hV.1 282 _ (by omega : 280 ≤ 282), hV.1 284 _ (by omega : 280 ≤ 284), hV.1 288 _ (by omega : 280 ≤ 288), en]
    rw [if_neg (by decide)]
    by_cases c2 : U.1 282 y.toNatClampNeg = 2
    · rw [if_pos c2, if_pos c2]
    rw [if_neg c2, if_neg c2, if_neg (by decide)]
    by_cases c3 : U.1 282 y.toNatClampNeg = 0
    · rw [if_pos c3, if_pos c3]
    rw [if_neg c3, if_neg c3, if_neg (by decide)]
    by_cases c5 : Int32.ofNat n ≤ U.1 284 y.toNatClampNeg
    · rw [if_pos c5, if_pos c5, if_neg (by decide)]
    · rw [if_neg c5, if_neg c5]
  have fl := rowFlaw_eq h hs
  by_cases c2 : U.1 282 y.toNatClampNeg = 2
  · refine early 2 (by decide) (by decide) ?_ ?_
    · rw [if_pos c2] at fl; unfold f_162; rw [fl]; rfl
    · intro V hV; rw [mdl2 V hV, if_pos c2]
  by_cases c3 : U.1 282 y.toNatClampNeg = 0
  · refine early 3 (by decide) (by decide) ?_ ?_
    · rw [if_neg c2, if_pos c3] at fl; unfold f_162; rw [fl]; rfl
    · intro V hV; rw [mdl2 V hV, if_neg c2, if_pos c3]
  rw [if_neg c2, if_neg c3] at fl
  rcases h.2.1 _ e2 with ⟨_, a2, _⟩ | ⟨a1, a2, o, m, a3, a4, a5, a6, a7, a8, a9⟩ | ⟨_, a2, _⟩
  · exact absurd a2 c3
  case inr.inr => exact absurd a2 c2
  generalize hS : y.toNatClampNeg = s at *
  have cl2 : f_162 (5 + 5 * t) y U = if Int32.ofNat n ≤ Int32.ofNat m then f_162_41 FU (5 + 5 * t) (some (264 + 2 * s)) 0 U else some 5 := by
    unfold f_162
    rw [fl, if_pos rfl, e1]
    dsimp only
    rw [hT.1, a7]
  have mdl3 : ∀ V, Lk U V → f_215_19 x k y more 1 V = if Int32.ofNat n ≤ Int32.ofNat m then f_215_139 FU x k y more 1 (Int32.ofNat n) 0 V else (f_174 (-5) V).bind fun q => some (q.1, q.2) := by
    intro V hV
    rw [mdl2 V hV, if_neg c2, if_neg c3, a8]
  by_cases c5 : Int32.ofNat n ≤ Int32.ofNat m
  case neg =>
    refine early 5 (by decide) (by decide) ?_ ?_
    · rw [cl2, if_neg c5]
    · intro V hV; rw [mdl3 V hV, if_neg c5]
  have nm : n ≤ m := (ofNat_le (by omega) (by omega)).mp c5
  have wc := words_c (U := U) (s := s) (T := 5 + 5 * t) (n := n) (m := m) e2 a7 a4 hT nm
  have wm : ∀ V, Lk U V → _ := fun V (hV : Lk U V) => words_m (U := U) (V := V) (s := s) (t := t) (n := n) (x := x) (k := k) (y := y) (more := more) e4 e2 xt (by omega) n12 (fun i hi => by rw [hV.2]; exact a9 i hi) (by
    obtain ⟨nn, _, _, _, _, _, _, q3, _⟩ := tk_facts h ht
    rw [hV.1 291 _ (by omega)]; exact q3.1)
  by_cases bd : rbad U s (5 + 5 * t) n
  · have w1 : f_162_41 FU (5 + 5 * t) (some (264 + 2 * s)) 0 U = some 6 := by rcases wc with q | q; exact absurd bd q.1; exact q.2
    refine early 6 (by decide) (by decide) ?_ ?_
    · rw [cl2, if_pos c5, w1]
    · intro V hV
      rw [mdl3 V hV, if_pos c5]
      rcases wm V hV with q | q
      · exact absurd bd q.1
      · exact q.2
  have w1 : f_162_41 FU (5 + 5 * t) (some (264 + 2 * s)) 0 U = some 0 := by rcases wc with q | q; exact q.2; exact absurd q.1 bd
  have cl3 : f_127_47 x k y more (some (5 + 5 * t)) 1 U = f_127_100 x k y more (some (5 + 5 * t)) 1 0 0 U := by rw [cls, cl2, if_pos c5, w1, Option.bind_some]
  have mdl4 : ∀ V, Lk U V → f_215_19 x k y more 1 V = f_215_190 x k y more 1 (Int32.ofNat n) V := by
    intro V hV
    rw [mdl3 V hV, if_pos c5]
    rcases wm V hV with q | q
    · exact q.2
    · exact absurd q.1 bd
  by_cases cc : k = 2 ∧ ¬ (0 ≤ more.toInt ∧ more.toInt ≤ 100)
  · refine ⟨6, Or.inr (by decide), ?_, ?_, fun q => absurd q (by decide)⟩
    · rw [cl3, c_clear, if_pos ⟨rfl, cc⟩, if_neg (by decide)]
    · intro V hV; rw [mdl4 V hV, m_clear, if_pos cc, if_neg (by decide)]
  · refine ⟨0, Or.inl rfl, ?_, ?_, fun _ => ⟨s, ⟨e4, e2, e1, m, a7, a4, nm⟩, a9, ?_, ?_⟩⟩
    · rw [cl3, c_clear, if_neg (fun q => cc q.2), if_pos rfl]
    · intro V hV
      rw [mdl4 V hV, m_clear, if_neg cc, if_pos rfl]
      unfold f_215_214 f_215_259
      rw [if_neg (by rcases hk with rfl | rfl | rfl <;> decide), if_neg (by rcases hk with rfl | rfl | rfl <;> decide)]
    · intro i hi
      exact Classical.byContradiction fun q => bd ⟨i, hi, q⟩
    · intro e
      exact Classical.byContradiction fun q => cc ⟨e, q⟩
