/-! the law: what is known at its start -/
def lw_tm (i : Nat) : Term := .string RX2 ([42, 106, 108, 110, 112, 114].getD i 0)
theorem lw_f0 : ∀ i, i < 6 → xk_len.getD i 0 < 2 ^ 31 := by decide +kernel
theorem lw_f1 : ∀ i, i < 6 → Cond.exactly (lw_tm i) "java/lang/String" ∈ flatC (Jvm.Cond.and given_1 narrow_1) ∧ Cond.eq (.field (lw_tm i) "java/lang/String" "coder" "B") (.int 0) ∈ flatC (Jvm.Cond.and given_1 narrow_1) ∧ Cond.arrayOf (.field (lw_tm i) "java/lang/String" "value" "[B") .byte ∈ flatC (Jvm.Cond.and given_1 narrow_1) ∧ Cond.eq (.length (.field (lw_tm i) "java/lang/String" "value" "[B")) (.int (Int32.ofNat (xk_len.getD i 0))) ∈ flatC (Jvm.Cond.and given_1 narrow_1) := by decide +kernel
theorem lw_f2 : ∀ i, i < 6 → ∀ j, j < xk_len.getD i 0 → Cond.eq (.elem (.field (lw_tm i) "java/lang/String" "value" "[B") (.int (Int32.ofNat j))) (.int ((xk_byt.getD i []).getD j 0)) ∈ flatC (Jvm.Cond.and given_1 narrow_1) := by decide +kernel
theorem lw_f3 : ∀ i, i < 6 → ∀ j, j < 6 → i ≠ j → Cond.not (Cond.eq (lw_tm i) (lw_tm j)) ∈ flatC (Jvm.Cond.and given_1 narrow_1) ∨ Cond.not (Cond.eq (lw_tm j) (lw_tm i)) ∈ flatC (Jvm.Cond.and given_1 narrow_1) := by decide +kernel
theorem lw_f4 : Cond.eq (.static "java/lang/String" "COMPACT_STRINGS" "Z") (.int 1) ∈ flatC (Jvm.Cond.and given_1 narrow_1) ∧ Cond.isRef (.static "jdk/internal/util/Preconditions" "SIOOBE_FORMATTER" "Ljava/util/function/BiFunction;") ∈ flatC (Jvm.Cond.and given_1 narrow_1) := by decide +kernel
theorem lw_f5 : Cond.laysStatic "java/lang/String" "COMPACT_STRINGS" "Z" ∈ lw_tbl ∧ Cond.initialized "java/lang/String" ∈ lw_tbl ∧ Cond.laysStatic "jdk/internal/util/Preconditions" "SIOOBE_FORMATTER" "Ljava/util/function/BiFunction;" ∈ lw_tbl ∧ Cond.initialized "jdk/internal/util/Preconditions" ∈ lw_tbl := by decide +kernel
theorem lw_f6 : ∀ q ∈ vwCl, Cond.instantiable q.1 q.2.2 ∈ lw_tbl := by decide +kernel
theorem lw_f7 : Cond.arrayClass .int ∈ lw_tbl ∧ Cond.arrayClass .long ∈ lw_tbl ∧ Cond.arrayOver (.object RX3) ∈ lw_tbl ∧ Cond.arrayOver (.object RX6) ∈ lw_tbl ∧ Cond.arrayOver (.object RX8) ∈ lw_tbl := by decide +kernel
theorem lw_f8 : Cond.stringRef RX2 42 "so " ∈ lw_tbl ∧ Cond.stringRef RX2 106 "wish" ∈ lw_tbl ∧ Cond.stringRef RX2 108 "words" ∈ lw_tbl ∧ Cond.stringRef RX2 110 "lean" ∈ lw_tbl ∧ Cond.stringRef RX2 112 "loss" ∈ lw_tbl ∧ Cond.stringRef RX2 114 "two" ∈ lw_tbl := by decide +kernel
theorem lw_texts {b : Nat} {s : State} (h : (Jvm.Cond.and given_1 narrow_1).before #[Value.ref b] s = true) : ∃ adK adV : Nat → Nat, vk_S 6 xk_len xk_byt adK adV (fun q => s.heap.size ≤ q) s s.heap ∧ ∀ i : Nat, i < 6 → (lw_tm i).eval #[Value.ref b] s none [] s = some (.ref (adK i)) := by
  have hs := flat_of_before _ h
  refine vk_Sof (tm := lw_tm) lw_f0 (fun i hi => hs _ (lw_f1 i hi).1) (fun i hi => hs _ (lw_f1 i hi).2.1) (fun i hi => hs _ (lw_f1 i hi).2.2.1) (fun i hi => hs _ (lw_f1 i hi).2.2.2) (fun i hi j hj => hs _ (lw_f2 i hi j hj)) (fun i j hi hj hij => ?_) (fun a h1 h2 => Nat.not_le.mpr h1 h2)
  rcases lw_f3 i hi j hj hij with q | q
  · exact Or.inl (hs _ q)
  · exact Or.inr (hs _ q)
theorem lw_arrc {args : Array Value} {s : State} (h : (Cond.arrayClass .int).before args s = true) (h2 : (Cond.arrayClass .long).before args s = true) : (∃ cA : ClassId, ArrOfT s cA .int ∧ va_RA s cA .int) ∧ ∃ cA : ClassId, ArrOfT s cA .long ∧ va_RA s cA .long := by
  obtain ⟨cA, kA, comp, g1, g2, g3⟩ := Cond.arrayClass_spec h
  obtain ⟨cB, kB, comp2, f1, f2, f3⟩ := Cond.arrayClass_spec h2
  exact ⟨⟨cA, fun n z => ⟨fun k h => (by cases h), kA, g2, comp, g3⟩, g1⟩, ⟨cB, fun n z => ⟨fun k h => (by cases h), kB, f2, comp2, f3⟩, f1⟩⟩
theorem lw_arro {args : Array Value} {s : State} {C : String} (h : (Cond.arrayOver (.object C)).before args s = true) : ∃ cA : ClassId, ArrOfT s cA (.object C) ∧ va_RA s cA (.object C) := by
  obtain ⟨comp, c, k, h1, h2, h3, h4, h5⟩ := Cond.arrayOver_spec h
  exact ⟨c, fun n z => ⟨fun k h => (by cases h), k, h3, comp, h4⟩, k, comp, h3, h4, h1, h5⟩
section LWF
variable {p : Program} {s : State} {m : MethodId} {meth : Method} {c : Code} {b L : Nat} {xs : Nat → Int32}
theorem lw_start_K (C : lw_At p s m meth c b L xs) : ∃ (dC : Nat → ClassId) (dI : Nat → Nat → Nat) (dA : Nat → ClassId) (B : Nat → Nat) (adK adV : Nat → Nat), lw_K s dC dI dA B adK adV := by
  have htsG := lw_G C
  obtain ⟨hx, hb, hr, hml, hown, hts, hXs, hbl, hlocks, hgv⟩ := C
  have hs := flat_of_before _ hgv
  have hA : ∀ a : Nat, a < s.heap.size → ¬ s.heap.size ≤ a := fun a h1 h2 => Nat.not_le.mpr h1 h2
  obtain ⟨adK, adV, t1, t2⟩ := lw_texts hgv
  have cls : ∀ k : Nat, ∃ z : ClassId × (Nat → Nat), ∀ q, vwCl[k]? = some q → u_Kn s q.1 q.2.1 q.2.2 z.1 z.2 := by
    intro k
    cases hk : vwCl[k]? with
    | none => exact ⟨(0, fun _ => 0), fun q hq => by cases hq⟩
    | some q =>
      obtain ⟨hin, -, -⟩ := sm_cl_in _ _ hk
      obtain ⟨cC, iS, hKn⟩ := u_known htsG hin (hts _ (lw_f6 q (List.mem_of_getElem? hk)))
      exact ⟨(cC, iS), fun q' hq => by cases hq; exact hKn⟩
  obtain ⟨f, hf⟩ := Classical.axiomOfChoice cls
  obtain ⟨⟨a0, g0⟩, ⟨a1, g1⟩⟩ := lw_arrc (hts _ lw_f7.1) (hts _ lw_f7.2.1)
  obtain ⟨a2, g2⟩ := lw_arro (hts _ lw_f7.2.2.1)
  obtain ⟨a3, g3⟩ := lw_arro (hts _ lw_f7.2.2.2.1)
  obtain ⟨a4, g4⟩ := lw_arro (hts _ lw_f7.2.2.2.2)
  have hBs : ∀ i, i < 6 → (fun k : Nat => if k < 1000 then s.heap.size + k else adK (k - 1000)) (1000 + i) = adK i := by
    intro i hi
    show (if 1000 + i < 1000 then s.heap.size + (1000 + i) else adK (1000 + i - 1000)) = adK i
    rw [if_neg (by omega), Nat.add_sub_cancel_left]
  refine ⟨fun k => (f k).1, fun k => (f k).2, fun t => match t with | 0 => a0 | 1 => a1 | 2 => a2 | 3 => a3 | _ => a4, fun k => if k < 1000 then s.heap.size + k else adK (k - 1000), adK, adV, ⟨fun k q hq => hf k q hq, fun k q hq => ?_⟩, fun k hk => if_pos hk, hBs, fun C hC => va_AO.of (hts _ hC), fun own idx y host hw => va_Nw.of rfl (hts _ hw), fun i idx hi => ?_, t1, va_Zof (hts _ lw_f5.1) (hts _ lw_f5.2.1) (va_eqt (hs _ lw_f4.1)) hA, va_Zqof (hts _ lw_f5.2.2.1) (hts _ lw_f5.2.2.2) (hs _ lw_f4.2) hA⟩
  · match k, hq with
    | 0, hq => cases hq; exact g0
    | 1, hq => cases hq; exact g1
    | 2, hq => cases hq; exact g2
    | 3, hq => cases hq; exact g3
    | 4, hq => cases hq; exact g4
    | k + 5, hq => simp [sm_TY] at hq
  · match i, hi with
    | 0, hi => cases hi; exact ⟨_, by rw [hBs 0 (by omega)]; exact vk_R.of (hts _ lw_f8.1) (t2 0 (by omega))⟩
    | 1, hi => cases hi; exact ⟨_, by rw [hBs 1 (by omega)]; exact vk_R.of (hts _ lw_f8.2.1) (t2 1 (by omega))⟩
    | 2, hi => cases hi; exact ⟨_, by rw [hBs 2 (by omega)]; exact vk_R.of (hts _ lw_f8.2.2.1) (t2 2 (by omega))⟩
    | 3, hi => cases hi; exact ⟨_, by rw [hBs 3 (by omega)]; exact vk_R.of (hts _ lw_f8.2.2.2.1) (t2 3 (by omega))⟩
    | 4, hi => cases hi; exact ⟨_, by rw [hBs 4 (by omega)]; exact vk_R.of (hts _ lw_f8.2.2.2.2.1) (t2 4 (by omega))⟩
    | 5, hi => cases hi; exact ⟨_, by rw [hBs 5 (by omega)]; exact vk_R.of (hts _ lw_f8.2.2.2.2.2) (t2 5 (by omega))⟩
    | i + 6, hi => simp at hi
end LWF
