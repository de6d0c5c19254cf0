/-! talks: what is known of one, and what is left when one is changed -/
theorem tk_facts {U : sU} {nT nM t : Nat} (h : InvN nT nM U) (ht : t < nT) : ∃ n, 1 ≤ n ∧ n ≤ 12 ∧ U.1 (5 + 5 * t) 2 = Int32.ofNat n ∧ U.1 288 t = Int32.ofNat n ∧ (U.1 289 t = U.1 (5 + 5 * t) 3 ∧ -500 ≤ (U.1 (5 + 5 * t) 3).toInt ∧ (U.1 (5 + 5 * t) 3).toInt ≤ 500) ∧ (U.1 290 t = U.1 (5 + 5 * t) 4 ∧ -500 ≤ (U.1 (5 + 5 * t) 4).toInt ∧ (U.1 (5 + 5 * t) 4).toInt ≤ 500) ∧ (U.1 291 t = U.1 (5 + 5 * t) 5 ∧ 1 ≤ (U.1 (5 + 5 * t) 5).toInt ∧ (U.1 (5 + 5 * t) 5).toInt ≤ 12) ∧ (U.1 292 t = U.1 (5 + 5 * t) 6 ∧ (U.1 (5 + 5 * t) 6 = 0 ∨ U.1 (5 + 5 * t) 6 = 1)) ∧ (U.1 293 t = U.1 (5 + 5 * t) 7 ∧ (U.1 (5 + 5 * t) 7 = 0 ∨ U.1 (5 + 5 * t) 7 = 1)) ∧ (U.1 294 t = U.1 (5 + 5 * t) 8 ∧ -500 ≤ (U.1 (5 + 5 * t) 8).toInt ∧ (U.1 (5 + 5 * t) 8).toInt ≤ 500) ∧ (U.1 295 t = U.1 (5 + 5 * t) 9 ∧ -500 ≤ (U.1 (5 + 5 * t) 9).toInt ∧ (U.1 (5 + 5 * t) 9).toInt ≤ 500) ∧
    (∀ i, i < n → U.1 296 (12 * t + i) = U.1 (7 + 5 * t) i ∧ 0 ≤ (U.1 (7 + 5 * t) i).toInt ∧ (U.1 (7 + 5 * t) i).toInt ≤ 999 ∧ U.1 297 (12 * t + i) = U.1 (9 + 5 * t) i ∧ 1 ≤ (U.1 (9 + 5 * t) i).toInt ∧ (U.1 (9 + 5 * t) i).toInt ≤ 99) ∧ (∀ i, i + 1 < n → (U.1 (7 + 5 * t) i).toInt < (U.1 (7 + 5 * t) (i + 1)).toInt) := by
  obtain ⟨n, ⟨v1, v2, v3, v4, v5, v6, v7, v8, v9, v10, v11, v12⟩, hf, hx⟩ := h.1.1.2.2.2.2.1 t ht
  exact ⟨n, v2, v3, v1, (hf 0 (by omega)).trans v1, ⟨hf 1 (by omega), v4⟩, ⟨hf 2 (by omega), v5⟩, ⟨hf 3 (by omega), v6⟩, ⟨hf 4 (by omega), v7⟩, ⟨hf 5 (by omega), v8⟩, ⟨hf 6 (by omega), v9⟩, ⟨hf 7 (by omega), v10⟩, fun i hi => ⟨(hx i hi).1, (v11 i hi).1, (v11 i hi).2.1, (hx i hi).2, (v11 i hi).2.2.1, (v11 i hi).2.2.2⟩, v12⟩
theorem rMean_congr {nT : Nat} {FT GT : Nat → Nat → Int32} {k tk cl k' tk' cl' : Int32} {W D W' D' : Nat → Int32} (h0 : ∀ t, t < nT → GT t 0 = FT t 0) (h3 : ∀ t, t < nT → GT t 3 = FT t 3) (h : rMean nT FT k tk cl W D k' tk' cl' W' D') : rMean nT GT k tk cl W D k' tk' cl' W' D' := by
  obtain ⟨q1, q2, q3, q4, ⟨t, q5, q6, q7⟩, q8⟩ := h
  refine ⟨q1, q2, q3, q4, ⟨t, q5, q6, ?_⟩, q8⟩
  rw [h0 t q5, h3 t q5]
  exact q7
theorem InvN_tk {U V : sU} {nT nM t : Nat} (ht : t < nT) (h : InvN nT nM U) (e : ∀ a j, a ≠ 5 + 5 * t → a ≠ 7 + 5 * t → a ≠ 9 + 5 * t → ¬ (288 ≤ a ∧ a < 296 ∧ j = t) → ¬ ((a = 296 ∨ a = 297) ∧ 12 * t ≤ j ∧ j < 12 * t + 12) → V.1 a j = U.1 a j) (el : V.2.1 = U.2.1) (e0 : V.1 (5 + 5 * t) 2 = U.1 (5 + 5 * t) 2) (e3 : V.1 (5 + 5 * t) 5 = U.1 (5 + 5 * t) 5)
    (hv : rTalk (fun f => V.1 (2 + 3 + 5 * t) (2 + f)) (V.1 (2 + 5 + 5 * t)) (V.1 (2 + 7 + 5 * t)) (fun f => V.1 (288 + f) t) (fun i => V.1 296 (12 * t + i)) (fun i => V.1 297 (12 * t + i))) : InvN nT nM V := by
  obtain ⟨⟨⟨c1, c2, c3, c4, hT, hM⟩, n1, n2⟩, k2, k3, k4, k5, k6⟩ := h
  have E : ∀ a j, ¬ (5 ≤ a ∧ a < 45) → ¬ (288 ≤ a ∧ a < 298) → V.1 a j = U.1 a j := fun a j h1 h2 => e a j (by omega) (by omega) (by omega) (by omega) (by omega)
  refine ⟨⟨⟨(E 2 2 (by omega) (by omega)).trans c1, (E 2 3 (by omega) (by omega)).trans c2, c3, c4, ?_, ?_⟩, (E 280 0 (by omega) (by omega)).trans n1, (E 280 1 (by omega) (by omega)).trans n2⟩, ?_, ?_, ?_, ?_, ?_⟩
  · intro u hu
    by_cases hut : u = t
    · subst hut; exact hv
    · refine rTalk_congr ?_ ?_ ?_ ?_ ?_ ?_ (hT u hu)
      · intro f hf; exact e _ _ (by omega) (by omega) (by omega) (by omega) (by omega)
      · intro i hi; exact e _ _ (by omega) (by omega) (by omega) (by omega) (by omega)
      · intro i hi; exact e _ _ (by omega) (by omega) (by omega) (by omega) (by omega)
      · intro f hf; exact e _ _ (by omega) (by omega) (by omega) (by omega) (by omega)
      · intro i hi; exact e _ _ (by omega) (by omega) (by omega) (by omega) (by omega)
      · intro i hi; exact e _ _ (by omega) (by omega) (by omega) (by omega) (by omega)
  · intro m hm
    have q := hM m hm
    have e1 : V.1 (2 + 43 + 5 * m) = U.1 (2 + 43 + 5 * m) := by funext j; exact E _ _ (by omega) (by omega)
    have e2 : V.1 (2 + 45 + 5 * m) = U.1 (2 + 45 + 5 * m) := by funext j; exact E _ _ (by omega) (by omega)
    have e4 : V.1 (2 + 47 + 5 * m) = U.1 (2 + 47 + 5 * m) := by funext j; exact E _ _ (by omega) (by omega)
    have e5 : V.1 298 = U.1 298 := by funext j; exact E _ _ (by omega) (by omega)
    have e6 : V.1 299 = U.1 299 := by funext j; exact E _ _ (by omega) (by omega)
    have e7 : V.1 300 = U.1 300 := by funext j; exact E _ _ (by omega) (by omega)
    have e8 : V.1 301 = U.1 301 := by funext j; exact E _ _ (by omega) (by omega)
    have e9 : V.1 302 = U.1 302 := by funext j; exact E _ _ (by omega) (by omega)
    rw [e1, e2, e4, e5, e6, e7, e8, e9]
    refine rMean_congr ?_ ?_ q
    · intro u hu
      by_cases hut : u = t
      · subst hut; exact e0
      · exact e _ _ (by omega) (by omega) (by omega) (by omega) (by omega)
    · intro u hu
      by_cases hut : u = t
      · subst hut; exact e3
      · exact e _ _ (by omega) (by omega) (by omega) (by omega) (by omega)
  · intro s hs
    exact rShelf_congr (fun j => E _ _ (by omega) (by omega)) (fun a q r => E _ _ (by omega) (by omega)) (fun i hi => by rw [el]) (fun i hi => by rw [el]) (k2 s hs)
  · intro i hi
    rw [E 281 i (by omega) (by omega), E 209 i (by omega) (by omega)]
    exact k3 i hi
  · rw [E 280 2 (by omega) (by omega), E 0 5 (by omega) (by omega)]
    exact k4
  · refine ⟨?_, ?_, ?_⟩
    · rw [E 280 53 (by omega) (by omega), E 261 4 (by omega) (by omega)]; exact k5.1
    · rw [E 261 4 (by omega) (by omega)]; exact k5.2.1
    · intro i hi
      rw [E 312 i (by omega) (by omega), E 263 i (by omega) (by omega)]; exact k5.2.2 i hi
  · exact rImg_congr (E 0 3 (by omega) (by omega)) (fun a j q r => E a j (by omega) (by omega)) (fun j => E _ _ (by omega) (by omega)) (E 280 54 (by omega) (by omega)) (E 280 55 (by omega) (by omega)) (fun u hu => by
      by_cases hut : u = t
      · subst hut
        obtain ⟨m, hv1, _⟩ := hv
        have q := hv1.2.2.2.2.2.2.2.1
        dsimp only at q
        rw [show 2 + 3 + 5 * u = 5 + 5 * u by omega] at q
        exact Or.inr q
      · exact Or.inl (e _ _ (by omega) (by omega) (by omega) (by omega) (by omega))) k6
theorem ln_3 : ln (2 + 1) = 8 := by decide +kernel
theorem ln_4 : ln (2 + 2) = 12 := by decide +kernel
theorem tat_no {U : sU} {nT nM : Nat} (h : InvN nT nM U) {x : Int32} (hx : ¬ (0 ≤ x.toInt ∧ x.toInt < nT)) : tat 2 x U = none := by
  unfold tat
  have c : U.1 2 2 = Int32.ofNat nT := h.1.1.1
  have c8 := h.1.1.2.2.1
  rw [c, ln_3]
  by_cases h1 : Int32.ofNat nT ≤ x
  · rw [if_pos h1]
  · rw [if_neg h1]
    rw [i32_le, ofNat_int (by omega)] at h1
    rw [if_neg (fun q => by have := ib_int.mp q; omega)]
theorem tat_yes {U : sU} {nT nM : Nat} (h : InvN nT nM U) {x : Int32} (hx : 0 ≤ x.toInt ∧ x.toInt < nT) : tat 2 x U = some (5 + 5 * x.toNatClampNeg) ∧ x.toNatClampNeg < nT ∧ ib x 8 ∧ x.toInt = x.toNatClampNeg ∧ nT ≤ 8 := by
  unfold tat
  have c : U.1 2 2 = Int32.ofNat nT := h.1.1.1
  have c8 := h.1.1.2.2.1
  have e := clamp_int x
  rw [c, ln_3, if_neg (by rw [i32_le, ofNat_int (by omega)]; omega), if_pos (ib_int.mpr (by omega))]
  exact ⟨rfl, by omega, ib_int.mpr (by omega), by omega, c8⟩
theorem f178_no {V : sU} {nT : Nat} (hV : V.1 280 0 = Int32.ofNat nT) (h8 : nT ≤ 8) {x : Int32} (hx : ¬ (0 ≤ x.toInt ∧ x.toInt < nT)) : f_178 x V = 0 := by
  unfold f_178
  rw [hV]
  by_cases h1 : x < 0
  · rw [if_pos h1]
  rw [if_neg h1]
  rw [i32_lt0] at h1
  rw [if_pos (by rw [i32_le, ofNat_int (by omega)]; omega)]
theorem f178_yes {V : sU} {nT : Nat} (hV : V.1 280 0 = Int32.ofNat nT) (h8 : nT ≤ 8) {x : Int32} (hx : 0 ≤ x.toInt ∧ x.toInt < nT) : ¬ f_178 x V = 0 := by
  unfold f_178
  rw [hV, if_neg (by rw [i32_lt0]; omega), if_neg (by rw [i32_le, ofNat_int (by omega)]; omega)]
  decide
theorem far_eq {w : Int32} {U : sU} (hw : 1 ≤ w.toInt ∧ w.toInt ≤ 7) : f_158 w U = (-w - 2000000000, (f_157 w U).2) := by
  unfold f_158
  rw [f157_eq hw]
theorem f175_eq {w : Int32} {U : sU} (hw : 1 ≤ w.toInt ∧ w.toInt ≤ 7) : f_175 (-w) U = some (-w - 2000000000, sI U 281 w.toNatClampNeg (U.1 281 w.toNatClampNeg + 1)) := by
  have h : ib w 8 := ib_int.mpr (by omega)
  unfold f_175
  rw [neg_neg32, if_pos h, if_pos h, Int32.sub_eq_add_neg, Int32.add_comm]
theorem far_to {U : sU} {c : Option (Int32 × sU)} {g : sU → Option (Int32 × sU)} {w : Int32} (h : Inv U) (hw : 1 ≤ w.toInt ∧ w.toInt ≤ 7) (hc : c = some (f_158 w U)) (hg : g (f_158 w U).2 = (f_175 (-w) (f_158 w U).2).bind fun q => some (q.1, q.2)) : Two c g := by
  obtain ⟨nT, nM, h⟩ := h
  obtain ⟨V, h1, h2⟩ := ref_step hw h
  rw [far_eq hw] at hc hg
  rw [f174_eq hw] at h1
  rw [f175_eq hw] at hg
  cases h1
  exact ⟨_, _, _, hc, hg, nT, nM, h2⟩
theorem f159_eq {w : Int32} {U : sU} (hw : 1 ≤ w.toInt ∧ w.toInt ≤ 7) : f_159 w U = (-w - 10, (f_157 w U).2) := by
  unfold f_159
  rw [f157_eq hw]
theorem f176_eq {w : Int32} {U : sU} (hw : 1 ≤ w.toInt ∧ w.toInt ≤ 7) : f_176 (-w) U = some (-w - 10, sI U 281 w.toNatClampNeg (U.1 281 w.toNatClampNeg + 1)) := by
  have h : ib w 8 := ib_int.mpr (by omega)
  unfold f_176
  rw [neg_neg32, if_pos h, if_pos h]
theorem ten_to {U : sU} {c : Option (Int32 × sU)} {g : sU → Option (Int32 × sU)} {w : Int32} (h : Inv U) (hw : 1 ≤ w.toInt ∧ w.toInt ≤ 7) (hc : c = some (f_159 w U)) (hg : g (f_159 w U).2 = (f_176 (-w) (f_159 w U).2).bind fun q => some (q.1, q.2)) : Two c g := by
  obtain ⟨nT, nM, h⟩ := h
  obtain ⟨V, h1, h2⟩ := ref_step hw h
  rw [f159_eq hw] at hc hg
  rw [f174_eq hw] at h1
  rw [f176_eq hw] at hg
  cases h1
  exact ⟨_, _, _, hc, hg, nT, nM, h2⟩
