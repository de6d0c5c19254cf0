/-! meanings: what is known of one; tell, trace -/
theorem mg_facts {U : sU} {nT nM m : Nat} (h : InvN nT nM U) (hm : m < nM) : U.1 299 m = U.1 (45 + 5 * m) 2 ∧ U.1 298 m = U.1 (45 + 5 * m) 3 ∧ (0 ≤ (U.1 (45 + 5 * m) 2).toInt ∧ (U.1 (45 + 5 * m) 2).toInt ≤ 5) ∧ (U.1 (45 + 5 * m) 2 = 2 → U.1 300 m = U.1 (45 + 5 * m) 4 ∧ 0 ≤ (U.1 (45 + 5 * m) 4).toInt ∧ (U.1 (45 + 5 * m) 4).toInt ≤ 100) ∧ (∃ t, t < nT ∧ U.1 (45 + 5 * m) 3 = Int32.ofNat t ∧ ∀ i, i < (U.1 (5 + 5 * t) 2).toNatClampNeg → U.1 301 (12 * m + i) = U.1 (47 + 5 * m) i ∧ 0 ≤ (U.1 (47 + 5 * m) i).toInt ∧ (U.1 (47 + 5 * m) i).toInt < (U.1 (5 + 5 * t) 5).toInt) ∧ (∀ i, i < 12 → U.1 302 (12 * m + i) = U.1 (49 + 5 * m) i ∧ 0 ≤ (U.1 (49 + 5 * m) i).toInt ∧ (U.1 (49 + 5 * m) i).toInt ≤ 999) := by
  have q := h.1.1.2.2.2.2.2 m hm
  have e1 : 2 + 43 + 5 * m = 45 + 5 * m := by omega
  have e2 : 2 + 45 + 5 * m = 47 + 5 * m := by omega
  have e3 : 2 + 47 + 5 * m = 49 + 5 * m := by omega
  rw [e1, e2, e3] at q
  obtain ⟨q1, q2, q3, q4, ⟨t, q5, q6, q7⟩, q8⟩ := q
  refine ⟨q1, q2, q3, q4, ⟨t, q5, q6, ?_⟩, q8⟩
  have e4 : 2 + 3 + 5 * t = 5 + 5 * t := by omega
  dsimp only at q7
  rw [e4] at q7
  exact q7
theorem mat_no {U : sU} {nT nM : Nat} (h : InvN nT nM U) {x : Int32} (hx : ¬ (0 ≤ x.toInt ∧ x.toInt < nM)) : mat 2 x U = none := by
  unfold mat
  have c : U.1 2 3 = Int32.ofNat nM := h.1.1.2.1
  have c8 := h.1.1.2.2.2.1
  rw [c, ln_4]
  by_cases h1 : Int32.ofNat nM ≤ x
  · rw [if_pos h1]
  · rw [if_neg h1]
    rw [i32_le, ofNat_int (by omega)] at h1
    rw [if_neg (fun q => by have := ib_int.mp q; omega)]
theorem mat_yes {U : sU} {nT nM : Nat} (h : InvN nT nM U) {x : Int32} (hx : 0 ≤ x.toInt ∧ x.toInt < nM) : mat 2 x U = some (45 + 5 * x.toNatClampNeg) ∧ x.toNatClampNeg < nM ∧ ib x 12 ∧ x.toInt = x.toNatClampNeg ∧ nM ≤ 12 := by
  unfold mat
  have c : U.1 2 3 = Int32.ofNat nM := h.1.1.2.1
  have c8 := h.1.1.2.2.2.1
  have e := clamp_int x
  rw [c, ln_4, if_neg (by rw [i32_le, ofNat_int (by omega)]; omega), if_pos (ib_int.mpr (by omega))]
  exact ⟨rfl, by omega, ib_int.mpr (by omega), by omega, c8⟩
theorem f180_no {V : sU} {nM : Nat} (hV : V.1 280 1 = Int32.ofNat nM) (h8 : nM ≤ 12) {x : Int32} (hx : ¬ (0 ≤ x.toInt ∧ x.toInt < nM)) : f_180 x V = 0 := by
  unfold f_180
  rw [hV]
  by_cases h1 : x < 0
  · rw [if_pos h1]
  rw [if_neg h1]
  rw [i32_lt0] at h1
  rw [if_pos (by rw [i32_le, ofNat_int (by omega)]; omega)]
theorem f180_yes {V : sU} {nM : Nat} (hV : V.1 280 1 = Int32.ofNat nM) (h8 : nM ≤ 12) {x : Int32} (hx : 0 ≤ x.toInt ∧ x.toInt < nM) : ¬ f_180 x V = 0 := by
  unfold f_180
  rw [hV, if_neg (by rw [i32_lt0]; omega), if_neg (by rw [i32_le, ofNat_int (by omega)]; omega)]
  decide
theorem tell_inv {U : sU} {nT nM m i : Nat} {v : Int32} (h : InvN nT nM U) (hm : m < nM) (hi : i < 12) (hv : 0 ≤ v.toInt ∧ v.toInt ≤ 999) : InvN nT nM (sI (sI U (49 + 5 * m) i v) 302 (12 * m + i) v) := by
  obtain ⟨⟨⟨c1, c2, c3, c4, hT, hM⟩, n1, n2⟩, k2, k3, k4, k5, k6⟩ := h
  have E : ∀ a j, a ≠ 49 + 5 * m → a ≠ 302 → (sI (sI U (49 + 5 * m) i v) 302 (12 * m + i) v).1 a j = U.1 a j := fun a j h1 h2 => (sI_ne h2).trans (sI_ne h1)
  have Ef : ∀ a, a ≠ 49 + 5 * m → a ≠ 302 → (sI (sI U (49 + 5 * m) i v) 302 (12 * m + i) v).1 a = U.1 a := fun a h1 h2 => by funext j; exact E a j h1 h2
  refine ⟨⟨⟨(E 2 2 (by omega) (by omega)).trans c1, (E 2 3 (by omega) (by omega)).trans c2, c3, c4, ?_, ?_⟩, (E 280 0 (by omega) (by omega)).trans n1, (E 280 1 (by omega) (by omega)).trans n2⟩, ?_, ?_, ?_, ?_, ?_⟩
  · intro t ht
    refine rTalk_congr ?_ ?_ ?_ ?_ ?_ ?_ (hT t ht)
    · intro f hf; exact E _ _ (by omega) (by omega)
    · intro j hj; exact E _ _ (by omega) (by omega)
    · intro j hj; exact E _ _ (by omega) (by omega)
    · intro f hf; exact E _ _ (by omega) (by omega)
    · intro j hj; exact E _ _ (by omega) (by omega)
    · intro j hj; exact E _ _ (by omega) (by omega)
  · intro u hu
    have q := hM u hu
    rw [Ef (2 + 43 + 5 * u) (by omega) (by omega), Ef (2 + 45 + 5 * u) (by omega) (by omega), Ef 298 (by omega) (by omega), Ef 299 (by omega) (by omega), Ef 300 (by omega) (by omega), Ef 301 (by omega) (by omega)]
    have q' := rMean_congr (GT := fun t f => (sI (sI U (49 + 5 * m) i v) 302 (12 * m + i) v).1 (2 + 3 + 5 * t) (2 + f)) (fun t ht => E _ _ (by omega) (by omega)) (fun t ht => E _ _ (by omega) (by omega)) q
    obtain ⟨q1, q2, q3, q4, q5, q6⟩ := q'
    refine ⟨q1, q2, q3, q4, q5, ?_⟩
    intro j hj
    dsimp only
    by_cases hu2 : u = m
    · subst hu2
      have e9 : 2 + 47 + 5 * u = 49 + 5 * u := by omega
      have q := q6 j hj
      dsimp only at q
      rw [e9] at q ⊢
      by_cases hji : j = i
      · subst hji
        rw [sI_at, sI_ne (by omega), sI_at]
        exact ⟨rfl, hv⟩
      · rw [sI_nj (by omega), sI_ne (by omega), sI_ne (by omega), sI_nj hji]
        exact q
    · rw [sI_nj (by omega), sI_ne (by omega), sI_ne (by omega), sI_ne (by omega)]
      exact q6 j hj
  · intro s hs
    exact rShelf_congr (fun j => E _ _ (by omega) (by omega)) (fun a q r => E _ _ (by omega) (by omega)) (fun i hi => rfl) (fun i hi => rfl) (k2 s hs)
  · intro i hi
    rw [E 281 i (by omega) (by omega), E 209 i (by omega) (by omega)]
    exact k3 i hi
  · rw [E 280 2 (by omega) (by omega), E 0 5 (by omega) (by omega)]
    exact k4
  · refine ⟨?_, ?_, ?_⟩
    · rw [E 280 53 (by omega) (by omega), E 261 4 (by omega) (by omega)]; exact k5.1
    · rw [E 261 4 (by omega) (by omega)]; exact k5.2.1
    · intro i hi
      rw [E 312 i (by omega) (by omega), E 263 i (by omega) (by omega)]; exact k5.2.2 i hi
  · exact rImg_congr (E 0 3 (by omega) (by omega)) (fun a j q r => E a j (by omega) (by omega)) (fun j => E _ _ (by omega) (by omega)) (E 280 54 (by omega) (by omega)) (E 280 55 (by omega) (by omega)) (fun t ht => Or.inl (E _ _ (by omega) (by omega))) k6
theorem f170_iff {v : Int32} {U : sU} : f_170 v U = 0 ↔ ¬ (0 ≤ v.toInt ∧ v.toInt ≤ 999) := by
  have e2 : (999 : Int32).toInt = 999 := rfl
  unfold f_170
  by_cases h1 : v < 0
  · rw [if_pos h1]; rw [i32_lt0] at h1
    exact ⟨fun _ => by omega, fun _ => rfl⟩
  rw [if_neg h1]; rw [i32_lt0] at h1
  by_cases h2 : 999 < v
  · rw [if_pos h2]; rw [i32_lt] at h2
    exact ⟨fun _ => by omega, fun _ => rfl⟩
  rw [if_neg h2]; rw [i32_lt] at h2
  exact ⟨fun q => absurd q (by decide), fun q => absurd (by omega) q⟩
theorem ln_mg : ∀ t, t < 12 → ln (45 + 5 * t + 1 + 1) = 12 ∧ ln (45 + 5 * t + 3 + 1) = 12 := by decide +kernel
theorem st_trace {U : sU} (h : Inv U) (x : Int32) : Two (some (f_153 x U, U)) (fun U => (f_276 x U).map fun r => (r, U)) := by
  refine ⟨_, U, U, rfl, ?_, h⟩
  obtain ⟨nT, nM, h⟩ := h
  obtain ⟨b1, b2, b3⟩ := h.2.2.2.2.1
  have e20 : (20 : Int32).toInt = 20 := rfl
  dsimp only
  unfold f_153 f_276 f_4
  by_cases h1 : x < 0
  · rw [if_pos h1, if_pos h1]; rfl
  rw [if_neg h1, if_neg h1]
  by_cases h2 : 20 ≤ x
  · rw [if_pos h2, if_pos h2]
    rw [ite_self]
    rfl
  rw [if_neg h2, if_neg h2, b1]
  by_cases h3 : U.1 261 4 ≤ x
  · rw [if_pos h3, if_pos h3]; rfl
  rw [if_neg h3, if_neg h3]
  rw [i32_lt0] at h1
  rw [i32_le] at h2
  have e := clamp_int x
  rw [if_pos (ib_int.mpr (by omega)), b3 _ (by omega)]
  unfold iget
  rw [if_pos (ib_int.mpr (by rw [l_263]; omega))]
  rfl
theorem st_tell {U : sU} (h : Inv U) (k x v : Int32) : Two (some (f_128 k x v U)) (f_216 k x v) := by
  have h0 := h
  have e12 : (12 : Int32).toInt = 12 := rfl
  have e11 : (11 : Int32).toInt = 11 := rfl
  have e999 : (999 : Int32).toInt = 999 := rfl
  obtain ⟨nT, nM, h⟩ := h
  have n1 : U.1 280 1 = Int32.ofNat nM := h.1.2.2
  have n8 := h.1.1.2.2.2.1
  have n5 : ∀ w a j, (1 ≤ w.toInt ∧ w.toInt ≤ 7) → a ≠ 209 → (f_157 w U).2.1 a j = U.1 a j := fun w a j r q => f157_1 r q
  by_cases hk : 0 ≤ k.toInt ∧ k.toInt < nM
  case neg => exact ref_to h0 (w := 1) (by decide) (by unfold f_128; rw [mat_no h hk]) (by unfold f_216; rw [if_pos (f180_no ((n5 1 280 1 (by decide) (by decide)).trans n1) n8 hk)])
  obtain ⟨e1, e2, e3, e4, _⟩ := mat_yes h hk
  obtain ⟨q1, q2, q3, q4, q5, q6⟩ := mg_facts h e2
  by_cases k5 : U.1 (45 + 5 * k.toNatClampNeg) 2 = 5
  case neg => exact ref_to h0 (w := 2) (by decide) (by unfold f_128; rw [e1]; dsimp only; rw [if_neg k5]) (by unfold f_216; rw [if_neg (f180_yes ((n5 2 280 1 (by decide) (by decide)).trans n1) n8 hk), if_pos e3, n5 2 299 _ (by decide) (by decide), q1, if_neg k5])
  have mk6 : ∀ g : Option (Int32 × sU), (if f_180 k (f_157 6 U).2 = 0 then (f_174 (-1) (f_157 6 U).2).bind fun q => some (q.1, q.2) else if ib k 12 then if (f_157 6 U).2.1 299 k.toNatClampNeg = 5 then g else (f_174 (-2) (f_157 6 U).2).bind fun q => some (q.1, q.2) else none) = g := by
    intro g
    rw [if_neg (f180_yes ((n5 6 280 1 (by decide) (by decide)).trans n1) n8 hk), if_pos e3, n5 6 299 _ (by decide) (by decide), q1, if_pos k5]
  by_cases x0 : x < 0
  case pos => exact ref_to h0 (w := 6) (by decide) (by unfold f_128; rw [e1]; dsimp only; rw [if_pos k5, if_pos x0]) (by unfold f_216; rw [mk6, if_pos x0])
  by_cases x12 : 12 ≤ x
  case pos => exact ref_to h0 (w := 6) (by decide) (by unfold f_128; rw [e1]; dsimp only; rw [if_pos k5, if_neg x0, if_pos x12]) (by unfold f_216; rw [mk6, if_neg x0, if_pos (by rw [i32_lt]; rw [i32_le] at x12; omega)])
  have x11 : ¬ (11 : Int32) < x := by rw [i32_lt]; rw [i32_le] at x12; omega
  by_cases hv : 0 ≤ v.toInt ∧ v.toInt ≤ 999
  case neg =>
    refine ref_to h0 (w := 6) (by decide) (by unfold f_128; rw [e1]; dsimp only; rw [if_pos k5, if_neg x0, if_neg x12, if_pos (f170_iff.mpr hv)]) ?_
    unfold f_216
    rw [mk6, if_neg x0, if_neg x11]
    by_cases v0 : v < 0
    · rw [if_pos v0]
    · rw [if_neg v0, if_neg]
      rw [i32_lt0] at v0
      rw [i32_le]
      omega
  rw [i32_lt0] at x0
  rw [i32_le] at x12
  have ei : x.toInt = x.toNatClampNeg := by rw [clamp_int]; omega
  obtain ⟨m1, m2⟩ := mul12 e4 ei (by omega) (by omega)
  have hib : ib (12 * k + x) 144 := ib_int.mpr (by omega)
  obtain ⟨l1, l2⟩ := ln_mg k.toNatClampNeg (by omega)
  obtain ⟨d1, _, _⟩ := q6 x.toNatClampNeg (by omega)
  have l9 : 45 + 5 * k.toNatClampNeg + 3 + 1 = 49 + 5 * k.toNatClampNeg := by omega
  have g3 : iget (45 + 5 * k.toNatClampNeg + 3) x U = U.1 (49 + 5 * k.toNatClampNeg) x.toNatClampNeg := by
    unfold iget
    rw [if_pos (ib_int.mpr (by omega)), l9]
  have p3 : iput (45 + 5 * k.toNatClampNeg + 3) x v U = sI U (49 + 5 * k.toNatClampNeg) x.toNatClampNeg v := by
    unfold iput
    rw [if_pos (ib_int.mpr (by omega)), l9]
  have n7 : ∀ a j, a ≠ 49 + 5 * k.toNatClampNeg → (sI U (49 + 5 * k.toNatClampNeg) x.toNatClampNeg v).1 a j = U.1 a j := fun a j q => sI_ne q
  unfold f_128 f_216
  rw [e1]
  dsimp only
  rw [if_pos k5, if_neg (by rw [i32_lt0]; omega), if_neg (by rw [i32_le]; omega), if_neg (fun q => f170_iff.mp q hv), g3, p3]
  refine ⟨_, _, _, rfl, ?_, nT, nM, tell_inv h e2 (i := x.toNatClampNeg) (by omega) hv⟩
  dsimp only
  rw [if_neg (f180_yes ((n7 280 1 (by omega)).trans n1) n8 hk), if_pos e3, n7 299 _ (by omega), q1, if_pos k5, if_neg (by rw [i32_lt0]; omega), if_neg x11, if_neg (by rw [i32_lt0]; omega), if_pos (by rw [i32_le]; omega), if_pos hib, if_pos hib, m2, n7 302 _ (by omega), d1]
