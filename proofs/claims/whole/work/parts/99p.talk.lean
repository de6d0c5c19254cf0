/-! talk: what is common stays when the fault changes, and when a talk is new -/
theorem InvN_fe {U V : sU} {nT nM : Nat} (h : InvN nT nM U) (E : ∀ a j, ¬ ((210 ≤ a ∧ a < 261) ∨ a = 287 ∨ (303 ≤ a ∧ a < 312) ∨ (a = 280 ∧ 25 ≤ j ∧ j < 53) ∨ (a = 0 ∧ j = 5) ∨ (a = 280 ∧ j = 2) ∨ a = 209 ∨ a = 281) → V.1 a j = U.1 a j) (el : V.2.1 = U.2.1) (hr : rRefs V) (hf : V.1 280 2 = V.1 0 5) : InvN nT nM V := by
  obtain ⟨k1, k2, k3, k4, k5, k6⟩ := h
  refine ⟨rNow_congr (fun a j q r => E a j (by omega)) (fun a j q r => E a j (by omega)) (E 280 0 (by omega)) (E 280 1 (by omega)) k1, ?_, hr, hf, ?_, ?_⟩
  · intro s hs
    exact rShelf_congr (fun j => E _ _ (by omega)) (fun a q r => E _ _ (by omega)) (fun i hi => by rw [el]) (fun i hi => by rw [el]) (k2 s hs)
  · refine ⟨?_, ?_, ?_⟩
    · rw [E 280 53 (by omega), E 261 4 (by omega)]; exact k5.1
    · rw [E 261 4 (by omega)]; exact k5.2.1
    · intro i hi
      rw [E 312 i (by omega), E 263 i (by omega)]; exact k5.2.2 i hi
  · exact rImg_congr (E 0 3 (by omega)) (fun a j q r => E a j (by omega)) (fun j => E _ _ (by omega)) (E 280 54 (by omega)) (E 280 55 (by omega)) (fun t ht => Or.inl (E _ _ (by omega))) k6
theorem InvN_new {U V : sU} {nT nM : Nat} (h : InvN nT nM U) (h8 : nT < 8) (e : ∀ a j, ¬ ((210 ≤ a ∧ a < 261) ∨ a = 287 ∨ (303 ≤ a ∧ a < 312) ∨ (a = 280 ∧ 25 ≤ j ∧ j < 53) ∨ (a = 0 ∧ j = 5) ∨ (a = 280 ∧ j = 2) ∨ a = 5 + 5 * nT ∨ a = 7 + 5 * nT ∨ a = 9 + 5 * nT ∨ (a = 2 ∧ j = 2) ∨ (a = 280 ∧ j = 0) ∨ (288 ≤ a ∧ a < 296 ∧ j = nT) ∨ ((a = 296 ∨ a = 297) ∧ 12 * nT ≤ j ∧ j < 12 * nT + 12)) → V.1 a j = U.1 a j) (el : V.2.1 = U.2.1) (hf : V.1 280 2 = V.1 0 5) (c1 : V.1 2 2 = Int32.ofNat (nT + 1)) (c2 : V.1 280 0 = Int32.ofNat (nT + 1)) (hv : rTalk (fun f => V.1 (5 + 5 * nT) (2 + f)) (V.1 (7 + 5 * nT)) (V.1 (9 + 5 * nT)) (fun f => V.1 (288 + f) nT) (fun i => V.1 296 (12 * nT + i)) (fun i => V.1 297 (12 * nT + i))) : InvN (nT + 1) nM V := by
  obtain ⟨⟨⟨d1, d2, d3, d4, hT, hM⟩, n1, n2⟩, k2, k3, k4, k5, k6⟩ := h
  refine ⟨⟨⟨c1, (e 2 3 (by omega)).trans d2, by omega, d4, ?_, ?_⟩, c2, (e 280 1 (by omega)).trans n2⟩, ?_, ?_, hf, ?_, ?_⟩
  · intro u hu
    by_cases eu : u = nT
    · subst eu
      have e1 : 2 + 3 + 5 * u = 5 + 5 * u := by omega
      have e2 : 2 + 5 + 5 * u = 7 + 5 * u := by omega
      have e3 : 2 + 7 + 5 * u = 9 + 5 * u := by omega
      rw [e1, e2, e3]
      exact hv
    · refine rTalk_congr ?_ ?_ ?_ ?_ ?_ ?_ (hT u (by omega))
      · intro f hf; exact e _ _ (by omega)
      · intro i hi; exact e _ _ (by omega)
      · intro i hi; exact e _ _ (by omega)
      · intro f hf; exact e _ _ (by omega)
      · intro i hi; exact e _ _ (by omega)
      · intro i hi; exact e _ _ (by omega)
  · intro m hm
    have q := hM m hm
    have e1 : V.1 (2 + 43 + 5 * m) = U.1 (2 + 43 + 5 * m) := by funext j; exact e _ _ (by omega)
    have e2 : V.1 (2 + 45 + 5 * m) = U.1 (2 + 45 + 5 * m) := by funext j; exact e _ _ (by omega)
    have e4 : V.1 (2 + 47 + 5 * m) = U.1 (2 + 47 + 5 * m) := by funext j; exact e _ _ (by omega)
    have e5 : V.1 298 = U.1 298 := by funext j; exact e _ _ (by omega)
    have e6 : V.1 299 = U.1 299 := by funext j; exact e _ _ (by omega)
    have e7 : V.1 300 = U.1 300 := by funext j; exact e _ _ (by omega)
    have e8 : V.1 301 = U.1 301 := by funext j; exact e _ _ (by omega)
    have e9 : V.1 302 = U.1 302 := by funext j; exact e _ _ (by omega)
    rw [e1, e2, e4, e5, e6, e7, e8, e9]
    have q' := rMean_congr (GT := fun t f => V.1 (2 + 3 + 5 * t) (2 + f)) (fun u hu => e _ _ (by omega)) (fun u hu => e _ _ (by omega)) q
    obtain ⟨g1, g2, g3, g4, ⟨u, g5, g6, g7⟩, g8⟩ := q'
    exact ⟨g1, g2, g3, g4, ⟨u, by omega, g6, g7⟩, g8⟩
  · intro s hs
    exact rShelf_congr (fun j => e _ _ (by omega)) (fun a q r => e _ _ (by omega)) (fun i hi => by rw [el]) (fun i hi => by rw [el]) (k2 s hs)
  · intro i hi
    rw [e 281 i (by omega), e 209 i (by omega)]
    exact k3 i hi
  · refine ⟨?_, ?_, ?_⟩
    · rw [e 280 53 (by omega), e 261 4 (by omega)]; exact k5.1
    · rw [e 261 4 (by omega)]; exact k5.2.1
    · intro i hi
      rw [e 312 i (by omega), e 263 i (by omega)]; exact k5.2.2 i hi
  · refine rImg_congr (e 0 3 (by omega)) (fun a j q r => e a j (by omega)) (fun j => e _ _ (by omega)) (e 280 54 (by omega)) (e 280 55 (by omega)) (fun t ht => ?_) k6
    by_cases et : t = nT
    · subst et
      obtain ⟨n, hv, _⟩ := hv
      exact Or.inr hv.2.2.2.2.2.2.2.1
    · exact Or.inl (e _ _ (by omega))
