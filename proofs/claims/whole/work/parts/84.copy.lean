/-! copy -/
theorem f86_iff {a : Nat} {i n : Int32} {U : sU} (hs : 0 ≤ (U.1 a 3).toInt ∧ (U.1 a 3).toInt ≤ 64) (hn : 0 ≤ n.toInt) : f_86 a i n U = 0 ↔ ¬ (0 ≤ i.toInt ∧ i.toInt ≤ (U.1 a 3).toInt - n.toInt) := by
  have nl := n.toInt_lt
  have d : (U.1 a 3 - n).toInt = (U.1 a 3).toInt - n.toInt := s32 (by omega) (by omega)
  unfold f_86
  by_cases c1 : i < 0
  · rw [if_pos c1]; rw [i32_lt0] at c1
    exact ⟨fun _ => by omega, fun _ => rfl⟩
  rw [if_neg c1, if_neg (by rw [i32_lt0]; omega)]; rw [i32_lt0] at c1
  by_cases c2 : U.1 a 3 < n
  · rw [if_pos c2]; rw [i32_lt] at c2
    exact ⟨fun _ => by omega, fun _ => rfl⟩
  rw [if_neg c2]
  by_cases c3 : U.1 a 3 - n < i
  · rw [if_pos c3]; rw [i32_lt, d] at c3
    exact ⟨fun _ => by omega, fun _ => rfl⟩
  rw [if_neg c3]; rw [i32_lt, d] at c3
  exact ⟨fun q => absurd q (by decide), fun q => absurd (by omega) q⟩
theorem idx3 {s i k : Int32} {a b c : Nat} (hs : s.toInt = a) (hi : i.toInt = b) (hk : k.toInt = c) (ha : a < 8) (hb : b ≤ 64) (hc : c ≤ 64) : (64 * s + i + k).toInt = 64 * a + b + c := by
  have m := mul64 hs hi ha (by omega)
  rw [a32 (by rw [m, hk]; omega) (by rw [m, hk]; omega), m, hk]
theorem copy_m {V : sU} {p q a b n : Nat} {x y i j N : Int32} (hx : x.toInt = p) (hy : y.toInt = q) (hi : i.toInt = a) (hj : j.toInt = b) (hN : N.toInt = n) (hp : p < 8) (hq : q < 8) (han : a + n ≤ 64) (hbn : b + n ≤ 64) : ∃ Z, f_183_167 FU x y i j N 0 V = some (1, Z) ∧ Z.1 = V.1 ∧ (∀ k, k < n → Z.2.1 286 (64 * q + b + k) = V.2.1 286 (64 * p + a + k)) ∧ (∀ c k, c ≠ 287 → ¬ (c = 286 ∧ 64 * q + b ≤ k ∧ k < 64 * q + b + n) → Z.2.1 c k = V.2.1 c k) := by
  have eN : N = Int32.ofNat n := by apply Int32.toInt_inj.mp; rw [hN, ofNat_int (by omega)]
  subst eN
  have second : ∀ Y : sU, Y.1 = V.1 → (∀ k, k < n → Y.2.1 287 k = V.2.1 286 (64 * p + a + k)) → (∀ c k, c ≠ 287 → Y.2.1 c k = V.2.1 c k) → ∃ Z, f_183_204 FU y j (Int32.ofNat n) 0 Y = some (1, Z) ∧ Z.1 = V.1 ∧ (∀ k, k < n → Z.2.1 286 (64 * q + b + k) = V.2.1 286 (64 * p + a + k)) ∧ (∀ c k, c ≠ 287 → ¬ (c = 286 ∧ 64 * q + b ≤ k ∧ k < 64 * q + b + n) → Z.2.1 c k = V.2.1 c k) := by
    intro Y y1 y2 y3
    refine loop_ex (fun m (s : Int32 × sU) => f_183_204 m y j (Int32.ofNat n) s.1 s.2) (fun k s => s.1 = Int32.ofNat k ∧ s.2.1 = V.1 ∧ (∀ k, k < n → s.2.2.1 287 k = V.2.1 286 (64 * p + a + k)) ∧ (∀ k', k' < k → s.2.2.1 286 (64 * q + b + k') = V.2.1 286 (64 * p + a + k')) ∧ ∀ c k', c ≠ 287 → ¬ (c = 286 ∧ 64 * q + b ≤ k' ∧ k' < 64 * q + b + k) → s.2.2.1 c k' = V.2.1 c k') (fun o => ∃ Z, o = some (1, Z) ∧ Z.1 = V.1 ∧ (∀ k, k < n → Z.2.1 286 (64 * q + b + k) = V.2.1 286 (64 * p + a + k)) ∧ (∀ c k, c ≠ 287 → ¬ (c = 286 ∧ 64 * q + b ≤ k ∧ k < 64 * q + b + n) → Z.2.1 c k = V.2.1 c k)) n ?_ ?_ n 0 FU (0, Y) (by omega) (by unfold FU; omega) ⟨rfl, y1, y2, fun k hk => by omega, fun c k hc _ => y3 c k hc⟩
    · rintro k ⟨c, Z⟩ m hk ⟨rfl, z1, z2, z3, z4⟩
      dsimp only at z1 z2 z3 z4 ⊢
      refine Or.inr ?_
      have ix := idx3 hy hj (ofNat_int (show k < 2147483648 by omega)) hq (by omega) (by omega)
      have ic : (64 * y + j + Int32.ofNat k).toNatClampNeg = 64 * q + b + k := by rw [clamp_int, ix]; omega
      rw [f_183_204, if_neg (fun q => by have := (ofNat_le (by omega) (by omega)).mp q; omega), if_pos (ib_ofNat (by omega) (by omega)), if_pos (ib_int.mpr (by omega)), ic, ofNat_clamp (by omega), ofNat_succ]
      refine ⟨(Int32.ofNat (k + 1), sJ Z 286 (64 * q + b + k) (Z.2.1 287 k)), ⟨rfl, z1, fun k' hk' => by dsimp only; rw [sJ_ne (by omega)]; exact z2 k' hk', fun k' hk' => ?_, fun c k' hc hn => ?_⟩, rfl⟩
      · dsimp only
        by_cases e : k' = k
        · subst e; rw [sJ_at]; exact z2 k' hk
        · rw [sJ_nj (by omega)]; exact z3 k' (by omega)
      · dsimp only
        by_cases e : c = 286
        · subst e
          rw [sJ_nj (by omega)]
          exact z4 286 k' hc (by omega)
        · rw [sJ_ne e]
          exact z4 c k' hc (by omega)
    · rintro ⟨c, Z⟩ m ⟨rfl, z1, z2, z3, z4⟩
      dsimp only at z1 z2 z3 z4 ⊢
      rw [f_183_204, if_pos ((ofNat_le (by omega) (by omega)).mpr (Nat.le_refl _))]
      exact ⟨Z, rfl, z1, z3, z4⟩
  refine loop_ex (fun m (s : Int32 × sU) => f_183_167 m x y i j (Int32.ofNat n) s.1 s.2) (fun k s => s.1 = Int32.ofNat k ∧ s.2.1 = V.1 ∧ (∀ k', k' < k → s.2.2.1 287 k' = V.2.1 286 (64 * p + a + k')) ∧ ∀ c k', c ≠ 287 → s.2.2.1 c k' = V.2.1 c k') (fun o => ∃ Z, o = some (1, Z) ∧ Z.1 = V.1 ∧ (∀ k, k < n → Z.2.1 286 (64 * q + b + k) = V.2.1 286 (64 * p + a + k)) ∧ (∀ c k, c ≠ 287 → ¬ (c = 286 ∧ 64 * q + b ≤ k ∧ k < 64 * q + b + n) → Z.2.1 c k = V.2.1 c k)) n ?_ ?_ n 0 FU (0, V) (by omega) (by unfold FU; omega) ⟨rfl, rfl, fun k hk => by omega, fun _ _ _ => rfl⟩
  · rintro k ⟨c, Z⟩ m hk ⟨rfl, z1, z2, z3⟩
    dsimp only at z1 z2 z3 ⊢
    refine Or.inr ?_
    have ix := idx3 hx hi (ofNat_int (show k < 2147483648 by omega)) hp (by omega) (by omega)
    have ic : (64 * x + i + Int32.ofNat k).toNatClampNeg = 64 * p + a + k := by rw [clamp_int, ix]; omega
    rw [f_183_167, if_neg (fun q => by have := (ofNat_le (by omega) (by omega)).mp q; omega), if_pos (ib_int.mpr (by omega)), if_pos (ib_ofNat (by omega) (by omega)), ic, ofNat_clamp (by omega), ofNat_succ]
    refine ⟨(Int32.ofNat (k + 1), sJ Z 287 k (Z.2.1 286 (64 * p + a + k))), ⟨rfl, z1, fun k' hk' => ?_, fun c k' hc => by dsimp only; rw [sJ_ne hc]; exact z3 c k' hc⟩, rfl⟩
    dsimp only
    by_cases e : k' = k
    · subst e; rw [sJ_at]; exact z3 _ _ (by omega)
    · rw [sJ_nj e]; exact z2 k' (by omega)
  · rintro ⟨c, Z⟩ m ⟨rfl, z1, z2, z3⟩
    dsimp only at z1 z2 z3 ⊢
    rw [f_183_167, if_pos ((ofNat_le (by omega) (by omega)).mpr (Nat.le_refl _))]
    exact second Z z1 z2 z3
theorem st_copy {U : sU} (h : Inv U) (x y i j n : Int32) : Two (f_115 x y i j n U) (f_183 x y i j n) := by
  have h0 := h
  have z0 : (0 : Int32).toInt = 0 := rfl
  obtain ⟨nT, nM, h⟩ := h
  by_cases hx : x < 0 ∨ 8 ≤ x
  · exact ref_to h0 (w := 1) (by decide) (by unfold f_115; rw [sat_no hx]) (by unfold f_183; rw [if_pos (f177_no hx)])
  obtain ⟨p1, p2, p3, p4⟩ := sat_yes hx
  by_cases hy : y < 0 ∨ 8 ≤ y
  · exact ref_to h0 (w := 1) (by decide) (by unfold f_115; rw [p1]; dsimp only; rw [sat_no hy]) (by unfold f_183; rw [if_neg (f177_yes hx), if_pos (f177_no hy)])
  obtain ⟨q1, q2, q3, q4⟩ := sat_yes hy
  -- the state of each shelf
  have st : ∀ s, s < 8 → (U.1 (264 + 2 * s) 1 = U.1 282 s ∧ (U.1 282 s = 0 ∨ U.1 282 s = 1 ∨ U.1 282 s = 2)) ∧ (U.1 282 s = 1 → U.1 (264 + 2 * s) 2 = U.1 283 s ∧ U.1 (264 + 2 * s) 3 = U.1 284 s ∧ 0 ≤ (U.1 284 s).toInt ∧ (U.1 284 s).toInt ≤ 64 ∧ ∀ i, i < 64 → U.2.1 286 (64 * s + i) = U.2.1 (265 + 2 * s) i) := by
    intro s hs
    rcases h.2.1 s hs with ⟨a1, a2, a3⟩ | ⟨a1, a2, o, m, a3, a4, a5, a6, a7, a8, a9⟩ | ⟨a1, a2, a3, _⟩
    · exact ⟨⟨a1.trans a2.symm, Or.inl a2⟩, fun e => by rw [a2] at e; exact absurd e (by decide)⟩
    · refine ⟨⟨a1.trans a2.symm, Or.inr (Or.inl a2)⟩, fun _ => ⟨a5.trans a6.symm, a7.trans a8.symm, ?_, ?_, a9⟩⟩
      · rw [a8, ofNat_int (by omega)]; omega
      · rw [a8, ofNat_int (by omega)]; omega
    · exact ⟨⟨a1.trans a2.symm, Or.inr (Or.inr a2)⟩, fun e => by rw [a2] at e; exact absurd e (by decide)⟩
  obtain ⟨⟨sp1, sp2⟩, sp3⟩ := st _ p2
  obtain ⟨⟨sq1, sq2⟩, sq3⟩ := st _ q2
  generalize hP : x.toNatClampNeg = P at *
  generalize hQ : y.toNatClampNeg = Q at *
  have r2 : ∀ s w, (1 ≤ w.toInt ∧ w.toInt ≤ 7) → ∀ a, a ≠ 209 → (f_157 w U).2.1 a s = U.1 a s := fun s w hw a ha => f157_1 hw ha
  have f81 : ∀ s, f_81 (264 + 2 * s) U = if U.1 (264 + 2 * s) 1 = 2 then 1 else 0 := fun s => by unfold f_81; rfl
  have f80 : ∀ s, f_80 (264 + 2 * s) U = if U.1 (264 + 2 * s) 1 = 1 then 1 else 0 := fun s => by unfold f_80; rfl
  have head : ∀ V : sU, V.1 282 P = U.1 282 P → V.1 282 Q = U.1 282 Q → V.1 283 P = U.1 283 P → V.1 283 Q = U.1 283 Q → f_183 x y i j n V = if U.1 282 P = 2 then (f_174 (-2) V).bind (fun q => some (q.1, q.2)) else if U.1 282 Q = 2 then (f_174 (-2) V).bind (fun q => some (q.1, q.2)) else if U.1 282 P = 1 ∧ U.1 282 Q = 1 ∧ ¬ U.1 283 P = U.1 283 Q then (f_174 (-2) V).bind (fun q => some (q.1, q.2)) else f_183_84 x y i j n V := by
    intro V v1 v2 v3 v4
    unfold f_183
    rw [if_neg (f177_yes hx), if_neg (f177_yes hy)]
    simp only [if_pos p3, if_pos q3, hP, hQ, v1, v2, v3, v4]
    by_cases c1 : U.1 282 P = 2
    · rw [if_pos c1, if_pos c1]
    rw [if_neg c1, if_neg c1]
    by_cases c2 : U.1 282 Q = 2
    · rw [if_pos c2, if_pos c2]
    rw [if_neg c2, if_neg c2]
    by_cases c3 : U.1 282 P = 1
    · rw [if_pos c3]
      by_cases c4 : U.1 282 Q = 1
      · rw [if_pos c4]
        by_cases c5 : U.1 283 P = U.1 283 Q
        · rw [if_pos c5, if_neg (fun q => q.2.2 c5)]
        · rw [if_neg c5, if_pos ⟨c3, c4, c5⟩]
      · rw [if_neg c4, if_neg (fun q => c4 q.2.1)]
    · rw [if_neg c3, if_neg (fun q => c3 q.1)]
  have hr : ∀ w : Int32, (1 ≤ w.toInt ∧ w.toInt ≤ 7) → f_183 x y i j n (f_157 w U).2 = if U.1 282 P = 2 then (f_174 (-2) (f_157 w U).2).bind (fun q => some (q.1, q.2)) else if U.1 282 Q = 2 then (f_174 (-2) (f_157 w U).2).bind (fun q => some (q.1, q.2)) else if U.1 282 P = 1 ∧ U.1 282 Q = 1 ∧ ¬ U.1 283 P = U.1 283 Q then (f_174 (-2) (f_157 w U).2).bind (fun q => some (q.1, q.2)) else f_183_84 x y i j n (f_157 w U).2 := fun w hw => head _ (r2 _ w hw _ (by decide)) (r2 _ w hw _ (by decide)) (r2 _ w hw _ (by decide)) (r2 _ w hw _ (by decide))
  by_cases cp2 : U.1 282 P = 2
  · refine ref_to h0 (w := 2) (by decide) ?_ (by rw [hr 2 (by decide), if_pos cp2])
    unfold f_115
    rw [p1]; dsimp only; rw [q1]; dsimp only
    rw [f81, sp1, cp2, if_pos rfl, if_neg (by decide)]
  by_cases cq2 : U.1 282 Q = 2
  · refine ref_to h0 (w := 2) (by decide) ?_ (by rw [hr 2 (by decide), if_neg cp2, if_pos cq2])
    unfold f_115
    rw [p1]; dsimp only; rw [q1]; dsimp only
    rw [f81, sp1, if_neg cp2, if_pos rfl, f81, sq1, cq2, if_pos rfl, if_neg (by decide)]
  have cls : ∀ r, (U.1 282 P = 1 ∧ U.1 282 Q = 1 ∧ ¬ U.1 283 P = U.1 283 Q → r = some (f_157 2 U)) → (¬ (U.1 282 P = 1 ∧ U.1 282 Q = 1 ∧ ¬ U.1 283 P = U.1 283 Q) → r = f_115_87 i j n (some (264 + 2 * P)) (some (264 + 2 * Q)) U) → f_115 x y i j n U = r := by
    intro r g1 g2
    unfold f_115
    rw [p1]; dsimp only; rw [q1]; dsimp only
    rw [f81, sp1, if_neg cp2, if_pos rfl, f81, sq1, if_neg cq2, if_pos rfl, f80, sp1, f80, sq1]
    by_cases c3 : U.1 282 P = 1
    · rw [if_pos c3, if_neg (by decide)]
      by_cases c4 : U.1 282 Q = 1
      · rw [if_pos c4, if_neg (by decide)]
        have e1 := (sp3 c3).1
        have e2 := (sq3 c4).1
        rw [e1, e2]
        by_cases c5 : U.1 283 P = U.1 283 Q
        · rw [if_pos c5]; exact (g2 (fun q => q.2.2 c5)).symm
        · rw [if_neg c5]; exact (g1 ⟨c3, c4, c5⟩).symm
      · rw [if_neg c4, if_pos rfl]; exact (g2 (fun q => c4 q.2.1)).symm
    · rw [if_neg c3, if_pos rfl]; exact (g2 (fun q => c3 q.1)).symm
  by_cases cs : U.1 282 P = 1 ∧ U.1 282 Q = 1 ∧ ¬ U.1 283 P = U.1 283 Q
  · exact ref_to h0 (w := 2) (by decide) (cls _ (fun _ => rfl) (fun q => absurd cs q)) (by rw [hr 2 (by decide), if_neg cp2, if_neg cq2, if_pos cs])
  have cls2 : f_115 x y i j n U = f_115_87 i j n (some (264 + 2 * P)) (some (264 + 2 * Q)) U := cls _ (fun q => absurd q cs) (fun _ => rfl)
  have hr2 : ∀ w : Int32, (1 ≤ w.toInt ∧ w.toInt ≤ 7) → f_183 x y i j n (f_157 w U).2 = f_183_84 x y i j n (f_157 w U).2 := fun w hw => by rw [hr w hw, if_neg cp2, if_neg cq2, if_neg cs]
  by_cases ep : U.1 282 P = 0
  · refine ref_to h0 (w := 3) (by decide) ?_ ?_
    · rw [cls2]
      unfold f_115_87
      dsimp only
      rw [f80, sp1, ep, if_pos (by decide)]
    · rw [hr2 3 (by decide)]
      unfold f_183_84
      have e1 : (f_157 3 U).2.1 282 P = U.1 282 P := r2 _ 3 (by decide) _ (by decide)
      simp only [if_pos p3, hP, e1]
      rw [if_pos ep]
  have hp1 : U.1 282 P = 1 := by rcases sp2 with q | q | q; exact absurd q ep; exact q; exact absurd q cp2
  by_cases eq : U.1 282 Q = 0
  · refine ref_to h0 (w := 3) (by decide) ?_ ?_
    · rw [cls2]
      unfold f_115_87
      dsimp only
      rw [f80, sp1, hp1, if_pos rfl, if_neg (by decide), f80, sq1, eq, if_pos (by decide)]
    · rw [hr2 3 (by decide)]
      unfold f_183_84
      have e1 : (f_157 3 U).2.1 282 P = U.1 282 P := r2 _ 3 (by decide) _ (by decide)
      have e2 : (f_157 3 U).2.1 282 Q = U.1 282 Q := r2 _ 3 (by decide) _ (by decide)
      simp only [if_pos p3, if_pos q3, hP, hQ, e1, e2]
      rw [if_neg ep, if_pos eq]
  have hq1 : U.1 282 Q = 1 := by rcases sq2 with q | q | q; exact absurd q eq; exact q; exact absurd q cq2
  obtain ⟨_, sp5, sp6, sp7, sp8⟩ := sp3 hp1
  obtain ⟨_, sq5, sq6, sq7, sq8⟩ := sq3 hq1
  have cls3 : f_115 x y i j n U = if 0 ≤ n then (if f_86 (264 + 2 * P) i n U = 0 then some (f_157 5 U) else if f_86 (264 + 2 * Q) j n U = 0 then some (f_157 5 U) else Option.bind (f_91 (264 + 2 * Q) (264 + 2 * P) i j n U) fun q => some (1, q)) else some (f_157 4 U) := by
    rw [cls2]
    unfold f_115_87
    dsimp only
    rw [f80, sp1, hp1, if_pos rfl, if_neg (by decide), f80, sq1, hq1, if_pos rfl, if_neg (by decide)]
  have mdl : ∀ V : sU, V.1 282 P = U.1 282 P → V.1 282 Q = U.1 282 Q → V.1 283 P = U.1 283 P → V.1 283 Q = U.1 283 Q → V.1 284 P = U.1 284 P → V.1 284 Q = U.1 284 Q → f_183 x y i j n V = if 0 ≤ n then (if i < 0 then (f_174 (-5) V).bind (fun q => some (q.1, q.2)) else if j < 0 then (f_174 (-5) V).bind (fun q => some (q.1, q.2)) else if (U.1 284 P) - n < i then (f_174 (-5) V).bind (fun q => some (q.1, q.2)) else if j ≤ (U.1 284 Q) - n then f_183_167 FU x y i j n 0 V else (f_174 (-5) V).bind (fun q => some (q.1, q.2))) else (f_174 (-4) V).bind (fun q => some (q.1, q.2)) := by
    intro V v1 v2 v3 v4 v5 v6
    rw [head V v1 v2 v3 v4, if_neg cp2, if_neg cq2, if_neg cs]
    unfold f_183_84
    simp only [if_pos p3, if_pos q3, hP, hQ, v1, v2, v5, v6]
    rw [if_neg ep, if_neg eq]
  have mdl2 : ∀ w : Int32, (1 ≤ w.toInt ∧ w.toInt ≤ 7) → f_183 x y i j n (f_157 w U).2 = _ := fun w hw => mdl _ (r2 _ w hw _ (by decide)) (r2 _ w hw _ (by decide)) (r2 _ w hw _ (by decide)) (r2 _ w hw _ (by decide)) (r2 _ w hw _ (by decide)) (r2 _ w hw _ (by decide))
  by_cases hn : 0 ≤ n
  case neg => exact ref_to h0 (w := 4) (by decide) (by rw [cls3, if_neg hn]) (by rw [mdl2 4 (by decide), if_neg hn])
  have hn' := hn
  rw [i32_le, z0] at hn'
  have nl := n.toInt_lt
  have dp : ((U.1 284 P) - n).toInt = (U.1 284 P).toInt - n.toInt := s32 (by omega) (by omega)
  have dq : ((U.1 284 Q) - n).toInt = (U.1 284 Q).toInt - n.toInt := s32 (by omega) (by omega)
  have k1 := f86_iff (a := 264 + 2 * P) (i := i) (n := n) (U := U) (by rw [sp5]; omega) hn'
  have k2 := f86_iff (a := 264 + 2 * Q) (i := j) (n := n) (U := U) (by rw [sq5]; omega) hn'
  rw [sp5] at k1
  rw [sq5] at k2
  by_cases ok : (0 ≤ i.toInt ∧ i.toInt ≤ (U.1 284 P).toInt - n.toInt) ∧ (0 ≤ j.toInt ∧ j.toInt ≤ (U.1 284 Q).toInt - n.toInt)
  case neg =>
    refine ref_to h0 (w := 5) (by decide) ?_ ?_
    · rw [cls3, if_pos hn]
      by_cases o1 : 0 ≤ i.toInt ∧ i.toInt ≤ (U.1 284 P).toInt - n.toInt
      · rw [if_neg (fun q => k1.mp q o1), if_pos (k2.mpr (fun q => ok ⟨o1, q⟩))]
      · rw [if_pos (k1.mpr o1)]
    · rw [mdl2 5 (by decide), if_pos hn]
      by_cases c1 : i < 0
      · rw [if_pos c1]
      rw [if_neg c1]
      by_cases c2 : j < 0
      · rw [if_pos c2]
      rw [if_neg c2]
      by_cases c3 : (U.1 284 P) - n < i
      · rw [if_pos c3]
      rw [if_neg c3, if_neg]
      rw [i32_le, dq]
      rw [i32_lt0] at c1 c2
      rw [i32_lt, dp] at c3
      omega
  obtain ⟨⟨i0, i1⟩, j0, j1⟩ := ok
  have ic : i.toInt = i.toNatClampNeg := by rw [clamp_int]; omega
  have jc : j.toInt = j.toNatClampNeg := by rw [clamp_int]; omega
  have nc : n.toInt = n.toNatClampNeg := by rw [clamp_int]; omega
  generalize hA : i.toNatClampNeg = A at *
  generalize hB : j.toNatClampNeg = B at *
  generalize hNn : n.toNatClampNeg = N at *
  have lnP := ln_sh P p2
  have lnQ := ln_sh Q q2
  have c91 : f_91 (264 + 2 * Q) (264 + 2 * P) i j n U = some (sCpy U (264 + 2 * P + 1) (264 + 2 * Q + 1) A B N) := by
    unfold f_91
    rw [if_neg (fun q => k1.mp q ⟨i0, i1⟩), if_neg (fun q => k2.mp q ⟨j0, j1⟩), if_pos ⟨by rw [i32_lt0]; omega, by rw [i32_lt0]; omega, by rw [i32_lt0]; omega, by rw [hA, hNn, show 264 + 2 * P + 1 = 265 + 2 * P by omega, lnP]; omega, by rw [hB, hNn, show 264 + 2 * Q + 1 = 265 + 2 * Q by omega, lnQ]; omega⟩, hA, hB, hNn]
  obtain ⟨Z, z1, z2, z3, z4⟩ := copy_m (V := sCpy U (264 + 2 * P + 1) (264 + 2 * Q + 1) A B N) p4 q4 ic jc nc p2 q2 (by omega) (by omega)
  refine ⟨1, sCpy U (264 + 2 * P + 1) (264 + 2 * Q + 1) A B N, Z, ?_, ?_, nT, nM, ?_⟩
  · rw [cls3, if_pos hn, if_neg (fun q => k1.mp q ⟨i0, i1⟩), if_neg (fun q => k2.mp q ⟨j0, j1⟩), c91]
    rfl
  · rw [mdl (sCpy U (264 + 2 * P + 1) (264 + 2 * Q + 1) A B N) rfl rfl rfl rfl rfl rfl, if_pos hn, if_neg (by rw [i32_lt0]; omega), if_neg (by rw [i32_lt0]; omega), if_neg (by rw [i32_lt, dp]; omega), if_pos (by rw [i32_le, dq]; omega)]
    exact z1
  · have n286 : ∀ k, (sCpy U (264 + 2 * P + 1) (264 + 2 * Q + 1) A B N).2.1 286 k = U.2.1 286 k := fun k => by unfold sCpy; dsimp only; rw [if_neg (by omega)]
    refine InvN_sh q2 h (fun a b _ _ => by rw [z2]; rfl) ?_ ?_
    · intro t ht htq k hk
      constructor
      · rw [z4 286 _ (by omega) (by omega), n286]
      · rw [z4 _ _ (by omega) (by omega)]
        unfold sCpy
        dsimp only
        rw [if_neg (by omega)]
    · have q := h.2.1 Q q2
      unfold rShelf at q ⊢
      rw [z2]
      rcases q with ⟨_, b2, _⟩ | ⟨a1, a2, o, m, a3, a4, a5, a6, a7, a8, a9⟩ | ⟨_, b2, _⟩
      · exact absurd b2 eq
      · refine Or.inr (Or.inl ⟨a1, a2, o, m, a3, a4, a5, a6, a7, a8, ?_⟩)
        intro k hk
        have cQ : Z.2.1 (265 + 2 * Q) k = va_cpy (U.2.1 (264 + 2 * P + 1)) (U.2.1 (264 + 2 * Q + 1)) A B N k := by
          rw [z4 _ _ (by omega) (by omega)]
          unfold sCpy
          dsimp only
          rw [if_pos (by omega)]
        rw [cQ]
        unfold va_cpy
        by_cases e : B ≤ k ∧ k < B + N
        · rw [if_pos e]
          have := z3 (k - B) (by omega)
          rw [show 64 * Q + B + (k - B) = 64 * Q + k by omega, n286] at this
          rw [this, show 64 * P + A + (k - B) = 64 * P + (A + (k - B)) by omega, sp8 _ (by omega), show 264 + 2 * P + 1 = 265 + 2 * P by omega]
        · rw [if_neg e, z4 286 _ (by omega) (by omega), n286, sq8 k hk, show 264 + 2 * Q + 1 = 265 + 2 * Q by omega]
      · exact absurd b2 cq2
