/-! meaning: the two sides together -/
def Lk (U V : sU) : Prop := (∀ a j, 280 ≤ a → V.1 a j = U.1 a j) ∧ V.2 = U.2
theorem f157_2 {U : sU} {w : Int32} (hw : 1 ≤ w.toInt ∧ w.toInt ≤ 7) : Lk U (f_157 w U).2 := ⟨fun a j ha => f157_1 hw (by omega), by rw [f157_eq hw]; rfl⟩
/-- one call on both sides, from the store that the class left -/
def Twl (U : sU) (c : Option (Int32 × sU)) (g : sU → Option (Int32 × sU)) : Prop := ∃ r U1 V, c = some (r, U1) ∧ Lk U U1 ∧ g U1 = some (r, V) ∧ Inv V
theorem mean_end {U B : sU} {nT nM t n s c : Nat} {x k y more v6 cl : Int32} {row : Bool} (h : InvN nT nM U) (hM : nM < 12) (ht : t < nT) (hx : x = Int32.ofNat t) (hn : U.1 (5 + 5 * t) 2 = Int32.ofNat n) (hn12 : n ≤ 12) (hk : 0 ≤ k.toInt ∧ k.toInt ≤ 5) (hk2 : k = 2 → cl = more ∧ 0 ≤ more.toInt ∧ more.toInt ≤ 100) (hv6 : v6 = if row then 1 else 0) (hy : row = true → y.toInt = s ∧ s < 8) (e286 : row = true → ∀ i, i < 64 → U.2.1 286 (64 * s + i) = U.2.1 (265 + 2 * s) i) (hk1 : row = false → k = 1 → more = Int32.ofNat c ∧ c < 2048)
    (hw : ∀ i, i < n → 0 ≤ (mWd U k row s c i).toInt ∧ (mWd U k row s c i).toInt < (U.1 (5 + 5 * t) 5).toInt)
    (b2 : ∀ i, i < 12 → B.1 (49 + 5 * nM) i = 0) (b3 : B.1 (45 + 5 * nM) 2 = k) (b4 : B.1 (45 + 5 * nM) 3 = x) (b5 : B.1 (45 + 5 * nM) 4 = cl) (b6 : ∀ a j, a ≠ 45 + 5 * nM → a ≠ 47 + 5 * nM → a ≠ 49 + 5 * nM → B.1 a j = U.1 a j) (b7 : B.2 = U.2) (b1 : ∀ i, i < n → B.1 (47 + 5 * nM) i = mWd U k row s c i) :
    ∃ V, f_215_282 x k y more v6 (Int32.ofNat n) (sI B 2 3 (B.1 2 3 + 1)) = some ((sI B 2 3 (B.1 2 3 + 1)).1 2 3 - 1, V) ∧ Inv V := by
  have c3 : B.1 2 3 = Int32.ofNat nM := (b6 2 3 (by omega) (by omega) (by omega)).trans h.1.1.2.1
  have c1 : U.1 280 1 = Int32.ofNat nM := h.1.2.2
  obtain ⟨Z, z1, z2, z3, z4, z5, z6, z7, z8, z9⟩ := made_m (U := U) (V := sI B 2 3 (B.1 2 3 + 1)) (nM := nM) (s := s) (n := n) (c := c) (x := x) (k := k) (y := y) (more := more) (v5 := v6) (row := row) hv6 hM hn12 (by rw [sI_ne (by omega), b6 _ _ (by omega) (by omega) (by omega)]; exact c1) hy (fun hr i hi => by rw [sI_2, b7]; exact e286 hr i hi) hk1
  refine ⟨Z, ?_, nT, nM + 1, ?_⟩
  · rw [z1, sI_at, c3]
    refine congrArg some (Prod.ext ?_ rfl)
    apply Int32.toInt_inj.mp
    have e1 : (1 : Int32).toInt = 1 := rfl
    rw [ofNat_succ, s32 (by rw [ofNat_int (by omega), e1]; omega) (by rw [ofNat_int (by omega), e1]; omega), ofNat_int (by omega), ofNat_int (by omega), e1]
    omega
  · have zz : ∀ a j, a ≠ 280 → ¬ (298 ≤ a ∧ a ≤ 302) → ¬ (a = 2 ∧ j = 3) → Z.1 a j = B.1 a j := by
      intro a j h1 h2 h3
      rw [z9 a j (by omega) (by omega) (by omega)]
      by_cases e : a = 2
      · subst e; rw [sI_nj (fun q => h3 ⟨rfl, q⟩)]
      · rw [sI_ne e]
    refine InvN_mg (n := n) h hM ht hn hn12 ?_ ?_ ?_ z3 ?_ ?_ ?_ ?_ ?_ ?_ ?_
    · intro a j h1 h2 h3 h4 h5 h6 h7
      rw [z9 a j h5 h6 h7]
      by_cases e : a = 2
      · subst e; rw [sI_nj (fun q => h4 ⟨rfl, q⟩)]; exact b6 _ _ h1 h2 h3
      · rw [sI_ne e]; exact b6 _ _ h1 h2 h3
    · rw [z2, sI_2, b7]
    · rw [z9 2 3 (by omega) (by omega) (by omega), sI_at, c3, ofNat_succ]
    · rw [z5, zz _ _ (by omega) (by omega) (by omega), b3]
    · rw [z4, zz _ _ (by omega) (by omega) (by omega), b4]
    · rw [zz _ _ (by omega) (by omega) (by omega), b3]; exact hk
    · rw [zz (45 + 5 * nM) 2 (by omega) (by omega) (by omega), b3, zz (45 + 5 * nM) 4 (by omega) (by omega) (by omega), b5]
      intro e
      obtain ⟨g1, g2⟩ := hk2 e
      rw [z6, if_pos e, g1]
      exact ⟨rfl, g2⟩
    · rw [zz _ _ (by omega) (by omega) (by omega), b4]; exact hx
    · intro i hi
      rw [zz (47 + 5 * nM) i (by omega) (by omega) (by omega), b1 i hi]
      exact ⟨z7 i hi, hw i hi⟩
    · intro i hi
      rw [zz (49 + 5 * nM) i (by omega) (by omega) (by omega), b2 i hi]
      exact ⟨z8 i hi, rfl⟩
theorem mean_fin {U : sU} {nT nM t n s c : Nat} {x k y more v6 cuts : Int32} {row : Bool} (h : InvN nT nM U) (ht : t < nT) (hx : x = Int32.ofNat t) (hn : U.1 (5 + 5 * t) 2 = Int32.ofNat n) (hn1 : 1 ≤ n) (hn12 : n ≤ 12) (hk : 0 ≤ k.toInt ∧ k.toInt ≤ 5) (hk2 : k = 2 → 0 ≤ more.toInt ∧ more.toInt ≤ 100) (hv6 : v6 = if row then 1 else 0) (hy : row = true → y.toInt = s ∧ s < 8 ∧ sat y = some (264 + 2 * s) ∧ ∃ q, U.1 (264 + 2 * s) 3 = Int32.ofNat q ∧ q ≤ 64 ∧ n ≤ q) (e286 : row = true → ∀ i, i < 64 → U.2.1 286 (64 * s + i) = U.2.1 (265 + 2 * s) i) (hc : row = false → cuts = Int32.ofNat c ∧ c < 2048 ∧ (k = 1 → more = Int32.ofNat c) ∧ ∀ i, i < n → mWd U k row s c i = Int32.ofNat (zW c i))
    (hw : ∀ i, i < n → 0 ≤ (mWd U k row s c i).toInt ∧ (mWd U k row s c i).toInt < (U.1 (5 + 5 * t) 5).toInt) : Twl U (f_127_128 x k y more (some (5 + 5 * t)) v6 cuts 0 U) (f_215_282 x k y more v6 (Int32.ofNat n)) := by
  have c3 : U.1 2 3 = Int32.ofNat nM := h.1.1.2.1
  have c1 : U.1 280 1 = Int32.ofNat nM := h.1.2.2
  have l8 := h.1.1.2.2.1
  have l12 : nM ≤ 12 := h.1.1.2.2.2.1
  have ln4 : ln (2 + 2) = 12 := ln_4
  by_cases hM : nM = 12
  · subst hM
    obtain ⟨V, h1, h2⟩ := ref_step (w := 7) (by decide) h
    refine ⟨-7, (f_157 7 U).2, V, ?_, f157_2 (by decide), ?_, _, _, h2⟩
    · have e : nmg 2 U = none := by unfold nmg; rw [c3, ln4, if_neg (by decide)]
      unfold f_127_128
      rw [if_pos rfl, e]
      dsimp only
      unfold f_127_151
      rw [if_neg (by decide)]
      exact congrArg some (f157_eq (w := 7) (U := U) (by decide) ▸ rfl)
    · have e : (f_157 7 U).2.1 280 1 = 12 := (f157_1 (by decide) (by decide)).trans c1
      unfold f_215_282
      rw [if_pos e, h1]
      rfl
  have hM : nM < 12 := by omega
  have e : nmg 2 U = some (45 + 5 * nM) := by
    unfold nmg
    rw [c3, ln4, if_pos (ib_ofNat (by omega) hM), ofNat_clamp (by omega)]
  -- the clearness
  obtain ⟨cl, hcl, hcls⟩ : ∃ cl : Int32, (k = 2 → cl = more) ∧ f_127_128 x k y more (some (5 + 5 * t)) v6 cuts 0 U = f_127_184 y (some (5 + 5 * t)) v6 cuts (some (45 + 5 * nM)) (some (45 + 5 * nM)) x k cl U := by
    unfold f_127_128
    rw [if_pos rfl, e]
    dsimp only
    unfold f_127_151
    rw [if_pos rfl]
    dsimp only
    by_cases e2 : k = 2
    · exact ⟨more, fun _ => rfl, by rw [if_pos e2]⟩
    · exact ⟨100, fun q => absurd q e2, by rw [if_neg e2]⟩
  rw [hcls]
  unfold f_127_184
  dsimp only
  obtain ⟨a1, a2, a3, a4, a5, a6, a7⟩ := begin_c (U := U) (x := x) (k := k) (cl := cl) hM
  generalize f_30 (45 + 5 * nM) x k cl U = B at a1 a2 a3 a4 a5 a6 a7 ⊢
  have bn : B.1 (5 + 5 * t) 2 = Int32.ofNat n := (a6 _ _ (by omega) (by omega) (by omega)).trans hn
  have fin : ∀ V : sU, V.2 = B.2 → (∀ i, i < n → V.1 (47 + 5 * nM) i = mWd U k row s c i) → (∀ a j, a ≠ 47 + 5 * nM → V.1 a j = B.1 a j) → Twl U (some ((sI V 2 3 (V.1 2 3 + 1)).1 2 3 - 1, sI V 2 3 (V.1 2 3 + 1))) (f_215_282 x k y more v6 (Int32.ofNat n)) := by
    intro V v1 v2 v3
    obtain ⟨Z, z1, z2⟩ := mean_end (B := V) h hM ht hx hn hn12 hk (cl := cl) (fun q => ⟨hcl q, hk2 q⟩) hv6 (fun q => ⟨(hy q).1, (hy q).2.1⟩) e286 (fun q r => ⟨(hc q).2.2.1 r, (hc q).2.1⟩) hw (fun i hi => by rw [v3 _ _ (by omega)]; exact a2 i hi) (by rw [v3 _ _ (by omega)]; exact a3) (by rw [v3 _ _ (by omega)]; exact a4) (by rw [v3 _ _ (by omega)]; exact a5) (fun a j h1 h2 h3 => by rw [v3 _ _ h2]; exact a6 a j h1 h2 h3) (v1.trans a7) v2
    refine ⟨_, _, Z, rfl, ⟨fun a j ha => ?_, ?_⟩, z1, z2⟩
    · rw [sI_ne (by omega), v3 _ _ (by omega)]; exact a6 a j (by omega) (by omega) (by omega)
    · rw [sI_2, v1]; exact a7
  cases hr : row with
  | true =>
    obtain ⟨y1, y2, y3, q, q1, q2, q3⟩ := hy hr
    obtain ⟨V, g1, g2, g3, g4⟩ := row_c (U := B) (m := nM) (s := s) (n := n) (q := q) hM y2 (by rw [a6 _ _ (by omega) (by omega) (by omega)]; exact q1) q2 q3 hn12
    have n0 : ¬ v6 = 0 := by rw [hv6, hr]; decide
    rw [if_neg n0, y3]
    dsimp only
    rw [bn, g1, Option.bind_some]
    refine fin V g2 (fun i hi => ?_) g4
    rw [g3 i hi]
    unfold mWd rW
    rw [hr, if_pos rfl, a7]
  | false =>
    obtain ⟨d1, d2, d3, d4⟩ := hc hr
    obtain ⟨V, g1, g2, g3, g4⟩ := cuts_c (U := B) (m := nM) (c := c) (n := n) hM d2 hn1 hn12 (a1 0 (by omega))
    have n0 : v6 = 0 := by rw [hv6, hr]; rfl
    rw [if_pos n0, bn, d1, g1, Option.bind_some]
    exact fin V g2 (fun i hi => by rw [g3 i hi, d4 i hi]) g4
