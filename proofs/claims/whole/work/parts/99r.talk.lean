/-! talk: the call on both sides -/
theorem nat_m1 {e : Nat} (he : e ≤ 64) : ¬ Int32.ofNat e = -1 := by
  intro q
  have := congrArg Int32.toInt q
  rw [ofNat_int (by omega)] at this
  have e1 : (-1 : Int32).toInt = -1 := rfl
  omega
theorem st_talk {U : sU} (h : Inv U) (x : Int32) : Two (f_120 x U) (f_204 x) := by
  by_cases hx : x < 0 ∨ 8 ≤ x
  · exact ref_to h (w := 1) (by decide) (by unfold f_120; rw [rowFlaw_no hx, if_neg (by decide)]) (f204_flaw (by unfold f_189; rw [if_pos (f177_no hx)]) (by decide))
  obtain ⟨e1, e2, e3, e4⟩ := sat_yes hx
  have h0 := h
  obtain ⟨nT, nM, h⟩ := h
  have fl := rowFlaw_eq h hx
  rcases h.2.1 _ e2 with ⟨a1, a2, a3⟩ | ⟨a1, a2, o, n, a3, a4, a5, a6, a7, a8, a9⟩ | ⟨a1, a2, a3, m, _, a4, a5⟩
  · have fl : f_161 x U = 3 := by rw [fl, a2]; rfl
    exact ref_to h0 (w := 3) (by decide) (by unfold f_120; rw [fl, if_neg (by decide)]) (f204_flaw (by unfold f_189; rw [if_neg (f177_yes hx), if_pos e3, f157_1 (by decide) (by decide), a2, if_neg (by decide), if_pos e3, if_pos rfl]) (by decide))
  case inr.inr =>
    have fl : f_161 x U = 2 := by rw [fl, a2]; rfl
    exact ref_to h0 (w := 2) (by decide) (by unfold f_120; rw [fl, if_neg (by decide)]) (f204_flaw (by unfold f_189; rw [if_neg (f177_yes hx), if_pos e3, f157_1 (by decide) (by decide), a2, if_pos rfl]) (by decide))
  have fl : f_161 x U = 0 := by rw [fl, a2]; rfl
  have n8 := h.1.1.2.2.1
  have hx0 : x = Int32.ofNat x.toNatClampNeg := i32_nat (by omega)
  generalize hs : x.toNatClampNeg = s at e1 e2 e4 a1 a2 a5 a6 a7 a8 a9 hx0
  have h189 : ∀ U1 : sU, U1.1 282 s = 1 → f_189 x U1 = some 0 := by
    intro U1 q
    unfold f_189
    have q : U1.1 282 x.toNatClampNeg = 1 := by rw [hs]; exact q
    rw [if_neg (f177_yes hx), if_pos e3, q, if_neg (by decide), if_pos e3, if_neg (by decide)]
  have x64 : 64 * x = Int32.ofNat (64 * s) := by
    have := mul64 (s := x) (i := 0) (n := s) (m := 0) e4 rfl e2 (by omega)
    rw [Int32.add_zero] at this
    apply Int32.toInt_inj.mp
    rw [this, ofNat_int (by omega)]
    omega
  have P : ∀ U1 : sU, U1.2 = U.2 → U1.1 284 s = Int32.ofNat n → zEnd U (zB x U1) s n (f_14 215 (264 + 2 * s) 210 U) (f_203 (zB x U1)) := by
    intro U1 q1 q2
    obtain ⟨z1, z2, z3, z4, z5, z6⟩ := zB_fr x U1
    exact parse ⟨e2, a4, fun j hj => by rw [z1, q1]; exact a9 j hj⟩ a7 (z3.trans x64) z4 (by rw [z5, hs]; exact q2)
  have c120 : f_120 x U = Option.bind (f_14 215 (264 + 2 * s) 210 U) fun q7 => if ((sI q7.2 0 5 q7.1).1 0 5) = ((-1)) then (match ntk 2 (sI q7.2 0 5 q7.1) with
        | none =>
          match f_157 7 (sI q7.2 0 5 q7.1) with
          | (q10, W11) =>
          some (q10, W11)
        | some o9 =>
          Option.bind (f_100 o9 210 (sI q7.2 0 5 q7.1)) fun q12 =>
          some (((sI q12 2 2 ((q12.1 2 2) + 1)).1 2 2) - 1, sI q12 2 2 ((q12.1 2 2) + 1))) else (match f_157 6 (sI q7.2 0 5 q7.1) with
        | (q13, W14) =>
        some (q13, W14)) := by
    unfold f_120
    rw [fl, if_pos rfl, e1]
    rfl
  rcases P U rfl a8 with ⟨S, V, c, m, ⟨b1, b2⟩, _, e, he, b3, _⟩ | ⟨S, V, p, k, c, m, ⟨⟨b1, b2⟩, _⟩, t, k1⟩
  · -- a text that is none
    have cc : ∀ a j, ¬ (210 ≤ a ∧ a < 218) → ¬ (a = 0 ∧ j = 5) → (sI S 0 5 (S.1 215 3)).1 a j = U.1 a j := by
      intro a j q r
      by_cases ea : a = 0
      · subst ea; rw [sI_nj (by omega)]; exact b2 _ _ q
      · rw [sI_ne ea]; exact b2 _ _ q
    have u1 : ∀ a j, ¬ (210 ≤ a ∧ a < 218) → ¬ (a = 0 ∧ j = 5) → a ≠ 209 → (f_157 6 (sI S 0 5 (S.1 215 3))).2.1 a j = U.1 a j := fun a j q r w => (f157_1 (by decide) w).trans (cc a j q r)
    have u2 : (f_157 6 (sI S 0 5 (S.1 215 3))).2.2 = U.2 := by rw [f157_eq (by decide)]; exact b1
    rcases P (f_157 6 (sI S 0 5 (S.1 215 3))).2 u2 (by rw [u1 _ _ (by omega) (by omega) (by omega)]; exact a8) with ⟨S', V', c', m', _, ⟨v1, v2⟩, e', he', b3', b4'⟩ | ⟨S', V', p', k', c', _⟩
    case inr =>
      rw [c] at c'
      injection c' with c'
      injection c' with c' _
      rw [b3] at c'
      exact absurd c' (nat_m1 he)
    rw [c] at c'
    injection c' with c'
    injection c' with _ c'
    subst c'
    obtain ⟨z1, z2, z3, z4, z5, z6⟩ := zB_fr x (f_157 6 (sI S 0 5 (S.1 215 3))).2
    have fin := ref_new (U := U) (Uc := sI S 0 5 (S.1 215 3)) (V := sI V' 280 2 (V'.1 280 30)) (nT := nT) (nM := nM) (w := 6) (by decide) h cc b1 (v1.trans (z1.trans (by rw [f157_eq (by decide)]; rfl))) (fun a j q r w => by
      by_cases ea : a = 280
      · subst ea; rw [sI_nj (by omega), v2 _ _ (by omega) r w]; exact z2 _ _ (by omega)
      · rw [sI_ne ea, v2 _ _ (by omega) r w]; exact z2 _ _ (by omega)) (by rw [sI_at, sI_at, b4', b3'])
    refine ⟨-6, (f_157 6 (sI S 0 5 (S.1 215 3))).2, _, ?_, ?_, nT, nM, fin⟩
    · rw [c120, c, Option.bind_some]
      dsimp only
      rw [sI_at, if_neg (by rw [b3]; exact nat_m1 he), f157_eq (by decide)]
    · rw [f204_bad (h189 _ (by rw [u1 _ _ (by omega) (by omega) (by omega)]; exact a2)) e3 m', f174_eq (by decide)]
      rfl
  · have cc : ∀ a j, ¬ (210 ≤ a ∧ a < 218) → ¬ (a = 0 ∧ j = 5) → (sI S 0 5 (-1)).1 a j = U.1 a j := by
      intro a j q r
      by_cases ea : a = 0
      · subst ea; rw [sI_nj (by omega)]; exact b2 _ _ q
      · rw [sI_ne ea]; exact b2 _ _ q
    have l8 : ln (2 + 1) = 8 := ln_all2.1.1
    have e22 : (sI S 0 5 (-1)).1 2 2 = Int32.ofNat nT := (cc 2 2 (by omega) (by omega)).trans h.1.1.1
    have hm : ∀ U1 : sU, U1.2 = U.2 → U1.1 284 s = Int32.ofNat n → ∃ V' k', f_203 (zB x U1) = some (1, V') ∧ Mf (zB x U1) V' ∧ Jt S V' k' ∧ 1 ≤ k' := by
      intro U1 q1 q2
      rcases P U1 q1 q2 with ⟨S', V', c', m', _, _, e', he', b3', b4'⟩ | ⟨S', V', p', k', c', m', ⟨_, j', _⟩, t', k1'⟩
      · rw [c] at c'
        injection c' with c'
        injection c' with c' _
        rw [b3'] at c'
        exact absurd c'.symm (nat_m1 he')
      · rw [c] at c'
        injection c' with c'
        injection c' with _ c'
        subst c'
        exact ⟨V', k', m', j', t', k1'⟩
    by_cases full : nT = 8
    · -- no room
      have u1 : ∀ a j, ¬ (210 ≤ a ∧ a < 218) → ¬ (a = 0 ∧ j = 5) → a ≠ 209 → (f_157 7 (sI S 0 5 (-1))).2.1 a j = U.1 a j := fun a j q r w => (f157_1 (by decide) w).trans (cc a j q r)
      have u2 : (f_157 7 (sI S 0 5 (-1))).2.2 = U.2 := by rw [f157_eq (by decide)]; exact b1
      obtain ⟨V', k', m', ⟨v1, v2⟩, t', _⟩ := hm (f_157 7 (sI S 0 5 (-1))).2 u2 (by rw [u1 _ _ (by omega) (by omega) (by omega)]; exact a8)
      obtain ⟨z1, z2, z3, z4, z5, z6⟩ := zB_fr x (f_157 7 (sI S 0 5 (-1))).2
      have nk : ntk 2 (sI S 0 5 (-1)) = none := by
        unfold ntk
        rw [e22, l8, full, if_neg (by decide)]
      have fin := ref_new (U := U) (Uc := sI S 0 5 (-1)) (V := V') (nT := nT) (nM := nM) (w := 7) (by decide) h cc b1 (v1.trans (z1.trans (by rw [f157_eq (by decide)]; rfl))) (fun a j q r w => by
        rw [v2 _ _ (by omega) r w]; exact z2 _ _ (by omega)) (by rw [v2 _ _ (by omega) (by omega) (by omega), z6, sI_at])
      refine ⟨-7, (f_157 7 (sI S 0 5 (-1))).2, _, ?_, ?_, nT, nM, fin⟩
      · rw [c120, c, Option.bind_some]
        dsimp only
        rw [sI_at, if_pos rfl, nk]
        dsimp only
        rw [f157_eq (by decide)]
      · rw [f204_full (h189 _ (by rw [u1 _ _ (by omega) (by omega) (by omega)]; exact a2)) e3 m' (by rw [v2 _ _ (by omega) (by omega) (by omega), z2 _ _ (by omega), u1 _ _ (by omega) (by omega) (by omega), h.1.2.1, full]; rfl), f174_eq (by decide)]
        rfl
    · -- a new talk
      have h8 : nT < 8 := by omega
      obtain ⟨l1, l2⟩ := ln_all2.2.1 nT h8
      have nk : ntk 2 (sI S 0 5 (-1)) = some (2 + 3 + 5 * nT) := by
        unfold ntk
        rw [e22, l8, if_pos (ib_ofNat (by omega) h8), ofNat_clamp (by omega)]
      obtain ⟨W, w0, w1, w2, w3, w4, w5⟩ := tcopy (a := 2 + 3 + 5 * nT) (x := 210) (U := sI S 0 5 (-1)) (by omega) l1 l2 ln_212.1 ln_212.2 (by rw [sI_ne (by omega)]; exact t.2.2.2.2.2.2.2.2.2.1.2)
      have uf : ∀ a j, ¬ (210 ≤ a ∧ a < 218) → ¬ (a = 0 ∧ j = 5) → a ≠ 5 + 5 * nT → a ≠ 7 + 5 * nT → a ≠ 9 + 5 * nT → ¬ (a = 2 ∧ j = 2) → (sI W 2 2 (W.1 2 2 + 1)).1 a j = U.1 a j := by
        intro a j q r q1 q2 q3 q4
        have : (sI W 2 2 (W.1 2 2 + 1)).1 a j = W.1 a j := by
          by_cases ea : a = 2
          · subst ea; exact sI_nj (by omega)
          · exact sI_ne ea
        rw [this, w5 a j (by omega) (by omega) (by omega)]
        exact cc a j q r
      have w22 : W.1 2 2 = Int32.ofNat nT := (w5 2 2 (by omega) (by omega) (by omega)).trans e22
      have ul : (sI W 2 2 (W.1 2 2 + 1)).2 = U.2 := w1.trans b1
      obtain ⟨V', k', m', ⟨v1, v2⟩, t', k1'⟩ := hm (sI W 2 2 (W.1 2 2 + 1)) ul (by rw [uf _ _ (by omega) (by omega) (by omega) (by omega) (by omega) (by omega)]; exact a8)
      obtain ⟨z1, z2, z3, z4, z5, z6⟩ := zB_fr x (sI W 2 2 (W.1 2 2 + 1))
      obtain ⟨y1, y2, y3, y4⟩ := zS_fr V' nT
      obtain ⟨t1, t2, t3, t4, t5, ⟨f3, g3⟩, ⟨f4, g4⟩, ⟨f5, g5⟩, ⟨f6, g6⟩, ⟨f7, g7⟩, ⟨f8, g8⟩, ⟨f9, g9⟩⟩ := t'
      obtain ⟨F, x0, x1, x2, x3⟩ := put_new (V := zS V' nT) (t := nT) (n := k') h8 t3 (by rw [y2 _ _ (by omega) (by omega)]; exact t2)
      have ff : ∀ a j, ¬ (a = 280 ∧ (j = 0 ∨ j = 2 ∨ 25 ≤ j ∧ j < 39)) → ¬ (288 ≤ a ∧ a < 296 ∧ j = nT) → a ≠ 303 → a ≠ 304 → ¬ ((a = 296 ∨ a = 297) ∧ 12 * nT ≤ j ∧ j < 12 * nT + 12) → F.1 a j = (sI W 2 2 (W.1 2 2 + 1)).1 a j := by
        intro a j q1 q2 q3 q4 q5
        rw [x3 a j q5, y2 a j (by omega) q2, v2 a j (by omega) q3 q4]
        exact z2 a j (by omega)
      have A : ∀ f, f < 8 → F.1 (5 + 5 * nT) (2 + f) = S.1 210 (2 + f) := by
        intro f hf
        rw [ff _ _ (by omega) (by omega) (by omega) (by omega) (by omega), sI_ne (by omega), show 5 + 5 * nT = 2 + 3 + 5 * nT by omega, w2 _ (by omega) (by omega), sI_ne (by omega)]
      have B : ∀ i, i < 12 → F.1 (7 + 5 * nT) i = S.1 212 i := by
        intro i hi
        rw [ff _ _ (by omega) (by omega) (by omega) (by omega) (by omega), sI_ne (by omega), show 7 + 5 * nT = 2 + 3 + 5 * nT + 2 by omega, w3 _ hi, sI_ne (by omega)]
      have C : ∀ i, i < 12 → F.1 (9 + 5 * nT) i = S.1 214 i := by
        intro i hi
        rw [ff _ _ (by omega) (by omega) (by omega) (by omega) (by omega), sI_ne (by omega), show 9 + 5 * nT = 2 + 3 + 5 * nT + 4 by omega, w4 _ hi, sI_ne (by omega)]
      have D : ∀ f, f < 8 → F.1 (288 + f) nT = S.1 210 (2 + f) := by
        intro f hf
        rw [x3 _ _ (by omega), y4 f hf]
        obtain rfl | rfl | rfl | rfl | rfl | rfl | rfl | rfl : f = 0 ∨ f = 1 ∨ f = 2 ∨ f = 3 ∨ f = 4 ∨ f = 5 ∨ f = 6 ∨ f = 7 := by omega
        · exact t2.trans t1.symm
        · exact f3
        · exact f4
        · exact f5
        · exact f6
        · exact f7
        · exact f8
        · exact f9
      have base : rTalk (fun f => S.1 210 (2 + f)) (S.1 212) (S.1 214) (fun f => F.1 (288 + f) nT) (fun i => F.1 296 (12 * nT + i)) (fun i => F.1 297 (12 * nT + i)) := by
        refine ⟨k', ⟨t1, k1', t3, g3, g4, g5, g6, g7, g8, g9, fun i hi => ?_, t5⟩, D, fun i hi => ?_⟩
        · obtain ⟨_, _, r⟩ := t4 i hi
          exact r
        · obtain ⟨r1, r2, _⟩ := t4 i hi
          obtain ⟨s1, s2⟩ := x2 i hi
          exact ⟨by dsimp only; rw [s1, y2 _ _ (by omega) (by omega), r1], by dsimp only; rw [s2, y2 _ _ (by omega) (by omega), r2]⟩
      have u22 : (sI W 2 2 (W.1 2 2 + 1)).1 2 2 = Int32.ofNat (nT + 1) := by rw [sI_at, w22, ofNat_succ]
      refine ⟨Int32.ofNat nT, sI W 2 2 (W.1 2 2 + 1), F, ?_, ?_, nT + 1, nM, InvN_new h h8 (fun a j q => ?_) ?_ ?_ ?_ ?_ ?_⟩
      · rw [c120, c, Option.bind_some]
        dsimp only
        rw [sI_at, if_pos rfl, nk]
        dsimp only
        rw [w0, Option.bind_some, u22, ← ofNat_succ, Int32.add_sub_cancel]
      · rw [f204_new (h189 _ (by rw [uf _ _ (by omega) (by omega) (by omega) (by omega) (by omega) (by omega)]; exact a2)) e3 m' (t := nT) (by rw [v2 _ _ (by omega) (by omega) (by omega), z2 _ _ (by omega), uf _ _ (by omega) (by omega) (by omega) (by omega) (by omega) (by omega)]; exact h.1.2.1) h8]
        exact x0
      · rw [ff a j (by omega) (by omega) (by omega) (by omega) (by omega)]
        exact uf a j (by omega) (by omega) (by omega) (by omega) (by omega) (by omega)
      · rw [x1, y1, v1, z1, ul]
      · rw [x3 _ _ (by omega), y2 _ _ (by omega) (by omega), v2 _ _ (by omega) (by omega) (by omega), z6, ff 0 5 (by omega) (by omega) (by omega) (by omega) (by omega), sI_ne (by omega), w5 _ _ (by omega) (by omega) (by omega), sI_at]
      · rw [ff 2 2 (by omega) (by omega) (by omega) (by omega) (by omega)]; exact u22
      · rw [x3 _ _ (by omega)]; exact y3
      · exact rTalk_congr A B C (fun _ _ => rfl) (fun _ _ => rfl) (fun _ _ => rfl) base
