/-! the best ends; leave -/
theorem f261_eq {y : Int32} {U V : sU} : f_261 y U = f_172 y.toInt64 0 999 V := by
  rw [within_eq]
  rfl
theorem sub_k {a b : Nat} (h : b ≤ a) (ha : a < 1000) : Int32.ofNat a - Int32.ofNat b = Int32.ofNat (a - b) := by
  apply Int32.toInt_inj.mp
  rw [s32 (by rw [ofNat_int (by omega), ofNat_int (by omega)]; omega) (by rw [ofNat_int (by omega), ofNat_int (by omega)]; omega), ofNat_int (by omega), ofNat_int (by omega), ofNat_int (by omega)]
  omega
theorem liked_m {U : sU} {t n : Nat} (hM : MT U t n) {x : Int32} (hx : x.toInt = t) {i : Nat} (hi : i < 2 * n) : f_262 x (Int32.ofNat i) U = some (f_108 (5 + 5 * t) (Int32.ofNat i) U) := by
  have t8 := hM.1
  have hT := hM.2.1
  have n12 := hT.2.2.1
  have t9 := hT.2.2.2.2.2.2.2.2.1
  have ex : x.toNatClampNeg = t := by rw [clamp_int]; omega
  have i8 : ib x 8 := ib_int.mpr (by omega)
  have e12 : (12 : Int32).toInt = 12 := rfl
  have m1 : (12 * x).toInt = 12 * t := by rw [m32 (by rw [e12, hx]; omega) (by rw [e12, hx]; omega), e12, hx]
  have m2 : (12 * x + Int32.ofNat i).toInt = 12 * t + i := by rw [a32 (by rw [m1, ofNat_int (by omega)]; omega) (by rw [m1, ofNat_int (by omega)]; omega), m1, ofNat_int (by omega)]
  unfold f_262 f_108
  simp only [if_pos i8, ex, hM.2.2.1, hT.1, hM.2.2.2.2.1.1, hM.2.2.2.1.1]
  by_cases hn : n ≤ i
  · have m3 : (12 * x + Int32.ofNat i - Int32.ofNat n).toInt = 12 * t + (i - n : Nat) := by
      rw [s32 (by rw [m2, ofNat_int (by omega)]; omega) (by rw [m2, ofNat_int (by omega)]; omega), m2, ofNat_int (by omega)]
      omega
    have c3 : (12 * x + Int32.ofNat i - Int32.ofNat n).toNatClampNeg = 12 * t + (i - n) := by rw [clamp_int, m3]; omega
    have le : Int32.ofNat n ≤ Int32.ofNat i := (ofNat_le (by omega) (by omega)).mpr hn
    rw [if_pos le, if_pos le, if_pos (ib_int.mpr (by omega)), c3, sub_k hn (by omega), iget_k t9 (by omega), (hM.2.2.2.2.2.2.2.2.2.2 (i - n) (by omega)).1, f261_eq (V := U)]
  · have c2 : (12 * x + Int32.ofNat i).toNatClampNeg = 12 * t + i := by rw [clamp_int, m2]; omega
    have le : ¬ Int32.ofNat n ≤ Int32.ofNat i := fun q => hn ((ofNat_le (by omega) (by omega)).mp q)
    rw [if_neg le, if_neg le, if_pos (ib_int.mpr (by omega)), c2, iget_k t9 (by omega), (hM.2.2.2.2.2.2.2.2.2.2 i (by omega)).1, f261_eq (V := U)]
theorem two_n {n : Nat} (h : n ≤ 12) : (2 : Int32) * Int32.ofNat n = Int32.ofNat (2 * n) := (by decide : ∀ n, n < 13 → (2 : Int32) * Int32.ofNat n = Int32.ofNat (2 * n)) n (by omega)
theorem pair_in {U : sU} {t n : Nat} (hM : MT U t n) {x : Int32} (hx : x.toInt = t) (hE : ∀ a b, ∃ r, f_107 (5 + 5 * t) a b U = some r ∧ f_259 x a b U = some r) {i : Nat} (hi : i < 2 * n) (kc : Nat → Int32 → Int64 → Int32 → sU → Option Int32) (km : Int32 → Int32 → Int64 → Int32 → Int32 → sU → Option Int32) (hk : ∀ b l, km x b l (Int32.ofNat (2 * n)) (Int32.ofNat (i + 1)) U = kc (5 + 5 * t) b l (Int32.ofNat (i + 1)) U) : ∀ m j b l, j ≤ 2 * n → f_263_27 km m x b l (Int32.ofNat (2 * n)) (Int32.ofNat i) (Int32.ofNat j) U = f_109_21 kc m (5 + 5 * t) b l (Int32.ofNat i) (Int32.ofNat j) U := by
  have hT := hM.2.1
  have n12 := hT.2.2.1
  intro m
  induction m with
  | zero => intro j b l _; rfl
  | succ m ih =>
    intro j b l hj
    rw [f_263_27, f_109_21, hT.1, two_n n12]
    by_cases hjn : j = 2 * n
    · rw [if_pos ((ofNat_le (by omega) (by omega)).mpr (by omega)), if_pos ((ofNat_le (by omega) (by omega)).mpr (by omega)), ofNat_succ]
      exact hk b l
    · have nle : ¬ Int32.ofNat (2 * n) ≤ Int32.ofNat j := fun q => by have := (ofNat_le (by omega) (by omega)).mp q; omega
      rw [if_neg nle, if_neg nle, liked_m hM hx hi, Option.bind_some, liked_m hM hx (by omega : j < 2 * n), Option.bind_some, ofNat_succ]
      by_cases c1 : f_108 (5 + 5 * t) (Int32.ofNat j) U < f_108 (5 + 5 * t) (Int32.ofNat i) U
      · have c1' : ¬ f_108 (5 + 5 * t) (Int32.ofNat i) U ≤ f_108 (5 + 5 * t) (Int32.ofNat j) U := by rw [i32_le]; rw [i32_lt] at c1; omega
        rw [if_pos c1, if_neg c1']
        exact ih (j + 1) b l (by omega)
      · have c1' : f_108 (5 + 5 * t) (Int32.ofNat i) U ≤ f_108 (5 + 5 * t) (Int32.ofNat j) U := by rw [i32_le]; rw [i32_lt] at c1; omega
        obtain ⟨r, r1, r2⟩ := hE (f_108 (5 + 5 * t) (Int32.ofNat i) U) (f_108 (5 + 5 * t) (Int32.ofNat j) U)
        rw [if_neg c1, if_pos c1', r1, r2, Option.bind_some, Option.bind_some]
        simp only [ih (j + 1) _ _ (by omega : j + 1 ≤ 2 * n)]
theorem pair_out {U : sU} {t n : Nat} (hM : MT U t n) {x : Int32} (hx : x.toInt = t) (hE : ∀ a b, ∃ r, f_107 (5 + 5 * t) a b U = some r ∧ f_259 x a b U = some r) : ∀ m i b l, i ≤ 2 * n → f_263_17 m x b l (Int32.ofNat (2 * n)) (Int32.ofNat i) U = f_109_7 m (5 + 5 * t) b l (Int32.ofNat i) U := by
  have hT := hM.2.1
  have n12 := hT.2.2.1
  intro m
  induction m with
  | zero => intro i b l _; rfl
  | succ m ih =>
    intro i b l hi
    rw [f_263_17, f_109_7, hT.1, two_n n12]
    by_cases hin : i = 2 * n
    · rw [if_pos ((ofNat_le (by omega) (by omega)).mpr (by omega)), if_pos ((ofNat_le (by omega) (by omega)).mpr (by omega))]
    · have nle : ¬ Int32.ofNat (2 * n) ≤ Int32.ofNat i := fun q => by have := (ofNat_le (by omega) (by omega)).mp q; omega
      rw [if_neg nle, if_neg nle]
      exact pair_in hM hx hE (by omega) _ _ (fun b l => ih (i + 1) b l (by omega)) FU 0 b l (by omega)
/-- it ends -/
theorem pair_ends {U : sU} {t n : Nat} (hM : MT U t n) (hE : ∀ a b, ∃ r, f_107 (5 + 5 * t) a b U = some r) : ∃ r, f_109 (5 + 5 * t) U = some r := by
  have hT := hM.2.1
  have n12 := hT.2.2.1
  unfold f_109
  refine loop_ex (fun m (s : Int32 × Int64 × Int32) => f_109_7 m (5 + 5 * t) s.1 s.2.1 s.2.2 U) (fun i s => s.2.2 = Int32.ofNat i) (fun o => ∃ r, o = some r) (2 * n) ?_ ?_ (2 * n) 0 FU (-1, 0, 0) (by omega) (by unfold FU; omega) rfl
  · rintro i ⟨b, l, c⟩ m hi rfl
    refine Or.inr ?_
    dsimp only
    have nle : ¬ Int32.ofNat (2 * n) ≤ Int32.ofNat i := fun q => by have := (ofNat_le (by omega) (by omega)).mp q; omega
    rw [f_109_7, hT.1, two_n n12, if_neg nle]
    refine loop_ex (fun m' (s : Int32 × Int64 × Int32) => f_109_21 (fun a v1 v2 v4 U => f_109_7 m a v1 v2 v4 U) m' (5 + 5 * t) s.1 s.2.1 (Int32.ofNat i) s.2.2 U) (fun j s => s.2.2 = Int32.ofNat j) (fun o => ∃ s' : Int32 × Int64 × Int32, s'.2.2 = Int32.ofNat (i + 1) ∧ o = f_109_7 m (5 + 5 * t) s'.1 s'.2.1 s'.2.2 U) (2 * n) ?_ ?_ (2 * n) 0 FU (b, l, 0) (by omega) (by unfold FU; omega) rfl
    · rintro j ⟨b, l, c⟩ m' hj rfl
      refine Or.inr ?_
      dsimp only
      have nle : ¬ Int32.ofNat (2 * n) ≤ Int32.ofNat j := fun q => by have := (ofNat_le (by omega) (by omega)).mp q; omega
      obtain ⟨r, r1⟩ := hE (f_108 (5 + 5 * t) (Int32.ofNat i) U) (f_108 (5 + 5 * t) (Int32.ofNat j) U)
      rw [f_109_21, hT.1, two_n n12, if_neg nle, r1, Option.bind_some, ofNat_succ]
      have g : ∀ (b' : Int32) (l' : Int64), ∃ s' : Int32 × Int64 × Int32, s'.2.2 = Int32.ofNat (j + 1) ∧ f_109_21 (fun a v1 v2 v4 U => f_109_7 m a v1 v2 v4 U) m' (5 + 5 * t) b' l' (Int32.ofNat i) (Int32.ofNat (j + 1)) U = f_109_21 (fun a v1 v2 v4 U => f_109_7 m a v1 v2 v4 U) m' (5 + 5 * t) s'.1 s'.2.1 (Int32.ofNat i) s'.2.2 U := fun b' l' => ⟨(b', l', Int32.ofNat (j + 1)), rfl, rfl⟩
      split
      · exact g _ _
      · split
        · exact g _ _
        · split
          · exact g _ _
          · split
            · split
              · exact g _ _
              · exact g _ _
            · exact g _ _
    · rintro ⟨b, l, c⟩ m' rfl
      dsimp only
      rw [f_109_21, hT.1, two_n n12, if_pos ((ofNat_le (by omega) (by omega)).mpr (by omega)), ofNat_succ]
      exact ⟨(b, l, Int32.ofNat (i + 1)), rfl, rfl⟩
  · rintro ⟨b, l, c⟩ m rfl
    dsimp only
    rw [f_109_7, hT.1, two_n n12, if_pos ((ofNat_le (by omega) (by omega)).mpr (by omega))]
    exact ⟨_, rfl⟩
theorem pair_eq {U : sU} {nT nM : Nat} (h : InvN nT nM U) {x : Int32} (hk : 0 ≤ x.toInt ∧ x.toInt < nT) : ∃ r, f_109 (5 + 5 * x.toNatClampNeg) U = some r ∧ f_263 x U = some r := by
  obtain ⟨e1, e2, e3, e4, n8⟩ := tat_yes h hk
  obtain ⟨n, hM⟩ := MT_of h e2
  have t8 := hM.1
  have n12 := hM.2.1.2.2.1
  have hE : ∀ a b, ∃ r, f_107 (5 + 5 * x.toNatClampNeg) a b U = some r ∧ f_259 x a b U = some r := fun a b => ends_eq h hk
  obtain ⟨r, r1⟩ := pair_ends hM (fun a b => by obtain ⟨r, r1, _⟩ := hE a b; exact ⟨r, r1⟩)
  refine ⟨r, r1, ?_⟩
  have i8 : ib x 8 := ib_int.mpr (by omega)
  have q := pair_out hM e4 hE FU 0 (-1) 0 (by omega)
  unfold f_263
  rw [if_pos i8, hM.2.2.1, two_n n12]
  exact q.trans r1
theorem st_bestEnds {U : sU} (h : Inv U) (x : Int32) : Two (f_147 x U) (f_264 x) := by
  have h0 := h
  obtain ⟨nT, nM, h⟩ := h
  have n8 := h.1.1.2.2.1
  by_cases hx : 0 ≤ x.toInt ∧ x.toInt < nT
  case neg => exact ref_to h0 (w := 1) (by decide) (by unfold f_147; rw [tat_no h hx]) (by unfold f_264; rw [if_pos (f178_no (ref_n0 (by decide) h) n8 hx)])
  obtain ⟨e1, e2, e3, e4, _⟩ := tat_yes h hx
  obtain ⟨r, r1, r2⟩ := pair_eq h hx
  refine ⟨r, U, U, ?_, ?_, h0⟩
  · unfold f_147
    rw [e1]
    dsimp only
    rw [r1]
    rfl
  · unfold f_264
    rw [if_neg (f178_yes h.1.2.1 n8 hx), r2]
    rfl
/-- what both ends look at stands in the talk alone -/
theorem f107_lo {U V : sU} {T : Nat} (hT : T + 4 < 210) (k : ∀ x j, x < 210 → V.1 x j = U.1 x j) {a b : Int32} : f_107 T a b V = f_107 T a b U := by
  have e105 : ∀ d, f_105 T d V = f_105 T d U := fun d => by unfold f_105; rw [k T 6 (by omega)]
  have e172 : ∀ y c d, f_172 y c d V = f_172 y c d U := fun _ _ _ => rfl
  have eg : ∀ o i, o + 1 < 210 → iget o i V = iget o i U := fun o i ho => by unfold iget; rw [k _ _ ho]
  have : ∀ m s i, f_107_5 m T a b s i V = f_107_5 m T a b s i U := by
    intro m
    induction m with
    | zero => intro s i; rfl
    | succ m ih =>
      intro s i
      rw [f_107_5, f_107_5]
      simp only [k T 2 (by omega), k T 3 (by omega), k T 4 (by omega), eg (T + 1) _ (by omega), eg (T + 3) _ (by omega), e105, e172, ih]
  unfold f_107
  exact this FU 0 0
theorem f109_lo {U V : sU} {T : Nat} (hT : T + 4 < 210) (k : ∀ x j, x < 210 → V.1 x j = U.1 x j) : f_109 T V = f_109 T U := by
  have e108 : ∀ i, f_108 T i V = f_108 T i U := fun i => by
    unfold f_108 iget
    rw [k T 2 (by omega), k T 3 (by omega), k T 4 (by omega), k (T + 1 + 1) _ (by omega), k (T + 1 + 1) _ (by omega)]
    rfl
  have inn : ∀ (f g : Nat → Int32 → Int64 → Int32 → sU → Option Int32), (∀ b l i, f T b l i V = g T b l i U) → ∀ m b l i j, f_109_21 f m T b l i j V = f_109_21 g m T b l i j U := by
    intro f g hfg m
    induction m with
    | zero => intro b l i j; rfl
    | succ m ih =>
      intro b l i j
      rw [f_109_21, f_109_21]
      simp only [k T 2 (by omega), e108, f107_lo hT k, ih, hfg]
  have out : ∀ m b l i, f_109_7 m T b l i V = f_109_7 m T b l i U := by
    intro m
    induction m with
    | zero => intro b l i; rfl
    | succ m ih =>
      intro b l i
      rw [f_109_7, f_109_7, k T 2 (by omega)]
      split
      · rfl
      · exact inn _ _ (fun b l i => ih b l i) FU b l i 0
  unfold f_109
  exact out FU (-1) 0 0
theorem st_leave {U : sU} (h : Inv U) (x : Int32) : Two (f_148 x U) (f_265 x) := by
  have h0 := h
  have z0 : (0 : Int32).toInt = 0 := rfl
  obtain ⟨nT, nM, h⟩ := h
  have n8 := h.1.1.2.2.1
  by_cases hx : 0 ≤ x.toInt ∧ x.toInt < nT
  case neg => exact ref_to h0 (w := 1) (by decide) (by unfold f_148; rw [tat_no h hx]) (by unfold f_265; rw [if_pos (f178_no (ref_n0 (by decide) h) n8 hx)])
  obtain ⟨e1, e2, e3, e4, _⟩ := tat_yes h hx
  obtain ⟨n, hM⟩ := MT_of h e2
  have t8 := hM.1
  have hT := hM.2.1
  have i8 : ib x 8 := ib_int.mpr (by omega)
  have hl := hM.2.2.2.2.1
  have p2 := two_pow_le hT.2.2.1
  have p1 := Nat.two_pow_pos (n - 1)
  have hwd := hT.2.2.2.2.2.2.1
  obtain ⟨r, r1, r2⟩ := pair_eq h hx
  obtain ⟨V, v1, v2, v3⟩ := best_c (side := 0) hM
  rw [if_pos rfl] at v1 v3
  have p0 : zp U x.toNatClampNeg n 1 (U.1 (5 + 5 * x.toNatClampNeg) 3).toInt 0 = true := by
    unfold zp zal
    rw [zok_one hT.2.1 hT.2.2.1, decide_eq_true (by rw [(by decide : zpc 0 = 0)]; omega)]
    rfl
  obtain ⟨b, hb⟩ := zbe_some (wo := zwc U x.toNatClampNeg n (U.1 (5 + 5 * x.toNatClampNeg) 4).toInt) p0 (2 ^ (n - 1) - 1)
  rw [show 2 ^ (n - 1) - 1 + 1 = 2 ^ (n - 1) by omega] at hb
  have bl := zbe_lt hb
  rw [hb] at v1
  have v3 := v3 b hb
  have hV := InvN_same v2 h
  obtain ⟨y, y1, y2⟩ := ends_eq (a := r / 1000) (b := r - r / 1000 * 1000) hV hx
  refine two_i h0 (v := if zwc U x.toNatClampNeg n (U.1 (5 + 5 * x.toNatClampNeg) 4).toInt b ≤ y.toInt then 0 else 1) ?_ ?_
  · unfold f_148
    rw [e1]
    dsimp only
    rw [r1, Option.bind_some, v1, Option.bind_some]
    dsimp only
    rw [y1, Option.bind_some]
    by_cases hc : zwc U x.toNatClampNeg n (U.1 (5 + 5 * x.toNatClampNeg) 4).toInt b ≤ y.toInt
    · rw [if_pos (by rw [cmp_ge, v3]; exact hc), if_pos hc]
      exact ⟨_, V, rfl, v2, rfl⟩
    · rw [if_neg (by rw [cmp_ge, v3]; exact hc), if_neg hc]
      exact ⟨_, V, rfl, v2, rfl⟩
  · intro Y hY
    have hMY := MT_same hM hY
    have hIY := InvN_same hY h
    have lo : ∀ a j, a < 210 → Y.1 a j = U.1 a j := fun a j ha => hY.lo ha
    have loV : ∀ a j, a < 210 → Y.1 a j = V.1 a j := fun a j ha => (hY.lo ha).trans (v2.lo ha).symm
    obtain ⟨r', q1, q2⟩ := pair_eq hIY hx
    have er : r' = r := by
      rw [f109_lo (by omega) lo, r1] at q1
      cases q1
      rfl
    subst er
    obtain ⟨y', s1, s2⟩ := ends_eq (a := r' / 1000) (b := r' - r' / 1000 * 1000) hIY hx
    have ey : y' = y := by
      rw [f107_lo (by omega) loV, y1] at s1
      cases s1
      rfl
    subst ey
    have y4 : Y.1 290 x.toNatClampNeg = U.1 (5 + 5 * x.toNatClampNeg) 4 := by rw [hY.1 290 _ (by unfold scr; omega)]; exact hl.1
    obtain ⟨Z, z1, z2⟩ := best_m2 hMY e4 (s := U.1 (5 + 5 * x.toNatClampNeg) 4) (by omega)
    rw [zp_same hY t8, zwc_same hY t8, hY.lo (by omega : 5 + 5 * x.toNatClampNeg < 210), hb] at z1
    have z1 : f_247 x (U.1 (5 + 5 * x.toNatClampNeg) 4) Y = some (Int32.ofNat b, Z) := z1
    have hMZ := MT_same hMY z2
    obtain ⟨V1, V2, w, a1, a2, a3, a4, a5, a6, a7⟩ := run_m hMZ e4 (by omega : b < 2048) (s := U.1 (5 + 5 * x.toNatClampNeg) 4) (by omega)
    have k4 : V2.1 290 x.toNatClampNeg = U.1 (5 + 5 * x.toNatClampNeg) 4 := by rw [((hY.tr z2).tr a4).1 290 _ (by unfold scr; omega)]; exact hl.1
    rw [zwc_same (hY.tr z2) t8] at a5
    unfold f_265
    rw [if_neg (f178_yes hIY.1.2.1 n8 hx), q2, Option.bind_some, s2, Option.bind_some, if_pos i8, y4, z1, Option.bind_some]
    dsimp only
    rw [a1, Option.bind_some, a2, Option.bind_some, if_pos i8, k4, a3, Option.bind_some]
    by_cases hc : zwc U x.toNatClampNeg n (U.1 (5 + 5 * x.toNatClampNeg) 4).toInt b ≤ y'.toInt
    · rw [if_pos (by rw [cmp_ge, a5]; exact hc), if_pos hc]
      exact ⟨_, V2, rfl, z2.tr a4, rfl⟩
    · rw [if_neg (by rw [cmp_ge, a5]; exact hc), if_neg hc]
      exact ⟨_, V2, rfl, z2.tr a4, rfl⟩
