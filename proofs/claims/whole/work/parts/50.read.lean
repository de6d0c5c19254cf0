/-! a reading: a talk, the words of its truths, the acts of the words -/
def gX (V : sU) (T i : Nat) : Int := (V.1 (T + 2) i).toInt
def gC (V : sU) (T i : Nat) : Int := (V.1 (T + 4) i).toInt
def rdA (a : Nat) : Prop := a = 218 ∨ a = 233 ∨ a = 247
def Tk (V : sU) (T n : Nat) : Prop := V.1 T 2 = Int32.ofNat n ∧ 1 ≤ n ∧ n ≤ 12 ∧ (V.1 T 6 = 0 ∨ V.1 T 6 = 1) ∧ (∀ i, i < n → 0 ≤ gX V T i ∧ gX V T i ≤ 999 ∧ 1 ≤ gC V T i ∧ gC V T i ≤ 99) ∧ (∀ i, i + 1 < n → gX V T i < gX V T (i + 1)) ∧ (1 ≤ (V.1 T 5).toInt ∧ (V.1 T 5).toInt ≤ 12) ∧ T + 4 < 210 ∧ ln (T + 2) = 12 ∧ ln (T + 4) = 12 ∧ sh T = 8
theorem ln_rd {a : Nat} (h : rdA a) : ln (a + 1 + 1) = 12 ∧ ln (a + 3 + 1) = 12 ∧ ln (a + 5 + 1) = 12 ∧ ln (a + 7 + 1) = 12 := by
  rcases h with rfl | rfl | rfl <;> decide +kernel
theorem ln_tk2 : ∀ t, t < 8 → ln (5 + 5 * t + 2) = 12 ∧ ln (5 + 5 * t + 4) = 12 ∧ sh (5 + 5 * t) = 8 := by decide +kernel
theorem Tk_of {U : sU} {nT nM t : Nat} (h : InvN nT nM U) (ht : t < nT) : ∃ n, Tk U (5 + 5 * t) n := by
  obtain ⟨n, n1, n12, q0, _, q1, q2, q3, q4, _, _, _, qx, qi⟩ := tk_facts h ht
  have n8 := h.1.1.2.2.1
  obtain ⟨l1, l2, l3⟩ := ln_tk2 t (by omega)
  refine ⟨n, q0, n1, n12, q4.2, ?_, ?_, q3.2, by omega, l1, l2, l3⟩
  · intro i hi
    have := qx i hi
    unfold gX gC
    rw [show 5 + 5 * t + 2 = 7 + 5 * t by omega, show 5 + 5 * t + 4 = 9 + 5 * t by omega]
    omega
  · intro i hi
    unfold gX
    rw [show 5 + 5 * t + 2 = 7 + 5 * t by omega]
    exact qi i hi
theorem Tk_same {U V : sU} {T n : Nat} (h : Tk U T n) (k : ∀ x j, x < 210 → V.1 x j = U.1 x j) : Tk V T n := by
  obtain ⟨t1, t2, t3, t4, t5, t6, t7, t8, t9, t10, t11⟩ := h
  have eX : gX V T = gX U T := by funext i; unfold gX; rw [k _ _ (by omega)]
  have eC : gC V T = gC U T := by funext i; unfold gC; rw [k _ _ (by omega)]
  unfold Tk
  rw [eX, eC, k T 2 (by omega), k T 6 (by omega), k T 5 (by omega)]
  exact ⟨t1, t2, t3, t4, t5, t6, t7, t8, t9, t10, t11⟩
theorem iget_k {b k : Nat} {U : sU} (hl : ln (b + 1) = 12) (hk : k < 12) : iget b (Int32.ofNat k) U = U.1 (b + 1) k := by
  unfold iget
  rw [hl, if_pos (ib_ofNat (by omega) hk), ofNat_clamp (by omega)]
theorem iput_k {b k : Nat} {U : sU} {v : Int32} (hl : ln (b + 1) = 12) (hk : k < 12) : iput b (Int32.ofNat k) v U = sI U (b + 1) k v := by
  unfold iput
  rw [hl, if_pos (ib_ofNat (by omega) hk), ofNat_clamp (by omega)]
/-- words, used bits and how many: of the first k truths -/
def Wd (V : sU) (a n : Nat) (W : Nat → Nat) (k : Nat) : Prop := (∀ i, i < n → W i < 12) ∧ (∀ i, i < k → V.1 (a + 2) i = Int32.ofNat (W i)) ∧ V.1 a 9 = Int32.ofNat (zub W k) ∧ V.1 a 10 = Int32.ofNat (zpc (zub W k))
def Pw (a x j : Nat) : Prop := x = a + 2 ∨ (x = a ∧ (j = 9 ∨ j = 10))
theorem put_ok {V : sU} {a n k : Nat} {W : Nat → Nat} (ha : rdA a) (hn : n ≤ 12) (hk : k < n) (h : Wd V a n W k) : Wd (f_38 a (Int32.ofNat k) (Int32.ofNat (W k)) V) a n W (k + 1) ∧ Fr (Pw a) V (f_38 a (Int32.ofNat k) (Int32.ofNat (W k)) V) := by
  obtain ⟨l1, l2, l3, l4⟩ := ln_rd ha
  obtain ⟨w1, w2, w3, w4⟩ := h
  have hw := w1 k hk
  have hq := zub_lt (W := W) (n := k) (fun i hi => w1 i (by omega))
  have e1 : iput (a + 1) (Int32.ofNat k) (Int32.ofNat (W k)) V = sI V (a + 2) k (Int32.ofNat (W k)) := iput_k l1 (by omega)
  have r9 : (sI V (a + 2) k (Int32.ofNat (W k))).1 a 9 = Int32.ofNat (zub W k) := by rw [sI_ne (by omega)]; exact w3
  have f0 : Fr (Pw a) V (sI V (a + 2) k (Int32.ofNat (W k))) := Fr.sI (Fr.rf _ _) _ (Or.inl rfl)
  have words : ∀ i, i < k + 1 → (sI V (a + 2) k (Int32.ofNat (W k))).1 (a + 2) i = Int32.ofNat (W i) := by
    intro i hi
    by_cases e : i = k
    · subst e; rw [sI_at]
    · rw [sI_nj e]; exact w2 i (by omega)
  have e2 : zub W (k + 1) = zub W k ||| 2 ^ W k := rfl
  unfold f_38
  rw [e1, f43_eq r9 hq hw]
  by_cases ht : (zub W k).testBit (W k) = true
  · rw [if_pos ht, if_neg (by decide)]
    have e3 : zub W (k + 1) = zub W k := by
      rw [e2]
      apply Nat.eq_of_testBit_eq
      intro i
      rw [Nat.testBit_or, Nat.testBit_two_pow]
      by_cases e : W k = i
      · rw [← e, ht]; rfl
      · rw [decide_eq_false e, Bool.or_false]
    refine ⟨⟨w1, words, ?_, ?_⟩, f0⟩
    · rw [e3]; exact r9
    · rw [e3, sI_ne (by omega)]; exact w4
  · rw [if_neg ht, if_pos rfl]
    have e4 : zpc (zub W (k + 1)) = zpc (zub W k) + 1 := by
      unfold zpc
      rw [e2, zpn_or, if_pos ⟨hw, eq_false_of_ne_true ht⟩]
    have e5 : (1 : Int32) <<< (Int32.ofNat (W k) &&& 31) = Int32.ofNat (2 ^ W k) := by
      rw [shl1 (by rw [ofNat_int (by omega)]; omega), ofNat_clamp (by omega)]
    refine ⟨⟨w1, ?_, ?_, ?_⟩, Fr.sI (Fr.sI f0 _ (Or.inr ⟨rfl, Or.inl rfl⟩)) _ (Or.inr ⟨rfl, Or.inr rfl⟩)⟩
    · intro i hi
      rw [sI_ne (by omega), sI_ne (by omega)]
      exact words i hi
    · rw [sI_nj (by omega), sI_at, r9, e5, ← or_ofNat, e2]
    · rw [sI_at, sI_nj (by omega), sI_ne (by omega), w4, ofNat_succ, e4]
theorem silence_ok {V : sU} {a n : Nat} {W : Nat → Nat} (hW : ∀ i, i < n → W i < 12) : Wd (f_37 a V) a n W 0 ∧ Fr (Pw a) V (f_37 a V) := by
  unfold f_37
  refine ⟨⟨hW, fun i hi => by omega, ?_, ?_⟩, Fr.sI (Fr.sI (Fr.rf _ _) _ (Or.inr ⟨rfl, Or.inl rfl⟩)) _ (Or.inr ⟨rfl, Or.inr rfl⟩)⟩
  · rw [sI_nj (by omega), sI_at]; rfl
  · rw [sI_at]
    show (0 : Int32) = Int32.ofNat (zpc 0)
    rw [(by decide : zpc 0 = 0)]
    rfl
/-- what is spread: a word's own, and all -/
def zb (bl : Int32) (cl un own all : Int) : Int := if bl = 0 then own else cl * un * own + (100 - cl) * all
theorem zs_zb (bl : Int32) (cl un : Int) (f g : Nat → Int) (n : Nat) : zs (fun i => zb bl cl un (f i) (g i)) n = zb bl cl un (zs f n) (zs g n) := by
  unfold zb
  by_cases h : bl = 0
  · simp only [if_pos h]
  · simp only [if_neg h]
    rw [zs_add, zs_mul, zs_mul]
theorem zb_mul (bl : Int32) (cl un f g y : Int) : zb bl cl un f g * y = zb bl cl un (f * y) (g * y) := by
  unfold zb
  split
  · rfl
  · rw [Int.add_mul, Int.mul_assoc (cl * un) f y, Int.mul_assoc (100 - cl) g y]
def Rd (V : sU) (a T n : Nat) (W : Nat → Nat) : Prop := rdA a ∧ tk V a = T ∧ Tk V T n ∧ Wd V a n W n ∧ (-500 ≤ (V.1 a 7).toInt ∧ (V.1 a 7).toInt ≤ 500) ∧ (-600 ≤ (V.1 a 8).toInt ∧ (V.1 a 8).toInt ≤ 600) ∧ (V.1 a 11 = 0 ∨ V.1 a 11 = 1) ∧ (0 ≤ (V.1 a 13).toInt ∧ (V.1 a 13).toInt ≤ 100)
def zow (C : Nat → Int) (W : Nat → Nat) (w i : Nat) : Int := if W i = w then C i else 0
/-- the weights of a word's truths -/
def zwt (bl : Int32) (cl un : Int) (C : Nat → Int) (W : Nat → Nat) (w i : Nat) : Int := zb bl cl un (zow C W w i) (C i)
def gY (V : sU) (a T i : Nat) : Int := gX V T i + (V.1 a 7).toInt
def zA (V : sU) (a T n : Nat) (W : Nat → Nat) (w : Nat) : Int := zlst (V.1 T 6) n (zwt (V.1 a 11) (V.1 a 13).toInt (V.1 a 10).toInt (gC V T) W w) (gY V a T)
def Pg (a x j : Nat) : Prop := x = a + 6 ∨ x = a + 8 ∨ (x = a ∧ (j = 4 ∨ j = 5))
theorem zow_bd {C : Nat → Int} {W : Nat → Nat} {w i : Nat} (h : 1 ≤ C i ∧ C i ≤ 99) : 0 ≤ zow C W w i ∧ zow C W w i ≤ 99 := by
  unfold zow
  split <;> omega
/-- what gather() leaves: by word, and all -/
def Gd (V : sU) (a T n : Nat) (W : Nat → Nat) (k : Nat) : Prop := (∀ w, w < 12 → (V.1 (a + 6) w).toInt = zs (zow (gC V T) W w) k ∧ (V.1 (a + 8) w).toInt = zs (fun i => zow (gC V T) W w i * gY V a T i) k) ∧ (V.1 a 4).toInt = zs (gC V T) k ∧ (V.1 a 5).toInt = zs (fun i => gC V T i * gY V a T i) k
theorem gY_bd {V : sU} {a T n : Nat} {W : Nat → Nat} (h : Rd V a T n W) {i : Nat} (hi : i < n) : -500 ≤ gY V a T i ∧ gY V a T i ≤ 1499 := by
  obtain ⟨_, _, ⟨_, _, _, _, t5, _⟩, _, l, _⟩ := h
  have := t5 i hi
  unfold gY
  omega
theorem gather_ok {V : sU} {a T n : Nat} {W : Nat → Nat} (h : Rd V a T n W) : ∃ V2, f_42 a V = some V2 ∧ Fr (Pg a) V V2 ∧ Gd V2 a T n W n := by
  have h0 := h
  obtain ⟨ha, htk, hT, hW, hl, hw, _, _⟩ := h
  obtain ⟨l1, l2, l3, l4⟩ := ln_rd ha
  obtain ⟨t1, t2, t3, t4, t5, t6, t7, t8, t9, t10, t11⟩ := hT
  have ha2 : 210 ≤ a := by rcases ha with rfl | rfl | rfl <;> omega
  unfold f_42
  have clr : ∀ b : Nat, ln (b + 1) = 12 → ∀ (Z : sU) i, i < 12 → (iclr b Z).1 (b + 1) i = 0 := by
    intro b hb Z i hi
    unfold iclr iset
    exact if_pos ⟨rfl, by rw [hb]; exact hi⟩
  have clo : ∀ b : Nat, ∀ (Z : sU) x i, x ≠ b + 1 → (iclr b Z).1 x i = Z.1 x i := by
    intro b Z x i hx
    unfold iclr iset
    exact if_neg (fun q => hx q.1)
  refine loop_ex (fun n (s : Int32 × sU) => f_42_26 n a s.1 s.2) (fun k s => s.1 = Int32.ofNat k ∧ Fr (Pg a) V s.2 ∧ Gd s.2 a T n W k) (fun b => ∃ V2, b = some V2 ∧ Fr (Pg a) V V2 ∧ Gd V2 a T n W n) n ?_ ?_ n 0 FU (0, sI (sI (iclr (a + 7) (iclr (a + 5) V)) a 4 0) a 5 0) (by omega) (by unfold FU; omega) ?_
  · rintro k ⟨c, Z⟩ m hk ⟨rfl, hF, hG1, hG2, hG3⟩
    refine Or.inr ?_
    dsimp only at hF hG1 hG2 hG3
    have eX : ∀ i, Z.1 (T + 2) i = V.1 (T + 2) i := fun i => hF.1 _ _ (by unfold Pg; omega)
    have eC : ∀ i, Z.1 (T + 4) i = V.1 (T + 4) i := fun i => hF.1 _ _ (by unfold Pg; omega)
    have zX : gX Z T = gX V T := by funext i; unfold gX; rw [eX]
    have zC : gC Z T = gC V T := by funext i; unfold gC; rw [eC]
    have e7 : Z.1 a 7 = V.1 a 7 := hF.1 _ _ (by unfold Pg; omega)
    have zY : gY Z a T = gY V a T := by funext i; unfold gY; rw [zX, e7]
    rw [zC, zY] at hG1
    rw [zC] at hG2
    rw [zC, zY] at hG3
    have eW : Z.1 (a + 2) k = Int32.ofNat (W k) := by rw [hF.1 _ _ (by unfold Pg; omega)]; exact hW.2.1 k hk
    have wk := hW.1 k hk
    have hk12 : k < 12 := by omega
    have gW : iget (a + 1) (Int32.ofNat k) Z = Int32.ofNat (W k) := by rw [iget_k l1 hk12]; exact eW
    have gA : ∀ Y, iget (a + 5) (Int32.ofNat (W k)) Y = Y.1 (a + 6) (W k) := fun Y => iget_k l3 wk
    have gB : ∀ Y, iget (a + 7) (Int32.ofNat (W k)) Y = Y.1 (a + 8) (W k) := fun Y => iget_k l4 wk
    have pA : ∀ v Y, iput (a + 5) (Int32.ofNat (W k)) v Y = sI Y (a + 6) (W k) v := fun v Y => iput_k l3 wk
    have pB : ∀ v Y, iput (a + 7) (Int32.ofNat (W k)) v Y = sI Y (a + 8) (W k) v := fun v Y => iput_k l4 wk
    have g1 : iget (T + 1) (Int32.ofNat k) Z = Z.1 (T + 2) k := iget_k t9 hk12
    have g3 : iget (T + 3) (Int32.ofNat k) Z = Z.1 (T + 4) k := iget_k t10 hk12
    have ht : tk Z a = T := (Fr_tk hF a).trans htk
    have e2 : Z.1 T 2 = Int32.ofNat n := by rw [hF.1 _ _ (by unfold Pg; omega)]; exact t1
    have bC := (t5 k hk).2.2
    have bY := gY_bd h0 hk
    have cI : (Z.1 (T + 4) k).toInt = gC V T k := by rw [eC]; rfl
    have yI : (Z.1 (T + 2) k + Z.1 a 7).toInt = gY V a T k := by
      have : (Z.1 (T + 2) k).toInt + (Z.1 a 7).toInt = gY V a T k := by rw [eX, e7]; rfl
      rw [a32 (by omega) (by omega), this]
    have pr := pb (a := gC V T k) (b := gY V a T k) (A := 99) (B := 1499) (by omega) (by omega) (by omega) (by omega)
    have cyI : (Z.1 (T + 4) k * (Z.1 (T + 2) k + Z.1 a 7)).toInt = gC V T k * gY V a T k := by
      rw [m32 (by rw [cI, yI]; omega) (by rw [cI, yI]; omega), cI, yI]
    have sb1 : ∀ w, 0 ≤ zs (zow (gC V T) W w) k ∧ zs (zow (gC V T) W w) k ≤ 12 * 99 := fun w => zs_bd (by omega) (fun i hi => zow_bd (t5 i (by omega)).2.2) (by omega)
    have sb2 : ∀ w, -(12 * (99 * 1499)) ≤ zs (fun i => zow (gC V T) W w i * gY V a T i) k ∧ zs (fun i => zow (gC V T) W w i * gY V a T i) k ≤ 12 * (99 * 1499) := fun w => zs_bs (by omega) (fun i hi => by
      have q1 := zow_bd (W := W) (w := w) (t5 i (by omega)).2.2
      have q2 := gY_bd h0 (by omega : i < n)
      exact pb (by omega) (by omega) (by omega) (by omega)) (by omega)
    have sb3 : 0 ≤ zs (gC V T) k ∧ zs (gC V T) k ≤ 12 * 99 := zs_bd (by omega) (fun i hi => by have := t5 i (by omega); omega) (by omega)
    have sb4 : -(12 * (99 * 1499)) ≤ zs (fun i => gC V T i * gY V a T i) k ∧ zs (fun i => gC V T i * gY V a T i) k ≤ 12 * (99 * 1499) := zs_bs (by omega) (fun i hi => by
      have q1 := t5 i (by omega)
      have q2 := gY_bd h0 (by omega : i < n)
      exact pb (by omega) (by omega) (by omega) (by omega)) (by omega)
    refine ⟨(Int32.ofNat (k + 1), sI (sI (sI (sI Z (a + 6) (W k) (Z.1 (a + 6) (W k) + Z.1 (T + 4) k)) (a + 8) (W k) (Z.1 (a + 8) (W k) + Z.1 (T + 4) k * (Z.1 (T + 2) k + Z.1 a 7))) a 4 (Z.1 a 4 + Z.1 (T + 4) k)) a 5 (Z.1 a 5 + Z.1 (T + 4) k * (Z.1 (T + 2) k + Z.1 a 7))), ⟨rfl, ?_, ?_⟩, ?_⟩
    · exact Fr.sI (Fr.sI (Fr.sI (Fr.sI hF _ (Or.inl rfl)) _ (Or.inr (Or.inl rfl))) _ (Or.inr (Or.inr ⟨rfl, Or.inl rfl⟩))) _ (Or.inr (Or.inr ⟨rfl, Or.inr rfl⟩))
    · generalize hZ : sI (sI (sI (sI Z (a + 6) (W k) (Z.1 (a + 6) (W k) + Z.1 (T + 4) k)) (a + 8) (W k) (Z.1 (a + 8) (W k) + Z.1 (T + 4) k * (Z.1 (T + 2) k + Z.1 a 7))) a 4 (Z.1 a 4 + Z.1 (T + 4) k)) a 5 (Z.1 a 5 + Z.1 (T + 4) k * (Z.1 (T + 2) k + Z.1 a 7)) = Y
      have yX : gX Y T = gX V T := by funext i; rw [← zX]; unfold gX; rw [← hZ]; simp (disch := omega) only [sI_ne]
      have yC : gC Y T = gC V T := by funext i; rw [← zC]; unfold gC; rw [← hZ]; simp (disch := omega) only [sI_ne]
      have y7 : Y.1 a 7 = V.1 a 7 := by rw [← e7, ← hZ]; simp (disch := omega) only [sI_ne, sI_nj]
      have yY : gY Y a T = gY V a T := by funext i; unfold gY; rw [yX, y7]
      unfold Gd
      rw [yC, yY]
      refine ⟨fun w hw12 => ?_, ?_, ?_⟩
      · have b1 := sb1 w
        have b2 := sb2 w
        obtain ⟨g1, g2⟩ := hG1 w hw12
        show _ = zs _ k + zow (gC V T) W w k ∧ _ = zs _ k + zow (gC V T) W w k * gY V a T k
        by_cases e : W k = w
        · have ez : zow (gC V T) W w k = gC V T k := if_pos e
          have q1 : Y.1 (a + 6) w = Z.1 (a + 6) w + Z.1 (T + 4) k := by rw [← hZ, ← e]; simp (disch := omega) only [sI_ne, sI_at]
          have q2 : Y.1 (a + 8) w = Z.1 (a + 8) w + Z.1 (T + 4) k * (Z.1 (T + 2) k + Z.1 a 7) := by rw [← hZ, ← e]; simp (disch := omega) only [sI_ne, sI_at]
          rw [ez, q1, q2, a32 (by rw [g1, cI]; omega) (by rw [g1, cI]; omega), a32 (by rw [g2, cyI]; omega) (by rw [g2, cyI]; omega), g1, g2, cI, cyI]
          exact ⟨rfl, rfl⟩
        · have ez : zow (gC V T) W w k = 0 := if_neg e
          have q1 : Y.1 (a + 6) w = Z.1 (a + 6) w := by rw [← hZ]; simp (disch := omega) only [sI_ne, sI_nj]
          have q2 : Y.1 (a + 8) w = Z.1 (a + 8) w := by rw [← hZ]; simp (disch := omega) only [sI_ne, sI_nj]
          rw [ez, q1, q2, g1, g2, Int.zero_mul, Int.add_zero, Int.add_zero]
          exact ⟨rfl, rfl⟩
      · have q1 : Y.1 a 4 = Z.1 a 4 + Z.1 (T + 4) k := by rw [← hZ]; simp (disch := omega) only [sI_nj, sI_at]
        show _ = zs _ k + gC V T k
        rw [q1, a32 (by rw [hG2, cI]; omega) (by rw [hG2, cI]; omega), hG2, cI]
      · have q1 : Y.1 a 5 = Z.1 a 5 + Z.1 (T + 4) k * (Z.1 (T + 2) k + Z.1 a 7) := by rw [← hZ]; simp (disch := omega) only [sI_nj, sI_at]
        show _ = zs _ k + gC V T k * gY V a T k
        rw [q1, a32 (by rw [hG3, cyI]; omega) (by rw [hG3, cyI]; omega), hG3, cyI]
    · dsimp only
      rw [f_42_26]
      simp only [ht, gW, gA, gB, pA, pB, g1, g3, e2]
      rw [if_neg (fun q => by have := (ofNat_le (by omega) (by omega)).mp q; omega), ofNat_succ]
      simp (disch := omega) only [sI_ne, sI_nj]
  · rintro ⟨c, Z⟩ m ⟨rfl, hF, hG⟩
    dsimp only at hF hG ⊢
    have ht : tk Z a = T := (Fr_tk hF a).trans htk
    have e2 : Z.1 T 2 = Int32.ofNat n := by rw [hF.1 _ _ (by unfold Pg; omega)]; exact t1
    rw [f_42_26, ht, e2, if_pos ((ofNat_le (by omega) (by omega)).mpr (Nat.le_refl _))]
    exact ⟨Z, rfl, hF, hG⟩
  · refine ⟨rfl, ⟨fun x j hx => ?_, rfl⟩, fun w hw12 => ⟨?_, ?_⟩, ?_, ?_⟩
    · dsimp only
      unfold Pg at hx
      by_cases e : x = a
      · subst e
        rw [sI_nj (by omega), sI_nj (by omega), clo _ _ _ _ (by omega), clo _ _ _ _ (by omega)]
      · rw [sI_ne e, sI_ne e, clo _ _ _ _ (by omega), clo _ _ _ _ (by omega)]
    · dsimp only
      rw [sI_ne (by omega), sI_ne (by omega), clo _ _ _ _ (by omega), clr (a + 5) l3 _ _ hw12]
      rfl
    · dsimp only
      rw [sI_ne (by omega), sI_ne (by omega), clr (a + 7) l4 _ _ hw12]
      rfl
    · dsimp only
      rw [sI_nj (by omega), sI_at]
      rfl
    · dsimp only
      rw [sI_at]
      rfl
