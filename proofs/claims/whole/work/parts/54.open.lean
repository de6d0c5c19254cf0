/-! take(), putParts(), open() -/
theorem take_ok {U : sU} {a T n : Nat} {l w : Int32} {W : Nat → Nat} (hs : sh T = 8) (hW : ∀ i, i < n → W i < 12) : tk (f_35 a T l w U) a = T ∧ Wd (f_35 a T l w U) a n W 0 ∧ (f_35 a T l w U).1 a 7 = l ∧ (f_35 a T l w U).1 a 8 = w ∧ (f_35 a T l w U).1 a 11 = 0 ∧ (f_35 a T l w U).1 a 12 = 0 ∧ (f_35 a T l w U).1 a 13 = 100 ∧ (∀ x j, x ≠ a → (f_35 a T l w U).1 x j = U.1 x j) ∧ (f_35 a T l w U).2.1 = U.2.1 ∧ (∀ b, b ≠ a → tk (f_35 a T l w U) b = tk U b) := by
  unfold f_35
  obtain ⟨k1, k2⟩ := silence_ok (V := sI (sI (sI (sI (sI (sK U a T) a 7 l) a 8 w) a 11 0) a 12 0) a 13 100) (a := a) (n := n) hW
  have e : ∀ j, j ≠ 9 → j ≠ 10 → (f_37 a (sI (sI (sI (sI (sI (sK U a T) a 7 l) a 8 w) a 11 0) a 12 0) a 13 100)).1 a j = (sI (sI (sI (sI (sI (sK U a T) a 7 l) a 8 w) a 11 0) a 12 0) a 13 100).1 a j := fun j h1 h2 => k2.1 a j (by unfold Pw; omega)
  refine ⟨?_, k1, ?_, ?_, ?_, ?_, ?_, ?_, ?_, ?_⟩
  · rw [Fr_tk k2]
    exact tk_same hs
  · rw [e 7 (by omega) (by omega)]; simp (disch := omega) only [sI_nj, sI_at]
  · rw [e 8 (by omega) (by omega)]; simp (disch := omega) only [sI_nj, sI_at]
  · rw [e 11 (by omega) (by omega)]; simp (disch := omega) only [sI_nj, sI_at]
  · rw [e 12 (by omega) (by omega)]; simp (disch := omega) only [sI_nj, sI_at]
  · rw [e 13 (by omega) (by omega)]; simp (disch := omega) only [sI_at]
  · intro x j hx
    unfold f_37
    simp (disch := omega) only [sI_ne]
    rfl
  · rfl
  · intro b hb
    rw [Fr_tk k2]
    exact tk_sK hb
theorem take_same {U : sU} {a T : Nat} {l w : Int32} (ha : rdA a) (hs : sh T = 8) : Same U (f_35 a T l w U) := by
  obtain ⟨_, _, _, _, _, _, _, k8, k9, _⟩ := take_ok (U := U) (a := a) (T := T) (n := 0) (l := l) (w := w) (W := fun _ => 0) hs (fun i hi => by omega)
  refine ⟨fun x j hx => k8 x j (fun e => hx ?_), fun x j _ => by rw [k9]⟩
  subst e
  unfold scr
  rcases ha with rfl | rfl | rfl <;> omega
theorem Pw_scr {a x j : Nat} (ha : rdA a) (h : Pw a x j) : scr x j := by
  unfold Pw at h
  unfold scr
  rcases ha with rfl | rfl | rfl <;> omega
theorem Ps_scr {a x j : Nat} (ha : rdA a) (h : Ps a x j) : scr x j := by
  unfold Ps Pg at h
  unfold scr
  rcases ha with rfl | rfl | rfl <;> omega
/-- the words that cuts give -/
def zW (c : Nat) : Nat → Nat
  | 0 => 0
  | t + 1 => zW c t + (if c.testBit t then 1 else 0)
theorem zW_le (c : Nat) : ∀ t, zW c t ≤ t := by
  intro t
  induction t with
  | zero => exact Nat.le_refl _
  | succ t ih => unfold zW; split <;> omega
theorem zW_mono (c : Nat) : ∀ m t, zW c t ≤ zW c (t + m) := by
  intro m
  induction m with
  | zero => intro t; exact Nat.le_refl _
  | succ m ih =>
    intro t
    have := ih t
    show zW c t ≤ zW c (t + m) + _
    omega
/-- each word up to the last is said -/
theorem zW_onto (c : Nat) : ∀ t w, w ≤ zW c t → ∃ i, i ≤ t ∧ zW c i = w := by
  intro t
  induction t with
  | zero => intro w hw; exact ⟨0, Nat.le_refl _, by unfold zW at hw ⊢; omega⟩
  | succ t ih =>
    intro w hw
    by_cases h : w ≤ zW c t
    · obtain ⟨i, h1, h2⟩ := ih w h
      exact ⟨i, by omega, h2⟩
    · refine ⟨t + 1, Nat.le_refl _, ?_⟩
      unfold zW at hw ⊢
      by_cases e : c.testBit t = true
      · rw [if_pos e] at hw ⊢; omega
      · rw [if_neg e] at hw ⊢; omega
theorem zW_used {c n w : Nat} (hn : 1 ≤ n) : (zub (zW c) n).testBit w = true ↔ w < zW c (n - 1) + 1 := by
  rw [zub_test]
  constructor
  · rintro ⟨i, h1, h2⟩
    have := zW_mono c (n - 1 - i) i
    rw [show i + (n - 1 - i) = n - 1 by omega] at this
    omega
  · intro h
    obtain ⟨i, h1, h2⟩ := zW_onto c (n - 1) w (by omega)
    exact ⟨i, by omega, h2⟩
theorem zW_pc (c : Nat) : ∀ k, zpn c k = zW c k := by
  intro k
  induction k with
  | zero => rfl
  | succ k ih => unfold zpn zW; rw [ih]
theorem zpc_W {c k : Nat} (hc : c < 2 ^ k) (hk : k ≤ 12) : zpc c = zW c k := by
  unfold zpc
  rw [zW_pc]
  have : ∀ m, zW c (k + m) = zW c k := by
    intro m
    induction m with
    | zero => rfl
    | succ m ih =>
      have e : zW c (k + (m + 1)) = zW c (k + m) + (if c.testBit (k + m) then 1 else 0) := rfl
      rw [e, Nat.testBit_lt_two_pow (Nat.lt_of_lt_of_le hc (Nat.pow_le_pow_right (by decide) (Nat.le_add_right k m))), if_neg Bool.false_ne_true, ih, Nat.add_zero]
  have := this (12 - k)
  rw [show k + (12 - k) = 12 by omega] at this
  exact this
theorem zub_run {b n : Nat} {W : Nat → Nat} (hb : b ≤ 12) (h : ∀ w, (zub W n).testBit w = true ↔ w < b) : zpc (zub W n) = b := by
  have k : ∀ k, zpn (zub W n) k = if k < b then k else b := by
    intro k
    induction k with
    | zero => unfold zpn; split <;> omega
    | succ k ih =>
      unfold zpn
      rw [ih]
      by_cases e : k < b
      · rw [(h k).mpr e, if_pos rfl, if_pos e]
        split <;> omega
      · rw [eq_false_of_ne_true (fun q => e ((h k).mp q)), if_neg Bool.false_ne_true, if_neg e, if_neg (by omega), Nat.add_zero]
  unfold zpc
  rw [k 12]
  split <;> omega
theorem cut_bit {c t : Nat} (hc : c < 2048) (ht : 1 ≤ t) (h : t < 12) : ((Int32.ofNat c >>> ((Int32.ofNat t - 1) &&& 31)) &&& 1) = Int32.ofNat (if c.testBit (t - 1) then 1 else 0) := by
  obtain ⟨u, rfl⟩ : ∃ u, t = u + 1 := ⟨t - 1, by omega⟩
  have e : Int32.ofNat (u + 1) - 1 = Int32.ofNat u := by
    apply Int32.toInt_inj.mp
    have e1 : (1 : Int32).toInt = 1 := rfl
    rw [s32 (by rw [e1, ofNat_int (by omega)]; omega) (by rw [e1, ofNat_int (by omega)]; omega), e1, ofNat_int (by omega), ofNat_int (by omega)]
    omega
  rw [e]
  exact (bit_at (by omega) (by omega)).2.2
theorem ofNat_add (a b : Nat) : Int32.ofNat a + Int32.ofNat b = Int32.ofNat (a + b) := (Int32.ofNat_add a b).symm
theorem parts_ok {V : sU} {a T n c : Nat} (ha : rdA a) (htk : tk V a = T) (hT : Tk V T n) (hc : c < 2048) : ∃ V2, f_39 a (Int32.ofNat c) V = some V2 ∧ Fr (Pw a) V V2 ∧ Wd V2 a n (zW c) n := by
  obtain ⟨t1, t2, t3, t4, t5, t6, t7, t8, t9, t10, t11⟩ := hT
  have ha2 : 210 ≤ a := by rcases ha with rfl | rfl | rfl <;> omega
  have hW : ∀ i, i < n → zW c i < 12 := fun i hi => by have := zW_le c i; omega
  have f0 : (0 : Int32).toInt = 0 := rfl
  obtain ⟨s1, s2⟩ := silence_ok (V := V) (a := a) (n := n) hW
  unfold f_39
  refine loop_ex (fun m (s : Int32 × Int32 × sU) => f_39_8 m a (Int32.ofNat c) s.1 s.2.1 s.2.2) (fun k s => s.2.1 = Int32.ofNat k ∧ s.1 = Int32.ofNat (zW c (k - 1)) ∧ Fr (Pw a) V s.2.2 ∧ Wd s.2.2 a n (zW c) k) (fun b => ∃ V2, b = some V2 ∧ Fr (Pw a) V V2 ∧ Wd V2 a n (zW c) n) n ?_ ?_ n 0 FU (0, 0, f_37 a V) (by omega) (by unfold FU; omega) ⟨rfl, rfl, s2, s1⟩
  · rintro k ⟨w, x, Z⟩ m hk ⟨rfl, rfl, hF, hWd⟩
    dsimp only at hF hWd ⊢
    have ht : tk Z a = T := (Fr_tk hF a).trans htk
    have e2 : Z.1 T 2 = Int32.ofNat n := by rw [hF.1 _ _ (by unfold Pw; omega)]; exact t1
    have e0 : zW c (k + 1 - 1) = zW c k := rfl
    rw [f_39_8, ht, e2, if_neg (fun q => by have := (ofNat_le (by omega) (by omega)).mp q; omega), ofNat_succ]
    have go : ∀ y : Int32, y = Int32.ofNat (zW c k) → ∃ s' : Int32 × Int32 × sU, (s'.2.1 = Int32.ofNat (k + 1) ∧ s'.1 = Int32.ofNat (zW c (k + 1 - 1)) ∧ Fr (Pw a) V s'.2.2 ∧ Wd s'.2.2 a n (zW c) (k + 1)) ∧ f_39_8 m a (Int32.ofNat c) y (Int32.ofNat (k + 1)) (f_38 a (Int32.ofNat k) y Z) = f_39_8 m a (Int32.ofNat c) s'.1 s'.2.1 s'.2.2 := by
      intro y hy
      subst hy
      obtain ⟨p1, p2⟩ := put_ok ha t3 hk hWd
      exact ⟨(Int32.ofNat (zW c k), Int32.ofNat (k + 1), f_38 a (Int32.ofNat k) (Int32.ofNat (zW c k)) Z), ⟨rfl, rfl, hF.tr p2, p1⟩, rfl⟩
    by_cases hk0 : k = 0
    · subst hk0
      rw [if_pos (by rw [i32_le, f0, ofNat_int (by omega)]; omega)]
      exact Or.inr (go _ rfl)
    · rw [if_neg (by rw [i32_le, f0, ofNat_int (by omega)]; omega), cut_bit hc (by omega) (by omega), ofNat_add]
      refine Or.inr (go _ ?_)
      obtain ⟨u, rfl⟩ : ∃ u, k = u + 1 := ⟨k - 1, by omega⟩
      rfl
  · rintro ⟨w, x, Z⟩ m ⟨rfl, rfl, hF, hWd⟩
    dsimp only at hF hWd ⊢
    have ht : tk Z a = T := (Fr_tk hF a).trans htk
    have e2 : Z.1 T 2 = Int32.ofNat n := by rw [hF.1 _ _ (by unfold Pw; omega)]; exact t1
    rw [f_39_8, ht, e2, if_pos ((ofNat_le (by omega) (by omega)).mpr (Nat.le_refl _))]
    exact ⟨Z, rfl, hF, hWd⟩
