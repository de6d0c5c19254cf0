/-! talk: the readers of both sides, letter by letter -/
def zT (U : sU) (s L j : Nat) : Int32 := if j < L then rW U s j else 0
def zEnv (U V0 : sU) (s L : Nat) : Prop := s < 8 ∧ L ≤ 64 ∧ ∀ j, j < 64 → V0.2.1 286 (64 * s + j) = U.2.1 (265 + 2 * s) j
def Cf (U S : sU) : Prop := S.2 = U.2 ∧ ∀ b j, ¬ (210 ≤ b ∧ b < 218) → S.1 b j = U.1 b j
def Mf (V0 V : sU) : Prop := V.2 = V0.2 ∧ ∀ b j, ¬ (b = 280 ∧ 25 ≤ j ∧ j < 39) → b ≠ 303 → b ≠ 304 → V.1 b j = V0.1 b j
def Bad (U V0 S V : sU) : Prop := Cf U S ∧ Mf V0 V ∧ ∃ e : Nat, e ≤ 64 ∧ S.1 215 3 = Int32.ofNat e ∧ V.1 280 30 = Int32.ofNat e
def Jp (U V0 : sU) (s L : Nat) (S V : sU) (p : Nat) : Prop := Cf U S ∧ Mf V0 V ∧ S.1 215 1 = Int32.ofNat L ∧ S.1 215 2 = Int32.ofNat p ∧ S.1 215 3 = -1 ∧ (∀ j, j < 64 → S.1 217 j = zT U s L j) ∧ V.1 280 25 = Int32.ofNat (64 * s) ∧ V.1 280 26 = Int32.ofNat p ∧ V.1 280 27 = Int32.ofNat L ∧ p ≤ L
/-- only the reader's own places changed -/
def Kp (S V S' V' : sU) : Prop := S'.2 = S.2 ∧ (∀ b j, b ≠ 215 → S'.1 b j = S.1 b j) ∧ V'.2 = V.2 ∧ ∀ b j, ¬ (b = 280 ∧ 26 ≤ j ∧ j ≤ 30) → V'.1 b j = V.1 b j
theorem Kp.rf (S V : sU) : Kp S V S V := ⟨rfl, fun _ _ _ => rfl, rfl, fun _ _ _ => rfl⟩
theorem Kp.tr {S V S' V' T W : sU} (h : Kp S V S' V') (k : Kp S' V' T W) : Kp S V T W := ⟨k.1.trans h.1, fun b j q => (k.2.1 b j q).trans (h.2.1 b j q), k.2.2.1.trans h.2.2.1, fun b j q => (k.2.2.2 b j q).trans (h.2.2.2 b j q)⟩
/-- both sides refuse at one place, or both go on -/
def Out (U V0 : sU) (c m : Option (Int32 × sU)) (Q : sU → sU → Prop) : Prop := (∃ S V, c = some (0, S) ∧ m = some (0, V) ∧ Bad U V0 S V) ∨ (∃ S V, c = some (1, S) ∧ m = some (1, V) ∧ Q S V)
theorem Out.bind {U V0 : sU} {c m : Option (Int32 × sU)} {Q R : sU → sU → Prop} {g h : Int32 × sU → Option (Int32 × sU)} (k : Out U V0 c m Q) (hq : ∀ S V, Q S V → Out U V0 (g (1, S)) (h (1, V)) R) (hg : ∀ S, g (0, S) = some (0, S)) (hh : ∀ V, h (0, V) = some (0, V)) : Out U V0 (Option.bind c g) (Option.bind m h) R := by
  rcases k with ⟨S, V, rfl, rfl, hb⟩ | ⟨S, V, rfl, rfl, hb⟩
  · exact Or.inl ⟨S, V, hg S, hh V, hb⟩
  · exact hq S V hb
theorem Out.mono {U V0 : sU} {c m : Option (Int32 × sU)} {Q R : sU → sU → Prop} (k : Out U V0 c m Q) (hq : ∀ S V, Q S V → R S V) : Out U V0 c m R := by
  rcases k with k | ⟨S, V, h1, h2, h3⟩
  · exact Or.inl k
  · exact Or.inr ⟨S, V, h1, h2, hq S V h3⟩
theorem ln_217 : ln (216 + 1) = 64 := by decide +kernel
theorem letter_c {U V0 S V : sU} {s L p : Nat} (hE : zEnv U V0 s L) (h : Jp U V0 s L S V p) : iget 216 (S.1 215 2) S = zT U s L p := by
  obtain ⟨_, hL, _⟩ := hE
  obtain ⟨_, _, _, h2, _, h4, _, _, _, hp⟩ := h
  unfold iget
  rw [h2, ln_217]
  by_cases c : p < 64
  · rw [if_pos (ib_ofNat (by omega) c), ofNat_clamp (by omega)]; exact h4 p c
  · rw [if_neg (fun q => by have := ib_int.mp q; rw [ofNat_int (by omega)] at this; omega)]
    unfold zT
    rw [if_neg (by omega)]
theorem letter_m {U V0 S V : sU} {s L p : Nat} (hE : zEnv U V0 s L) (h : Jp U V0 s L S V p) : f_190 V = some (if p < L then rW U s p else -1) := by
  obtain ⟨hs, hL, he⟩ := hE
  obtain ⟨_, hM, _, _, _, _, g1, g2, g3, hp⟩ := h
  unfold f_190
  rw [g1, g2, g3]
  by_cases c : p < L
  · have e : (Int32.ofNat (64 * s) + Int32.ofNat p).toInt = 64 * s + p := by
      rw [a32 (by rw [ofNat_int (by omega), ofNat_int (by omega)]; omega) (by rw [ofNat_int (by omega), ofNat_int (by omega)]; omega), ofNat_int (by omega), ofNat_int (by omega)]
      omega
    have ec : (Int32.ofNat (64 * s) + Int32.ofNat p).toNatClampNeg = 64 * s + p := by rw [clamp_int, e]; omega
    rw [if_neg (fun q => by have := (ofNat_le (by omega) (by omega)).mp q; omega), if_pos (ib_int.mpr (by rw [e]; omega)), if_pos c, ec, hM.1, he p (by omega)]
    rfl
  · rw [if_pos ((ofNat_le (by omega) (by omega)).mpr (by omega)), if_neg c]
theorem end_m {U V0 S V : sU} {s L p : Nat} (hE : zEnv U V0 s L) (h : Jp U V0 s L S V p) : (V.1 280 27 ≤ V.1 280 26) ↔ ¬ p < L := by
  obtain ⟨hs, hL, he⟩ := hE
  obtain ⟨_, _, _, _, _, _, g1, g2, g3, hp⟩ := h
  rw [g2, g3, ofNat_le (by omega) (by omega)]
  omega
theorem f16_eq {U V0 S V : sU} {s L p : Nat} (hE : zEnv U V0 s L) (h : Jp U V0 s L S V p) {x : Int32} (hx : x ≠ 0) : f_16 215 x S = if p < L ∧ rW U s p = x then 1 else 0 := by
  unfold f_16
  rw [letter_c hE h]
  unfold zT
  by_cases c : p < L
  · rw [if_pos c]
    by_cases e : rW U s p = x
    · rw [if_pos e, if_pos ⟨c, e⟩]
    · rw [if_neg e, if_neg (fun q => e q.2)]
  · rw [if_neg c, if_neg (fun q => hx q.symm), if_neg (fun q => c q.1)]
/-- one letter on for both -/
theorem Jp_next {U V0 S V : sU} {s L p : Nat} (hE : zEnv U V0 s L) (h : Jp U V0 s L S V p) (hp : p < L) : Jp U V0 s L (sI S 215 2 (S.1 215 2 + 1)) (sI V 280 26 (V.1 280 26 + 1)) (p + 1) ∧ Kp S V (sI S 215 2 (S.1 215 2 + 1)) (sI V 280 26 (V.1 280 26 + 1)) := by
  obtain ⟨⟨c1, c2⟩, ⟨m1, m2⟩, h1, h2, h3, h4, h5, h6, h7, h8⟩ := h
  have fr : ∀ b j, ¬ (b = 280 ∧ 26 ≤ j ∧ j ≤ 30) → (sI V 280 26 (V.1 280 26 + 1)).1 b j = V.1 b j := by
    intro b j q
    by_cases e : b = 280
    · subst e; exact sI_nj (by omega)
    · exact sI_ne e
  refine ⟨⟨⟨c1, fun b j q => by rw [sI_ne (by omega)]; exact c2 b j q⟩, ⟨m1, fun b j q r t => by rw [fr b j (by omega)]; exact m2 b j q r t⟩, by rw [sI_nj (by omega)]; exact h1, ?_, by rw [sI_nj (by omega)]; exact h3, fun j hj => by rw [sI_ne (by omega)]; exact h4 j hj, by rw [sI_nj (by omega)]; exact h5, ?_, by rw [sI_nj (by omega)]; exact h7, by omega⟩, rfl, fun b j q => sI_ne q, rfl, fr⟩
  · rw [sI_at, h2, ofNat_succ]
  · rw [sI_at, h6, ofNat_succ]
theorem Jp_bad {U V0 S V : sU} {s L p e : Nat} (hE : zEnv U V0 s L) (h : Jp U V0 s L S V p) (he : e ≤ 64) : Bad U V0 (sI S 215 3 (Int32.ofNat e)) (sI V 280 30 (Int32.ofNat e)) := by
  obtain ⟨⟨c1, c2⟩, ⟨m1, m2⟩, _⟩ := h
  refine ⟨⟨c1, fun b j q => by rw [sI_ne (by omega)]; exact c2 b j q⟩, ⟨m1, fun b j q r t => ?_⟩, e, he, sI_at, sI_at⟩
  by_cases eb : b = 280
  · subst eb; rw [sI_nj (by omega)]; exact m2 _ _ q r t
  · rw [sI_ne eb]; exact m2 _ _ q r t
theorem one_letter {U V0 S V : sU} {s L p : Nat} (hE : zEnv U V0 s L) (h : Jp U V0 s L S V p) {x : Int32} (hx : x ≠ 0) : Out U V0 (some (f_18 215 x S)) (f_191 x V) (fun S' V' => Jp U V0 s L S' V' (p + 1) ∧ Kp S V S' V') := by
  have e2 : S.1 215 2 = Int32.ofNat p := h.2.2.2.1
  have g2 : V.1 280 26 = Int32.ofNat p := h.2.2.2.2.2.2.2.1
  have hL := hE.2.1
  have hpL : p ≤ L := h.2.2.2.2.2.2.2.2.2
  have b := Jp_bad hE h (show p ≤ 64 by omega)
  by_cases k : p < L ∧ rW U s p = x
  · have cc : f_18 215 x S = (1, sI S 215 2 (S.1 215 2 + 1)) := by
      unfold f_18
      rw [f16_eq hE h hx, if_pos k, if_neg (by decide)]
    have mm : f_191 x V = some (1, sI V 280 26 (V.1 280 26 + 1)) := by
      unfold f_191
      rw [if_neg (fun q => (end_m hE h).mp q k.1), letter_m hE h, Option.bind_some, if_pos k.1, if_pos k.2]
    rw [cc, mm]
    obtain ⟨k1, k2⟩ := Jp_next hE h k.1
    exact Or.inr ⟨_, _, rfl, rfl, k1, k2⟩
  · have cc : f_18 215 x S = (0, sI S 215 3 (Int32.ofNat p)) := by
      unfold f_18
      rw [f16_eq hE h hx, if_neg k, if_pos rfl, e2]
      rfl
    have mm : f_191 x V = some (0, sI V 280 30 (Int32.ofNat p)) := by
      unfold f_191
      by_cases c : p < L
      · rw [if_neg (fun q => (end_m hE h).mp q c), letter_m hE h, Option.bind_some, if_pos c, if_neg (fun q => k ⟨c, q⟩), g2]
      · rw [if_pos ((end_m hE h).mpr c), g2]
    rw [cc, mm]
    exact Or.inl ⟨_, _, rfl, rfl, b⟩
