/-! sets of words as bits -/
def zub (W : Nat → Nat) : Nat → Nat
  | 0 => 0
  | n + 1 => zub W n ||| 2 ^ W n
def zpn (q : Nat) : Nat → Nat
  | 0 => 0
  | k + 1 => zpn q k + (if q.testBit k then 1 else 0)
def zpc (q : Nat) : Nat := zpn q 12
theorem zub_lt {W : Nat → Nat} : ∀ {n : Nat}, (∀ i, i < n → W i < 12) → zub W n < 4096 := by
  intro n
  induction n with
  | zero => intro _; exact (by decide : 0 < 4096)
  | succ n ih =>
    intro h
    exact Nat.or_lt_two_pow (n := 12) (ih (fun i hi => h i (by omega))) (Nat.pow_lt_pow_right (by decide) (h n (by omega)))
theorem zub_test {W : Nat → Nat} {w : Nat} : ∀ {n : Nat}, (zub W n).testBit w = true ↔ ∃ i, i < n ∧ W i = w := by
  intro n
  induction n with
  | zero =>
    unfold zub
    rw [Nat.zero_testBit]
    exact ⟨fun h => (by cases h), fun ⟨i, h, _⟩ => (by omega)⟩
  | succ n ih =>
    unfold zub
    rw [Nat.testBit_or, Bool.or_eq_true, ih, Nat.testBit_two_pow, decide_eq_true_iff]
    constructor
    · rintro (⟨i, h1, h2⟩ | h)
      · exact ⟨i, by omega, h2⟩
      · exact ⟨n, by omega, h⟩
    · rintro ⟨i, h1, h2⟩
      by_cases e : i = n
      · subst e; exact Or.inr h2
      · exact Or.inl ⟨i, by omega, h2⟩
theorem zub_congr {W X : Nat → Nat} : ∀ {n : Nat}, (∀ i, i < n → W i = X i) → zub W n = zub X n := by
  intro n
  induction n with
  | zero => intro _; rfl
  | succ n ih =>
    intro h
    unfold zub
    rw [ih (fun i hi => h i (by omega)), h n (by omega)]
theorem nbits_zub {F : Nat → Int32} {W : Nat → Nat} : ∀ {n : Nat}, (∀ i, i < n → (F i).toNatClampNeg = W i) → nbits F n = zub W n := by
  intro n
  induction n with
  | zero => intro _; rfl
  | succ n ih =>
    intro h
    unfold nbits zub
    rw [ih (fun i hi => h i (by omega)), h n (by omega)]
theorem zpn_or {q w : Nat} : ∀ k, zpn (q ||| 2 ^ w) k = zpn q k + (if w < k ∧ q.testBit w = false then 1 else 0) := by
  intro k
  induction k with
  | zero => unfold zpn; rw [if_neg (by omega)]
  | succ k ih =>
    unfold zpn
    rw [ih, Nat.testBit_or, Nat.testBit_two_pow]
    by_cases e : w = k
    · subst e
      rw [decide_eq_true (rfl : w = w), Bool.or_true, if_pos rfl, if_neg (by omega)]
      cases h : q.testBit w with
      | true => rw [if_pos rfl, if_neg (fun h => by cases h.2)]
      | false => rw [if_neg (by decide), if_pos ⟨by omega, rfl⟩]
    · rw [decide_eq_false e, Bool.or_false]
      by_cases h : w < k ∧ q.testBit w = false
      · have h2 : w < k + 1 ∧ q.testBit w = false := ⟨by omega, h.2⟩
        simp only [if_pos h, if_pos h2]
        omega
      · have h2 : ¬ (w < k + 1 ∧ q.testBit w = false) := fun g => h ⟨by omega, g.2⟩
        simp only [if_neg h, if_neg h2]
        omega
theorem zpn_le (q : Nat) : ∀ k, zpn q k ≤ k := by
  intro k
  induction k with
  | zero => exact Nat.le_refl _
  | succ k ih => unfold zpn; split <;> omega
theorem zpc_le (q : Nat) : zpc q ≤ 12 := zpn_le q 12
theorem zpn_mono (q : Nat) : ∀ m k, zpn q k ≤ zpn q (k + m) := by
  intro m
  induction m with
  | zero => intro k; exact Nat.le_refl _
  | succ m ih =>
    intro k
    have := ih k
    show zpn q k ≤ zpn q (k + m) + _
    omega
theorem zpc_pos {q w : Nat} (hw : w < 12) (h : q.testBit w = true) : 1 ≤ zpc q := by
  have e : zpn q (w + 1) = zpn q w + 1 := by
    show zpn q w + (if q.testBit w then 1 else 0) = _
    rw [h, if_pos rfl]
  have := zpn_mono q (12 - (w + 1)) (w + 1)
  rw [show w + 1 + (12 - (w + 1)) = 12 by omega] at this
  unfold zpc
  omega
def bitc (q : Nat) : Bool := f_282 (Int32.ofNat q) Ud == Int32.ofNat (zpc q)
theorem bitc_all : (List.range 4096).all bitc = true := by decide +kernel
theorem f282_eq {q : Nat} (h : q < 4096) (V : sU) : f_282 (Int32.ofNat q) V = Int32.ofNat (zpc q) := by
  have k := List.all_eq_true.mp bitc_all q (List.mem_range.mpr h)
  exact eq_of_beq k
theorem f214_eq {q : Nat} (h : q < 4096) (V : sU) : f_214 (Int32.ofNat q) V = some (Int32.ofNat (zpc q)) := by
  rw [pop_eq h V V, f282_eq h]
theorem shr_nat {q w : Nat} (hq : q < 2147483648) (hw : w < 32) : Int32.ofNat q >>> (Int32.ofNat w &&& 31) = Int32.ofNat (q / 2 ^ w) := by
  have e : ∀ w, w < 32 → (Int32.ofNat w &&& 31).toBitVec.smod 32 = BitVec.ofNat 32 w := by decide
  have e2 : (BitVec.ofNat 32 w).toNat = w := by rw [BitVec.toNat_ofNat]; exact Nat.mod_eq_of_lt (by omega)
  have e3 : (Int32.ofNat q).toBitVec.toInt = q := ofNat_int hq
  have e4 : q / 2 ^ w ≤ q := Nat.div_le_self _ _
  apply Int32.toInt_inj.mp
  show (BitVec.sshiftRight' (Int32.ofNat q).toBitVec ((Int32.ofNat w &&& 31).toBitVec.smod 32)).toInt = _
  rw [e w hw, BitVec.sshiftRight_eq', e2, BitVec.toInt_sshiftRight, e3, Int.shiftRight_eq_div_pow, ofNat_int (by omega)]
  norm_cast
theorem and_ofNat (a b : Nat) : Int32.ofNat (a &&& b) = Int32.ofNat a &&& Int32.ofNat b := by
  apply Int32.toBitVec_inj.mp
  simp [Int32.toBitVec_and]
theorem bit_any {q w : Nat} (h : q < 2147483648) (hw : w < 32) : ((Int32.ofNat q >>> (Int32.ofNat w &&& 31)) &&& 1) = Int32.ofNat (if q.testBit w then 1 else 0) := by
  have e1 : (1 : Int32) = Int32.ofNat 1 := rfl
  rw [shr_nat h hw, e1, ← and_ofNat, Nat.and_one_is_mod, Nat.testBit_eq_decide_div_mod_eq]
  have : q / 2 ^ w % 2 < 2 := Nat.mod_lt _ (by omega)
  by_cases k : q / 2 ^ w % 2 = 1
  · rw [k]; rfl
  · have k0 : q / 2 ^ w % 2 = 0 := by omega
    rw [k0]; rfl
theorem bit_at {q w : Nat} (h : q < 4096) (hw : w < 12) : ((((Int32.ofNat q >>> (Int32.ofNat w &&& 31)) &&& 1) = 1) ↔ q.testBit w = true) ∧ ((Int32.ofNat q >>> (Int32.ofNat w &&& 31)) = 0 ↔ q < 2 ^ w) ∧ ((Int32.ofNat q >>> (Int32.ofNat w &&& 31)) &&& 1) = Int32.ofNat (if q.testBit w then 1 else 0) := by
  have k3 := bit_any (q := q) (w := w) (by omega) (by omega)
  refine ⟨?_, ?_, k3⟩
  · rw [k3]
    by_cases k : q.testBit w = true
    · rw [if_pos k]; exact ⟨fun _ => k, fun _ => rfl⟩
    · rw [if_neg k]; exact ⟨fun g => absurd g (by decide), fun g => absurd g k⟩
  · rw [shr_nat (by omega) (by omega)]
    have e4 : q / 2 ^ w ≤ q := Nat.div_le_self _ _
    have e5 : 0 < 2 ^ w := Nat.two_pow_pos w
    rw [← Nat.div_eq_zero_iff_lt e5]
    constructor
    · intro g
      have := congrArg Int32.toNatClampNeg g
      rwa [ofNat_clamp (by omega)] at this
    · intro g; rw [g]; rfl
theorem f43_eq {V : sU} {a q w : Nat} (h9 : V.1 a 9 = Int32.ofNat q) (h : q < 4096) (hw : w < 12) : f_43 a (Int32.ofNat w) V = if q.testBit w then 1 else 0 := by
  have e12 : (12 : Int32).toInt = 12 := rfl
  unfold f_43
  rw [if_neg (by rw [i32_lt0, ofNat_int (by omega)]; omega), if_neg (by rw [i32_le, e12, ofNat_int (by omega)]; omega), h9]
  by_cases k : q.testBit w = true
  · rw [if_pos ((bit_at h hw).1.mpr k), if_pos k]
  · rw [if_neg (fun g => k ((bit_at h hw).1.mp g)), if_neg k]
theorem f43_no {V : sU} {a : Nat} {x : Int32} (h : ¬ (0 ≤ x.toInt ∧ x.toInt < 12)) : f_43 a x V = 0 := by
  have e12 : (12 : Int32).toInt = 12 := rfl
  unfold f_43
  by_cases h1 : x < 0
  · rw [if_pos h1]
  rw [if_neg h1]
  rw [i32_lt0] at h1
  rw [if_pos (by rw [i32_le, e12]; omega)]
/-! frames -/
def Fr (P : Nat → Nat → Prop) (U V : sU) : Prop := (∀ x j, ¬ P x j → V.1 x j = U.1 x j) ∧ V.2 = U.2
theorem Fr.rf (P : Nat → Nat → Prop) (U : sU) : Fr P U U := ⟨fun _ _ _ => rfl, rfl⟩
theorem Fr.tr {P : Nat → Nat → Prop} {U V W : sU} (h : Fr P U V) (k : Fr P V W) : Fr P U W := ⟨fun x j q => (k.1 x j q).trans (h.1 x j q), k.2.trans h.2⟩
theorem Fr.mono {P Q : Nat → Nat → Prop} {U V : sU} (h : Fr P U V) (k : ∀ x j, P x j → Q x j) : Fr Q U V := ⟨fun x j q => h.1 x j (fun g => q (k x j g)), h.2⟩
theorem Fr.sI {P : Nat → Nat → Prop} {U V : sU} (h : Fr P U V) {a i : Nat} (v : Int32) (q : P a i) : Fr P U (sI V a i v) := by
  refine ⟨fun b j hb => ?_, h.2⟩
  by_cases h1 : b = a
  · subst h1
    by_cases h2 : j = i
    · subst h2; exact absurd q hb
    · rw [sI_nj h2]; exact h.1 b j hb
  · rw [sI_ne h1]; exact h.1 b j hb
theorem Fr.same {P : Nat → Nat → Prop} {U V : sU} (h : Fr P U V) (k : ∀ x j, P x j → scr x j) : Same U V := ⟨fun x j q => h.1 x j (fun g => q (k x j g)), fun x j _ => by rw [h.2]⟩
theorem Fr_tk {P : Nat → Nat → Prop} {U V : sU} (h : Fr P U V) (a : Nat) : tk V a = tk U a := by
  unfold tk
  rw [h.2]
