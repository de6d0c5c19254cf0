/-! the words a meaning uses, as bits -/
theorem f214_U (U : sU) : ∀ n (a b : Int32), f_214_4 n a b U = f_214_4 n a b Ud := by
  intro n
  induction n with
  | zero => intro a b; rfl
  | succ n ih =>
    intro a b
    rw [f_214_4, f_214_4, ih]
theorem pop_eq {k : Nat} (h : k < 4096) (U V : sU) : f_214 (Int32.ofNat k) U = some (f_282 (Int32.ofNat k) V) := by
  have q := List.all_eq_true.mp popc_all k (List.mem_range.mpr h)
  have e : f_214 (Int32.ofNat k) U = f_214 (Int32.ofNat k) Ud := f214_U U FU 0 (Int32.ofNat k)
  have e2 : f_282 (Int32.ofNat k) V = f_282 (Int32.ofNat k) Ud := rfl
  rw [e, e2]
  unfold popc at q
  split at q
  · rename_i r hr
    rw [hr, eq_of_beq q]
  · cases q
def nbits (W : Nat → Int32) : Nat → Nat
  | 0 => 0
  | n + 1 => nbits W n ||| 2 ^ (W n).toNatClampNeg
theorem nbits_lt {W : Nat → Int32} : ∀ {n : Nat}, (∀ i, i < n → 0 ≤ (W i).toInt ∧ (W i).toInt < 12) → nbits W n < 4096 := by
  intro n
  induction n with
  | zero => intro _; exact (by decide : 0 < 4096)
  | succ n ih =>
    intro h
    have h1 := ih (fun i hi => h i (by omega))
    have h2 := h n (by omega)
    have h3 : (W n).toNatClampNeg < 12 := by rw [clamp_int]; omega
    exact Nat.or_lt_two_pow (n := 12) h1 (Nat.pow_lt_pow_right (by decide) h3)
theorem nbits_congr {W X : Nat → Int32} : ∀ {n : Nat}, (∀ i, i < n → W i = X i) → nbits W n = nbits X n := by
  intro n
  induction n with
  | zero => intro _; rfl
  | succ n ih =>
    intro h
    unfold nbits
    rw [ih (fun i hi => h i (by omega)), h n (by omega)]
theorem or_ofNat (a b : Nat) : Int32.ofNat (a ||| b) = Int32.ofNat a ||| Int32.ofNat b := by
  apply Int32.toBitVec_inj.mp
  simp [Int32.toBitVec_or]
theorem shl1 {w : Int32} (h : 0 ≤ w.toInt ∧ w.toInt < 12) : (1 : Int32) <<< (w &&& 31) = Int32.ofNat (2 ^ w.toNatClampNeg) := by
  have e := clamp_int w
  rw [i32_nat h.1, ofNat_clamp (by omega)]
  exact (by decide : ∀ k, k < 12 → (1 : Int32) <<< (Int32.ofNat k &&& 31) = Int32.ofNat (2 ^ k)) _ (by omega)
theorem ub_c {U : sU} {a o N : Nat} {W : Nat → Int32} (hN : N ≤ 12) (ho : U.1 o 2 = Int32.ofNat N) (hW : ∀ i, i < N → iget (a + 1) (Int32.ofNat i) U = W i ∧ 0 ≤ (W i).toInt ∧ (W i).toInt < 12) : ∀ m k n, k + m = N → m < n → f_164_17 n a (some o) (Int32.ofNat (nbits W k)) (Int32.ofNat k) U = some (Int32.ofNat (nbits W N)) := by
  intro m
  induction m with
  | zero =>
    intro k n hk hn
    obtain ⟨n, rfl⟩ : ∃ q, n = q + 1 := ⟨n - 1, by omega⟩
    have : k = N := by omega
    subst this
    rw [f_164_17, ho, if_pos ((ofNat_le (by omega) (by omega)).mpr (by omega))]
  | succ m ih =>
    intro k n hk hn
    obtain ⟨n, rfl⟩ : ∃ q, n = q + 1 := ⟨n - 1, by omega⟩
    obtain ⟨w1, w2, w3⟩ := hW k (by omega)
    rw [f_164_17, ho, if_neg (fun q => by have := (ofNat_le (by omega) (by omega)).mp q; omega), w1, shl1 ⟨w2, w3⟩, ← or_ofNat, ofNat_succ]
    exact ih (k + 1) n (by omega) (by omega)
theorem ub_m {U : sU} {v1 : Int32} {mm t N : Nat} {W : Nat → Int32} (hN : N ≤ 12) (h1 : v1.toInt = mm) (h12 : mm < 12) (h2 : U.1 298 mm = Int32.ofNat t) (ht : t < 8) (h3 : U.1 288 t = Int32.ofNat N) (hW : ∀ i, i < N → U.1 301 (12 * mm + i) = W i ∧ 0 ≤ (W i).toInt ∧ (W i).toInt < 12) : ∀ m k n, k + m = N → m < n → f_217_4 n v1 (Int32.ofNat (nbits W k)) (Int32.ofNat k) U = some (Int32.ofNat (nbits W N)) := by
  have e1 : v1.toNatClampNeg = mm := by rw [clamp_int]; omega
  have i1 : ib v1 12 := ib_int.mpr (by omega)
  have i2 : ib (Int32.ofNat t) 8 := ib_ofNat (by decide) ht
  intro m
  induction m with
  | zero =>
    intro k n hk hn
    obtain ⟨n, rfl⟩ : ∃ q, n = q + 1 := ⟨n - 1, by omega⟩
    have : k = N := by omega
    subst this
    rw [f_217_4, if_pos i1, e1, h2, if_pos i2, ofNat_clamp (by omega), h3, if_pos ((ofNat_le (by omega) (by omega)).mpr (by omega))]
  | succ m ih =>
    intro k n hk hn
    obtain ⟨n, rfl⟩ : ∃ q, n = q + 1 := ⟨n - 1, by omega⟩
    obtain ⟨w1, w2, w3⟩ := hW k (by omega)
    obtain ⟨m1, m2⟩ := mul12 (s := v1) (i := Int32.ofNat k) h1 (ofNat_int (by omega)) h12 (by omega)
    rw [f_217_4, if_pos i1, e1, h2, if_pos i2, ofNat_clamp (by omega), h3, if_neg (fun q => by have := (ofNat_le (by omega) (by omega)).mp q; omega), if_pos (ib_int.mpr (by omega)), m2, w1, shl1 ⟨w2, w3⟩, ← or_ofNat, ofNat_succ]
    exact ih (k + 1) n (by omega) (by omega)
/-- the same bits on both sides -/
theorem used_eq {U : sU} {nT nM : Nat} (h : InvN nT nM U) {k : Int32} (hk : 0 ≤ k.toInt ∧ k.toInt < nM) : ∃ q, q < 4096 ∧ f_164 (45 + 5 * k.toNatClampNeg) U = some (Int32.ofNat q) ∧ f_217 k U = some (Int32.ofNat q) := by
  obtain ⟨e1, e2, e3, e4, n12⟩ := mat_yes h hk
  obtain ⟨q1, q2, q3, q4, ⟨t, q5, q6, q7⟩, q8⟩ := mg_facts h e2
  obtain ⟨n, _, hn, p0, p0', _, _, p3, _⟩ := tk_facts h q5
  have n8 := h.1.1.2.2.1
  rw [p0, ofNat_clamp (by omega)] at q7
  have ht : (Int32.ofNat t).toInt = t := ofNat_int (by omega)
  have et : (Int32.ofNat t).toNatClampNeg = t := ofNat_clamp (by omega)
  obtain ⟨t1, _⟩ := tat_yes h (x := Int32.ofNat t) (by omega)
  rw [et] at t1
  have l := ln_mg k.toNatClampNeg (by omega)
  have hW : ∀ i, i < n → 0 ≤ (U.1 (47 + 5 * k.toNatClampNeg) i).toInt ∧ (U.1 (47 + 5 * k.toNatClampNeg) i).toInt < 12 := fun i hi => by have := q7 i hi; omega
  refine ⟨nbits (U.1 (47 + 5 * k.toNatClampNeg)) n, nbits_lt hW, ?_, ?_⟩
  · unfold f_164
    rw [q6, t1]
    refine ub_c hn p0 (W := U.1 (47 + 5 * k.toNatClampNeg)) ?_ n 0 FU (by omega) (by unfold FU; omega)
    intro i hi
    refine ⟨?_, hW i hi⟩
    unfold iget
    rw [if_pos (ib_ofNat (ln_lt _) (by omega)), ofNat_clamp (by omega), show 45 + 5 * k.toNatClampNeg + 1 + 1 = 47 + 5 * k.toNatClampNeg by omega]
  · unfold f_217
    exact ub_m hn e4 (by omega) (q2.trans q6) (by omega) p0' (W := U.1 (47 + 5 * k.toNatClampNeg)) (fun i hi => ⟨(q7 i hi).1, hW i hi⟩) n 0 FU (by omega) (by unfold FU; omega)
