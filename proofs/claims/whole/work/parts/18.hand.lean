/-! small methods whose runs never get stuck: nicer words for them -/
theorem ln_lt (a : Nat) : ln a < 1000 := by
  by_cases h : a < 314
  · exact (by decide +kernel : ∀ a, a < 314 → ln a < 1000) a h
  · unfold ln
    rw [List.getD_eq_getElem?_getD, List.getElem?_eq_none (by rw [sm_shape_len]; omega)]
    decide
theorem ofNat_int {n : Nat} (h : n < 2147483648) : (Int32.ofNat n).toInt = n := Int32.toInt_ofNat_of_lt h
theorem clamp_int (x : Int32) : x.toNatClampNeg = x.toInt.toNat := rfl
theorem ofNat_clamp {n : Nat} (h : n < 2147483648) : (Int32.ofNat n).toNatClampNeg = n := by rw [clamp_int, ofNat_int h]; rfl
theorem i32_lt0 {x : Int32} : x < 0 ↔ x.toInt < 0 := Int32.lt_iff_toInt_lt
theorem i32_le {x y : Int32} : x ≤ y ↔ x.toInt ≤ y.toInt := Int32.le_iff_toInt_le
theorem i32_lt {x y : Int32} : x < y ↔ x.toInt < y.toInt := Int32.lt_iff_toInt_lt
theorem ib_iff {x : Int32} {n : Nat} (hn : n < 1000) : ib x n ↔ ¬ x < 0 ∧ ¬ Int32.ofNat n ≤ x := by
  have e := ofNat_int (n := n) (by omega)
  have e2 := clamp_int x
  unfold ib
  rw [i32_le, i32_lt0, e, e2]
  omega
theorem ib_ite {α : Type} {x : Int32} {n : Nat} (hn : n < 1000) {e t : Option α} : (if x < 0 then e else if Int32.ofNat n ≤ x then e else if ib x n then t else none) = if ib x n then t else e := by
  by_cases h : ib x n
  · obtain ⟨h1, h2⟩ := (ib_iff hn).mp h
    rw [if_neg h1, if_neg h2, if_pos h, if_pos h]
  · rw [if_neg h, if_neg h]
    by_cases h1 : x < 0
    · rw [if_pos h1]
    · rw [if_neg h1]
      by_cases h2 : Int32.ofNat n ≤ x
      · rw [if_pos h2]
      · exact absurd ((ib_iff hn).mpr ⟨h1, h2⟩) h
def iget (a : Nat) (x : Int32) (U : sU) : Int32 := if ib x (ln (a + 1)) then U.1 (a + 1) x.toNatClampNeg else 0
theorem iget_eq (a : Nat) (x : Int32) (U : sU) : f_9 a x U = some (iget a x U) := by
  unfold f_9
  rw [ib_ite (ln_lt _)]
  unfold iget
  split <;> rfl
theorem U_9 (d a : Nat) (ha : sh a = 1) (x : Int32) (U : sU) : Rn (d + 0) sm_I9 [.ref a, .int x] U (some (.int (iget a x U))) U := F_9 d a ha x (iget_eq a x U)
def iput (a : Nat) (x v : Int32) (U : sU) : sU := if ib x (ln (a + 1)) then sI U (a + 1) x.toNatClampNeg v else U
theorem iput_eq (a : Nat) (x v : Int32) (U : sU) : f_10 a x v U = some (iput a x v U) := by
  unfold f_10
  rw [ib_ite (ln_lt _)]
  unfold iput
  split <;> rfl
theorem U_10 (d a : Nat) (ha : sh a = 1) (x v : Int32) (U : sU) : Rn (d + 0) sm_I10 [.ref a, .int x, .int v] U none (iput a x v U) := F_10 d a ha x v (iput_eq a x v U)
/-- the first k numbers of a are those of f -/
def iset (a : Nat) (f : Nat → Int32) (k : Nat) (U : sU) : sU := (fun b j => if b = a ∧ j < k then f j else U.1 b j, U.2.1, U.2.2)
theorem iset_zero (a : Nat) (f : Nat → Int32) (U : sU) : iset a f 0 U = U := by
  unfold iset
  have : (fun b j => if b = a ∧ j < 0 then f j else U.1 b j) = U.1 := by
    funext b j
    exact if_neg (fun h => Nat.not_lt_zero _ h.2)
  rw [this]
theorem iset_succ (a : Nat) (f : Nat → Int32) (k : Nat) (U : sU) : sI (iset a f k U) a k (f k) = iset a f (k + 1) U := by
  unfold iset sI
  dsimp only
  congr 1
  funext b j
  by_cases hb : b = a
  · subst hb
    rw [if_pos rfl]
    by_cases hj : j = k
    · subst hj
      rw [if_pos rfl, if_pos ⟨rfl, Nat.lt_succ_self _⟩]
    · rw [if_neg hj]
      by_cases h : j < k
      · rw [if_pos ⟨rfl, h⟩, if_pos ⟨rfl, by omega⟩]
      · rw [if_neg (fun q => h q.2), if_neg (fun q => h (by omega))]
  · rw [if_neg hb, if_neg (fun q => hb q.1), if_neg (fun q => hb q.1)]
def jset (a : Nat) (f : Nat → Int64) (k : Nat) (U : sU) : sU := (U.1, fun b j => if b = a ∧ j < k then f j else U.2.1 b j, U.2.2)
theorem jset_zero (a : Nat) (f : Nat → Int64) (U : sU) : jset a f 0 U = U := by
  unfold jset
  have : (fun b j => if b = a ∧ j < 0 then f j else U.2.1 b j) = U.2.1 := by
    funext b j
    exact if_neg (fun h => Nat.not_lt_zero _ h.2)
  rw [this]
theorem jset_succ (a : Nat) (f : Nat → Int64) (k : Nat) (U : sU) : sJ (jset a f k U) a k (f k) = jset a f (k + 1) U := by
  unfold jset sJ
  dsimp only
  congr 2
  funext b j
  by_cases hb : b = a
  · subst hb
    rw [if_pos rfl]
    by_cases hj : j = k
    · subst hj
      rw [if_pos rfl, if_pos ⟨rfl, Nat.lt_succ_self _⟩]
    · rw [if_neg hj]
      by_cases h : j < k
      · rw [if_pos ⟨rfl, h⟩, if_pos ⟨rfl, by omega⟩]
      · rw [if_neg (fun q => h q.2), if_neg (fun q => h (by omega))]
  · rw [if_neg hb, if_neg (fun q => hb q.1), if_neg (fun q => hb q.1)]
theorem ofNat_succ (k : Nat) : Int32.ofNat k + 1 = Int32.ofNat (k + 1) := by rw [Int32.ofNat_add]; rfl
theorem ofNat_le {n k : Nat} (hn : n < 1000) (hk : k < 1000) : Int32.ofNat n ≤ Int32.ofNat k ↔ n ≤ k := by
  rw [i32_le, ofNat_int (by omega), ofNat_int (by omega)]
  omega
theorem ib_ofNat {k n : Nat} (hn : n < 1000) (hk : k < n) : ib (Int32.ofNat k) n := by
  rw [ib_iff hn, i32_lt0, ofNat_int (by omega), ofNat_le hn (by omega)]
  omega
def iclr (a : Nat) (U : sU) : sU := iset (a + 1) (fun _ => 0) (ln (a + 1)) U
theorem iclr_run (a : Nat) (U : sU) : ∀ m k n, k + m = ln (a + 1) → m < n → f_11_2 n a (Int32.ofNat k) (iset (a + 1) (fun _ => 0) k U) = some (iclr a U) := by
  have hl := ln_lt (a + 1)
  intro m
  induction m with
  | zero =>
    intro k n hk hn
    obtain ⟨n, rfl⟩ : ∃ q, n = q + 1 := ⟨n - 1, by omega⟩
    rw [f_11_2, if_pos ((ofNat_le hl (by omega)).mpr (by omega))]
    unfold iclr
    rw [← hk]
    rfl
  | succ m ih =>
    intro k n hk hn
    obtain ⟨n, rfl⟩ : ∃ q, n = q + 1 := ⟨n - 1, by omega⟩
    rw [f_11_2, if_neg (fun q => by have := (ofNat_le hl (by omega)).mp q; omega), if_pos (ib_ofNat hl (by omega)), ofNat_clamp (by omega), ofNat_succ, iset_succ (a + 1) (fun _ => 0)]
    exact ih (k + 1) n (by omega) (by omega)
theorem iclr_eq (a : Nat) (U : sU) : f_11 a U = some (iclr a U) := by
  have := iclr_run a U (ln (a + 1)) 0 FU (by omega) (by have := ln_lt (a + 1); unfold FU; omega)
  rw [iset_zero] at this
  exact this
theorem U_11 (d a : Nat) (ha : sh a = 1) (U : sU) : Rn (d + 0) sm_I11 [.ref a] U none (iclr a U) := F_11 d a ha (iclr_eq a U)
def icpy (a x : Nat) (U : sU) : sU := iset (a + 1) (fun j => iget x (Int32.ofNat j) U) (ln (a + 1)) U
theorem icpy_get (a x k : Nat) (U : sU) (hk : k < 1000) : iget x (Int32.ofNat k) (iset (a + 1) (fun j => iget x (Int32.ofNat j) U) k U) = iget x (Int32.ofNat k) U := by
  conv => lhs; unfold iget iset
  conv => rhs; unfold iget
  split
  · dsimp only
    rw [ofNat_clamp (by omega), if_neg (fun q => Nat.lt_irrefl _ q.2)]
  · rfl
theorem icpy_run (a x : Nat) (U : sU) : ∀ m k n, k + m = ln (a + 1) → m < n → f_12_2 n a x (Int32.ofNat k) (iset (a + 1) (fun j => iget x (Int32.ofNat j) U) k U) = some (icpy a x U) := by
  have hl := ln_lt (a + 1)
  intro m
  induction m with
  | zero =>
    intro k n hk hn
    obtain ⟨n, rfl⟩ : ∃ q, n = q + 1 := ⟨n - 1, by omega⟩
    rw [f_12_2, if_pos ((ofNat_le hl (by omega)).mpr (by omega))]
    unfold icpy
    rw [← hk]
    rfl
  | succ m ih =>
    intro k n hk hn
    obtain ⟨n, rfl⟩ : ∃ q, n = q + 1 := ⟨n - 1, by omega⟩
    rw [f_12_2, if_neg (fun q => by have := (ofNat_le hl (by omega)).mp q; omega), iget_eq, Option.bind_some, if_pos (ib_ofNat hl (by omega)), ofNat_clamp (by omega), ofNat_succ, icpy_get a x k U (by omega)]
    have := iset_succ (a + 1) (fun j => iget x (Int32.ofNat j) U) k U
    rw [this]
    exact ih (k + 1) n (by omega) (by omega)
theorem icpy_eq (a x : Nat) (U : sU) : f_12 a x U = some (icpy a x U) := by
  have := icpy_run a x U (ln (a + 1)) 0 FU (by omega) (by have := ln_lt (a + 1); unfold FU; omega)
  rw [iset_zero] at this
  exact this
theorem U_12 (d a : Nat) (ha : sh a = 1) (x : Nat) (hx : sh x = 1) (U : sU) : Rn (d + 1) sm_I12 [.ref a, .ref x] U none (icpy a x U) := F_12 d a ha x hx (icpy_eq a x U)
theorem f85_ib {a : Nat} {x : Int32} {U : sU} (h : ¬ f_85 a x U = 0) : ib x (ln (a + 1)) := by
  unfold f_85 at h
  rw [ib_iff (ln_lt _)]
  by_cases h1 : x < 0
  · rw [if_pos h1] at h; exact absurd rfl h
  · rw [if_neg h1] at h
    by_cases h2 : U.1 a 3 ≤ x
    · rw [if_pos h2] at h; exact absurd rfl h
    · rw [if_neg h2] at h
      by_cases h3 : Int32.ofNat (ln (a + 1)) ≤ x
      · rw [if_pos h3] at h; exact absurd rfl h
      · exact ⟨h1, h3⟩
def jget (a : Nat) (x : Int32) (U : sU) : Int64 := if f_85 a x U = 0 then 0 else U.2.1 (a + 1) x.toNatClampNeg
theorem jget_eq (a : Nat) (x : Int32) (U : sU) : f_87 a x U = some (jget a x U) := by
  unfold f_87 jget
  by_cases h : f_85 a x U = 0
  · rw [if_pos h, if_pos h]
  · rw [if_neg h, if_neg h, if_pos (f85_ib h)]
theorem U_87 (d a : Nat) (ha : sh a = 6) (x : Int32) (U : sU) : Rn (d + 1) sm_I87 [.ref a, .int x] U (some (.long (jget a x U))) U := F_87 d a ha x (jget_eq a x U)
def jput (a : Nat) (x : Int32) (v : Int64) (U : sU) : sU := if f_85 a x U = 0 then U else sJ U (a + 1) x.toNatClampNeg (f_90 a v U)
theorem jput_eq (a : Nat) (x : Int32) (v : Int64) (U : sU) : f_89 a x v U = some (jput a x v U) := by
  unfold f_89 jput
  by_cases h : f_85 a x U = 0
  · rw [if_pos h, if_pos h]
  · rw [if_neg h, if_neg h, if_pos (f85_ib h)]
theorem U_89 (d a : Nat) (ha : sh a = 6) (x : Int32) (v : Int64) (U : sU) : Rn (d + 1) sm_I89 [.ref a, .int x, .long v] U none (jput a x v U) := F_89 d a ha x v (jput_eq a x v U)
theorem jclr_run (a : Nat) (U : sU) : ∀ m k n, k + m = ln (a + 1) → m < n → f_82_38 n a (Int32.ofNat k) (jset (a + 1) (fun _ => 0) k U) = some (jset (a + 1) (fun _ => 0) (ln (a + 1)) U) := by
  have hl := ln_lt (a + 1)
  intro m
  induction m with
  | zero =>
    intro k n hk hn
    obtain ⟨n, rfl⟩ : ∃ q, n = q + 1 := ⟨n - 1, by omega⟩
    rw [f_82_38, if_pos ((ofNat_le hl (by omega)).mpr (by omega)), ← hk]
    rfl
  | succ m ih =>
    intro k n hk hn
    obtain ⟨n, rfl⟩ : ∃ q, n = q + 1 := ⟨n - 1, by omega⟩
    rw [f_82_38, if_neg (fun q => by have := (ofNat_le hl (by omega)).mp q; omega), if_pos (ib_ofNat hl (by omega)), ofNat_clamp (by omega), ofNat_succ, jset_succ (a + 1) (fun _ => 0)]
    exact ih (k + 1) n (by omega) (by omega)
def jlay (a : Nat) (k n : Int32) (U : sU) : sU := jset (a + 1) (fun _ => 0) (ln (a + 1)) (sI (sI (sI (f_83 a U) a 1 1) a 2 k) a 3 (if Int32.ofNat (ln (a + 1)) ≤ n then Int32.ofNat (ln (a + 1)) else n))
theorem jlay_eq (a : Nat) (k n : Int32) (U : sU) : f_82 a k n U = some (jlay a k n U) := by
  have r : ∀ U, f_82_38 FU a 0 U = some (jset (a + 1) (fun _ => 0) (ln (a + 1)) U) := by
    intro U
    have := jclr_run a U (ln (a + 1)) 0 FU (by omega) (by have := ln_lt (a + 1); unfold FU; omega)
    rw [jset_zero] at this
    exact this
  unfold f_82 jlay
  split
  · rw [r]
  · rw [r]
theorem U_82 (d a : Nat) (ha : sh a = 6) (k n : Int32) (U : sU) : Rn (d + 1) sm_I82 [.ref a, .int k, .int n] U none (jlay a k n U) := F_82 d a ha k n (jlay_eq a k n U)
def sat (x : Int32) : Option Nat := if x < 0 then none else if 8 ≤ x then none else some (264 + 2 * x.toNatClampNeg)
theorem sat_eq (x : Int32) (U : sU) : f_160 x U = some (sat x) := by
  unfold f_160 sat
  have := ib_ite (α := Option Nat) (x := x) (n := 8) (by decide) (e := some none) (t := some (some (rfA 1 14 x.toNatClampNeg)))
  refine Eq.trans this ?_
  by_cases h : ib x 8
  · obtain ⟨h1, h2⟩ := (ib_iff (by decide)).mp h
    have h2 : ¬ (8 : Int32) ≤ x := h2
    rw [if_pos h, if_neg h1, if_neg h2]
    rfl
  · rw [if_neg h]
    by_cases h1 : x < 0
    · rw [if_pos h1]
    · rw [if_neg h1]
      by_cases h2 : Int32.ofNat 8 ≤ x
      · exact (congrArg some (if_pos h2)).symm
      · exact absurd ((ib_iff (by decide)).mpr ⟨h1, h2⟩) h
theorem U_160 (d : Nat) (x : Int32) (U : sU) : Rn (d + 0) sm_I160 [.ref 0, .int x] U (some (va_rf (sat x))) U := F_160 d x (sat_eq x U)
theorem tagU_160 (x : Int32) (U : sU) : ∀ z, sat x = some z → sh z = 6 := tag_160 x (sat_eq x U)
def tat (a : Nat) (x : Int32) (U : sU) : Option Nat := if U.1 a 2 ≤ x then none else if ib x (ln (a + 1)) then some (a + 3 + 5 * x.toNatClampNeg) else none
theorem tat_eq (a : Nat) (x : Int32) (U : sU) : f_93 a x U = some (tat a x U) := by
  unfold f_93 tat
  by_cases h : U.1 a 2 ≤ x
  · rw [if_pos h, if_pos h]
    split <;> rfl
  · rw [if_neg h, if_neg h, ib_ite (ln_lt _)]
    split <;> rfl
theorem U_93 (d a : Nat) (ha : sh a = 7) (x : Int32) (U : sU) : Rn (d + 0) sm_I93 [.ref a, .int x] U (some (va_rf (tat a x U))) U := F_93 d a ha x (tat_eq a x U)
theorem tagU_93 (a : Nat) (ha : sh a = 7) (x : Int32) (U : sU) : ∀ z, tat a x U = some z → sh z = 8 := tag_93 a ha x (tat_eq a x U)
def mat (a : Nat) (x : Int32) (U : sU) : Option Nat := if U.1 a 3 ≤ x then none else if ib x (ln (a + 2)) then some (a + 43 + 5 * x.toNatClampNeg) else none
theorem mat_eq (a : Nat) (x : Int32) (U : sU) : f_94 a x U = some (mat a x U) := by
  unfold f_94 mat
  by_cases h : U.1 a 3 ≤ x
  · rw [if_pos h, if_pos h]
    split <;> rfl
  · rw [if_neg h, if_neg h, ib_ite (ln_lt _)]
    split
    · rfl
    · rfl
theorem U_94 (d a : Nat) (ha : sh a = 7) (x : Int32) (U : sU) : Rn (d + 0) sm_I94 [.ref a, .int x] U (some (va_rf (mat a x U))) U := F_94 d a ha x (mat_eq a x U)
theorem tagU_94 (a : Nat) (ha : sh a = 7) (x : Int32) (U : sU) : ∀ z, mat a x U = some z → sh z = 3 := tag_94 a ha x (mat_eq a x U)
def ntk (a : Nat) (U : sU) : Option Nat := if ib (U.1 a 2) (ln (a + 1)) then some (a + 3 + 5 * (U.1 a 2).toNatClampNeg) else none
theorem ntk_eq (a : Nat) (U : sU) : f_95 a U = some (ntk a U) := by
  unfold f_95 ntk
  rw [ib_ite (ln_lt _)]
  split <;> rfl
theorem U_95 (d a : Nat) (ha : sh a = 7) (U : sU) : Rn (d + 0) sm_I95 [.ref a] U (some (va_rf (ntk a U))) U := F_95 d a ha (ntk_eq a U)
theorem tagU_95 (a : Nat) (ha : sh a = 7) (U : sU) : ∀ z, ntk a U = some z → sh z = 8 := tag_95 a ha (ntk_eq a U)
def nmg (a : Nat) (U : sU) : Option Nat := if ib (U.1 a 3) (ln (a + 2)) then some (a + 43 + 5 * (U.1 a 3).toNatClampNeg) else none
theorem nmg_eq (a : Nat) (U : sU) : f_96 a U = some (nmg a U) := by
  unfold f_96 nmg
  rw [ib_ite (ln_lt _)]
  split <;> rfl
theorem U_96 (d a : Nat) (ha : sh a = 7) (U : sU) : Rn (d + 0) sm_I96 [.ref a] U (some (va_rf (nmg a U))) U := F_96 d a ha (nmg_eq a U)
theorem tagU_96 (a : Nat) (ha : sh a = 7) (U : sU) : ∀ z, nmg a U = some z → sh z = 3 := tag_96 a ha (nmg_eq a U)
