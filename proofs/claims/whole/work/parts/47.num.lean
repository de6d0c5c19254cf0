/-! numbers without wrap-around -/
theorem a32 {x y : Int32} (h1 : -2147483648 ≤ x.toInt + y.toInt) (h2 : x.toInt + y.toInt < 2147483648) : (x + y).toInt = x.toInt + y.toInt := by
  rw [Int32.toInt_add]; exact Int.bmod_eq_of_le (by omega) (by omega)
theorem s32 {x y : Int32} (h1 : -2147483648 ≤ x.toInt - y.toInt) (h2 : x.toInt - y.toInt < 2147483648) : (x - y).toInt = x.toInt - y.toInt := by
  rw [Int32.toInt_sub]; exact Int.bmod_eq_of_le (by omega) (by omega)
theorem m32 {x y : Int32} (h1 : -2147483648 ≤ x.toInt * y.toInt) (h2 : x.toInt * y.toInt < 2147483648) : (x * y).toInt = x.toInt * y.toInt := by
  rw [Int32.toInt_mul]; exact Int.bmod_eq_of_le (by omega) (by omega)
theorem n32 {x : Int32} (h1 : -2147483647 ≤ x.toInt) : (-x).toInt = -x.toInt := by
  have := x.toInt_lt
  rw [Int32.toInt_neg]; exact Int.bmod_eq_of_le (by omega) (by omega)
theorem a64 {x y : Int64} (h1 : -9223372036854775808 ≤ x.toInt + y.toInt) (h2 : x.toInt + y.toInt < 9223372036854775808) : (x + y).toInt = x.toInt + y.toInt := by
  rw [Int64.toInt_add]; exact Int.bmod_eq_of_le (by omega) (by omega)
theorem s64 {x y : Int64} (h1 : -9223372036854775808 ≤ x.toInt - y.toInt) (h2 : x.toInt - y.toInt < 9223372036854775808) : (x - y).toInt = x.toInt - y.toInt := by
  rw [Int64.toInt_sub]; exact Int.bmod_eq_of_le (by omega) (by omega)
theorem m64 {x y : Int64} (h1 : -9223372036854775808 ≤ x.toInt * y.toInt) (h2 : x.toInt * y.toInt < 9223372036854775808) : (x * y).toInt = x.toInt * y.toInt := by
  rw [Int64.toInt_mul]; exact Int.bmod_eq_of_le (by omega) (by omega)
theorem n64 {x : Int64} (h1 : -9223372036854775807 ≤ x.toInt) : (-x).toInt = -x.toInt := by
  have := x.toInt_lt
  rw [Int64.toInt_neg]; exact Int.bmod_eq_of_le (by omega) (by omega)
theorem w64 (x : Int32) : x.toInt64.toInt = x.toInt := Int32.toInt_toInt64 x
theorem t32 {x : Int64} (h1 : -2147483648 ≤ x.toInt) (h2 : x.toInt < 2147483648) : x.toInt32.toInt = x.toInt := by
  rw [Int64.toInt_toInt32]; exact Int.bmod_eq_of_le (by omega) (by omega)
theorem pb {a b A B : Int} (h1 : -A ≤ a) (h2 : a ≤ A) (h3 : -B ≤ b) (h4 : b ≤ B) : -(A * B) ≤ a * b ∧ a * b ≤ A * B := by
  have k1 := Int.mul_nonneg (by omega : 0 ≤ A - a) (by omega : 0 ≤ B - b)
  have k2 := Int.mul_nonneg (by omega : 0 ≤ A + a) (by omega : 0 ≤ B + b)
  have k3 := Int.mul_nonneg (by omega : 0 ≤ A - a) (by omega : 0 ≤ B + b)
  have k4 := Int.mul_nonneg (by omega : 0 ≤ A + a) (by omega : 0 ≤ B - b)
  simp only [Int.sub_mul, Int.mul_sub, Int.add_mul, Int.mul_add] at k1 k2 k3 k4
  omega
theorem pbn {a b A B : Int} (h1 : 0 ≤ a) (h2 : a ≤ A) (h3 : 0 ≤ b) (h4 : b ≤ B) : 0 ≤ a * b ∧ a * b ≤ A * B :=
  ⟨Int.mul_nonneg h1 h3, Int.mul_le_mul h2 h4 h3 (by omega)⟩
theorem sqn (d : Int) : 0 ≤ d * d := by
  rcases Int.le_total 0 d with h | h
  · exact Int.mul_nonneg h h
  · exact Int.mul_nonneg_of_nonpos_of_nonpos h h
/-! what is lost at a distance -/
def zl (q : Int32) (d : Int) : Int := if q = 0 then d * d else if 0 ≤ d then d else -d
theorem zl_bd {q : Int32} {d : Int} (h1 : -5000 ≤ d) (h2 : d ≤ 5000) : 0 ≤ zl q d ∧ zl q d ≤ 25000000 := by
  have k := pb h1 h2 h1 h2
  have k2 := sqn d
  unfold zl
  split
  · omega
  · split <;> omega
theorem zl_le {q : Int32} {d e : Int} : zl q d ≤ zl q e ↔ d.natAbs ≤ e.natAbs := by
  unfold zl
  split
  · rw [← Int.natAbs_mul_self' d, ← Int.natAbs_mul_self' e]
    constructor
    · intro h
      rw [← Int.natCast_mul, ← Int.natCast_mul] at h
      exact Nat.mul_self_le_mul_self_iff.mp (by omega)
    · intro h
      have := Nat.mul_self_le_mul_self_iff.mpr h
      rw [← Int.natCast_mul, ← Int.natCast_mul]
      omega
  · split <;> split <;> omega
theorem zl_c {U : sU} {T : Nat} {d : Int64} (h1 : -5000 ≤ d.toInt) (h2 : d.toInt ≤ 5000) : (f_105 T d U).toInt = zl (U.1 T 6) d.toInt := by
  have k := pb h1 h2 h1 h2
  have e0 : (0 : Int64).toInt = 0 := rfl
  unfold f_105 zl
  split
  · exact m64 (by omega) (by omega)
  · by_cases h : 0 ≤ lg_cmp d 0
    · rw [if_pos h, if_pos (by rw [cmp_ge] at h; omega)]
    · rw [if_neg h, if_neg (by rw [cmp_ge] at h; omega)]
      exact n64 (by omega)
/-! sums, searches, loops -/
def zs (f : Nat → Int) : Nat → Int
  | 0 => 0
  | n + 1 => zs f n + f n
theorem zs_congr {f g : Nat → Int} : ∀ {n : Nat}, (∀ i, i < n → f i = g i) → zs f n = zs g n := by
  intro n
  induction n with
  | zero => intro _; rfl
  | succ n ih =>
    intro h
    unfold zs
    rw [ih (fun i hi => h i (by omega)), h n (by omega)]
theorem zs_bd {f : Nat → Int} {B : Int} : ∀ {n : Nat}, n ≤ 12 → (∀ i, i < n → 0 ≤ f i ∧ f i ≤ B) → 0 ≤ B → 0 ≤ zs f n ∧ zs f n ≤ 12 * B := by
  have : ∀ n : Nat, (∀ i, i < n → 0 ≤ f i ∧ f i ≤ B) → 0 ≤ B → 0 ≤ zs f n ∧ zs f n ≤ n * B := by
    intro n
    induction n with
    | zero => intro _ _; unfold zs; omega
    | succ n ih =>
      intro h hB
      have h1 := ih (fun i hi => h i (by omega)) hB
      have h2 := h n (by omega)
      unfold zs
      have e : ((n + 1 : Nat) : Int) * B = n * B + B := by rw [Int.natCast_add, Int.add_mul]; omega
      omega
  intro n hn h hB
  have h1 := this n h hB
  have h2 : (n : Int) * B ≤ 12 * B := Int.mul_le_mul_of_nonneg_right (by omega) hB
  omega
theorem zs_bs {f : Nat → Int} {B : Int} : ∀ {n : Nat}, n ≤ 12 → (∀ i, i < n → -B ≤ f i ∧ f i ≤ B) → 0 ≤ B → -(12 * B) ≤ zs f n ∧ zs f n ≤ 12 * B := by
  have : ∀ n : Nat, (∀ i, i < n → -B ≤ f i ∧ f i ≤ B) → 0 ≤ B → -(n * B) ≤ zs f n ∧ zs f n ≤ n * B := by
    intro n
    induction n with
    | zero => intro _ _; unfold zs; omega
    | succ n ih =>
      intro h hB
      have h1 := ih (fun i hi => h i (by omega)) hB
      have h2 := h n (by omega)
      unfold zs
      have e : ((n + 1 : Nat) : Int) * B = n * B + B := by rw [Int.natCast_add, Int.add_mul]; omega
      omega
  intro n hn h hB
  have h1 := this n h hB
  have h2 : (n : Int) * B ≤ 12 * B := Int.mul_le_mul_of_nonneg_right (by omega) hB
  omega
theorem zs_le {f g : Nat → Int} : ∀ {n : Nat}, (∀ i, i < n → f i ≤ g i) → zs f n ≤ zs g n := by
  intro n
  induction n with
  | zero => intro _; exact Int.le_refl _
  | succ n ih =>
    intro h
    have h1 := ih (fun i hi => h i (by omega))
    have h2 := h n (by omega)
    unfold zs
    omega
theorem zs_ge {f : Nat → Int} {j : Nat} : ∀ {n : Nat}, (∀ i, i < n → 0 ≤ f i) → j < n → f j ≤ zs f n := by
  intro n
  induction n with
  | zero => intro _ h; omega
  | succ n ih =>
    intro h hj
    have h0 : 0 ≤ zs f n := by
      clear ih hj
      induction n with
      | zero => exact Int.le_refl _
      | succ n ih =>
        have := ih (fun i hi => h i (by omega))
        have := h n (by omega)
        unfold zs
        omega
    unfold zs
    by_cases e : j = n
    · subst e; omega
    · have := ih (fun i hi => h i (by omega)) (by omega)
      have := h n (by omega)
      omega
theorem zs_add (f g : Nat → Int) : ∀ n : Nat, zs (fun i => f i + g i) n = zs f n + zs g n := by
  intro n
  induction n with
  | zero => rfl
  | succ n ih => unfold zs; rw [ih]; omega
theorem zs_mul (c : Int) (f : Nat → Int) : ∀ n : Nat, zs (fun i => c * f i) n = c * zs f n := by
  intro n
  induction n with
  | zero => unfold zs; rw [Int.mul_zero]
  | succ n ih => unfold zs; rw [ih, Int.mul_add]
/-- the first of m places from k on -/
def zf (p : Nat → Bool) : Nat → Nat → Option Nat
  | 0, _ => none
  | m + 1, k => if p k then some k else zf p m (k + 1)
theorem zf_congr {p q : Nat → Bool} : ∀ {m k : Nat}, (∀ i, k ≤ i → i < k + m → p i = q i) → zf p m k = zf q m k := by
  intro m
  induction m with
  | zero => intro k _; rfl
  | succ m ih =>
    intro k h
    unfold zf
    rw [h k (by omega) (by omega), ih (fun i h1 h2 => h i (by omega) (by omega))]
theorem zf_none {p : Nat → Bool} : ∀ {m k : Nat}, zf p m k = none ↔ ∀ i, k ≤ i → i < k + m → p i = false := by
  intro m
  induction m with
  | zero => intro k; exact ⟨fun _ i h1 h2 => by omega, fun _ => rfl⟩
  | succ m ih =>
    intro k
    unfold zf
    by_cases h : p k = true
    · rw [if_pos h]
      exact ⟨fun q => (by cases q), fun q => by rw [q k (by omega) (by omega)] at h; cases h⟩
    · rw [if_neg h, ih]
      constructor
      · intro q i h1 h2
        by_cases e : i = k
        · subst e; exact eq_false_of_ne_true h
        · exact q i (by omega) (by omega)
      · intro q i h1 h2
        exact q i (by omega) (by omega)
theorem zf_some {p : Nat → Bool} : ∀ {m k i : Nat}, zf p m k = some i → k ≤ i ∧ i < k + m ∧ p i = true ∧ ∀ j, k ≤ j → j < i → p j = false := by
  intro m
  induction m with
  | zero => intro k i h; cases h
  | succ m ih =>
    intro k i h
    unfold zf at h
    by_cases hp : p k = true
    · rw [if_pos hp] at h
      cases h
      exact ⟨by omega, by omega, hp, fun j h1 h2 => by omega⟩
    · rw [if_neg hp] at h
      obtain ⟨a1, a2, a3, a4⟩ := ih h
      refine ⟨by omega, by omega, a3, fun j h1 h2 => ?_⟩
      by_cases e : j = k
      · subst e; exact eq_false_of_ne_true hp
      · exact a4 j (by omega) h2
/-- a loop of N rounds -/
theorem loop_ex {σ β : Type} (F : Nat → σ → β) (I : Nat → σ → Prop) (Q : β → Prop) (N : Nat)
    (step : ∀ k s n, k < N → I k s → Q (F (n + 1) s) ∨ ∃ s', I (k + 1) s' ∧ F (n + 1) s = F n s')
    (fin : ∀ s n, I N s → Q (F (n + 1) s)) : ∀ m k n s, k + m = N → m < n → I k s → Q (F n s) := by
  intro m
  induction m with
  | zero =>
    intro k n s hk hn hI
    obtain ⟨n, rfl⟩ : ∃ q, n = q + 1 := ⟨n - 1, by omega⟩
    have : k = N := by omega
    subst this
    exact fin s n hI
  | succ m ih =>
    intro k n s hk hn hI
    obtain ⟨n, rfl⟩ : ∃ q, n = q + 1 := ⟨n - 1, by omega⟩
    rcases step k s n (by omega) hI with h | ⟨s', h1, h2⟩
    · exact h
    · rw [h2]
      exact ih (k + 1) n s' (by omega) (by omega) h1
theorem ediv_uniq {a b q : Int} (hb : 0 < b) (h1 : b * q ≤ a) (h2 : a < b * q + b) : a / b = q :=
  ((Int.ediv_emod_unique hb (r := a - b * q)).mpr ⟨by omega, by omega, by omega⟩).1
theorem tdiv_nn {a b : Int} (h : a < 0) : a.tdiv b = -((-a) / b) := by
  have e := Int.neg_tdiv (-a) b
  rw [Int.neg_neg] at e
  rw [e, Int.tdiv_eq_ediv_of_nonneg (by omega)]
/-- division to the floor, from that to zero -/
theorem floor_of {a b : Int} (hb : 0 < b) (ha : a < 0) : (a.tdiv b * b = a → a / b = a.tdiv b) ∧ (¬ a.tdiv b * b = a → a / b = a.tdiv b - 1) ∧ a ≤ a.tdiv b * b := by
  rw [tdiv_nn ha]
  have k1 := Int.mul_ediv_add_emod (-a) b
  have k2 := Int.emod_nonneg (-a) (by omega : b ≠ 0)
  have k3 := Int.emod_lt_of_pos (-a) hb
  have e1 : -(-a / b) * b = -(b * (-a / b)) := by rw [Int.neg_mul, Int.mul_comm]
  have e2 : b * -(-a / b) = -(b * (-a / b)) := by rw [Int.mul_neg]
  have e3 : b * (-(-a / b) - 1) = -(b * (-a / b)) - b := by rw [Int.mul_sub, e2]; omega
  refine ⟨fun h => ediv_uniq hb (by omega) (by omega), fun h => ediv_uniq hb (by omega) (by omega), by omega⟩
theorem xor_sign {x y : Int64} (hy : 0 ≤ y.toInt) : 0 ≤ (x ^^^ y).toInt ↔ 0 ≤ x.toInt := by
  have h : (x.toBitVec ^^^ y.toBitVec).msb = (x.toBitVec.msb ^^ y.toBitVec.msb) := BitVec.msb_xor
  rw [← Int64.toBitVec_xor, BitVec.msb_eq_toInt, BitVec.msb_eq_toInt, BitVec.msb_eq_toInt] at h
  change decide ((x ^^^ y).toInt < 0) = (decide (x.toInt < 0) ^^ decide (y.toInt < 0)) at h
  rw [decide_eq_false (by omega : ¬ y.toInt < 0), Bool.xor_false] at h
  have := decide_eq_decide.mp h
  omega
theorem xor_sign32 {x y : Int32} (hy : 0 ≤ y.toInt) : 0 ≤ (x ^^^ y).toInt ↔ 0 ≤ x.toInt := by
  have h : (x.toBitVec ^^^ y.toBitVec).msb = (x.toBitVec.msb ^^ y.toBitVec.msb) := BitVec.msb_xor
  rw [← Int32.toBitVec_xor, BitVec.msb_eq_toInt, BitVec.msb_eq_toInt, BitVec.msb_eq_toInt] at h
  change decide ((x ^^^ y).toInt < 0) = (decide (x.toInt < 0) ^^ decide (y.toInt < 0)) at h
  rw [decide_eq_false (by omega : ¬ y.toInt < 0), Bool.xor_false] at h
  have := decide_eq_decide.mp h
  omega
theorem tdiv_bd {a b : Int} (hb : 0 < b) : (0 ≤ a → 0 ≤ a.tdiv b ∧ a.tdiv b ≤ a) ∧ (a < 0 → a ≤ a.tdiv b ∧ a.tdiv b ≤ 0) := by
  constructor
  · intro h
    rw [Int.tdiv_eq_ediv_of_nonneg h]
    exact ⟨Int.ediv_nonneg h (by omega), Int.ediv_le_self _ h⟩
  · intro h
    rw [tdiv_nn h]
    have := Int.ediv_nonneg (by omega : 0 ≤ -a) (by omega : 0 ≤ b)
    have := Int.ediv_le_self (a := -a) b (by omega)
    omega
theorem div64 {x y : Int64} (hy : 0 < y.toInt) : (x / y).toInt = x.toInt.tdiv y.toInt :=
  Int64.toInt_div_of_ne_right x y (by intro h; rw [h] at hy; exact absurd hy (by decide))
theorem div32 {x y : Int32} (hy : 0 < y.toInt) : (x / y).toInt = x.toInt.tdiv y.toInt :=
  Int32.toInt_div_of_ne_right x y (by intro h; rw [h] at hy; exact absurd hy (by decide))
theorem i64_eq {x y : Int64} : x = y ↔ x.toInt = y.toInt := Int64.toInt_inj.symm
theorem cmp_eq {x y : Int64} : lg_cmp x y = 0 ↔ x.toInt = y.toInt := by
  have h1 := cmp_ge (x := x) (y := y)
  have h2 := cmp_le (x := x) (y := y)
  have e0 : (0 : Int32).toInt = 0 := rfl
  rw [i32_le, e0] at h1 h2
  rw [i32_eq, e0]
  omega
theorem cmp_lt {x y : Int64} : lg_cmp x y < 0 ↔ x.toInt < y.toInt := by
  have h1 := cmp_ge (x := x) (y := y)
  have e0 : (0 : Int32).toInt = 0 := rfl
  rw [i32_le, e0] at h1
  rw [i32_lt, e0]
  omega
theorem zf_eq {p : Nat → Bool} {i : Nat} : ∀ {m k : Nat}, k ≤ i → i < k + m → p i = true → (∀ j, k ≤ j → j < i → p j = false) → zf p m k = some i := by
  intro m
  induction m with
  | zero => intro k h1 h2; omega
  | succ m ih =>
    intro k h1 h2 h3 h4
    unfold zf
    by_cases e : k = i
    · subst e; rw [if_pos h3]
    · rw [h4 k (by omega) (by omega), if_neg (by decide)]
      exact ih (by omega) (by omega) h3 (fun j q1 q2 => h4 j (by omega) q2)
/-- Math.floorDiv by a number above 0 -/
theorem f284_eq {x y : Int64} {U : sU} (hy : 0 < y.toInt) (hx : -4611686018427387904 ≤ x.toInt) : ∃ r, f_284 x y U = some r ∧ r.toInt = x.toInt / y.toInt := by
  have e0 : (0 : Int64).toInt = 0 := rfl
  have e1 : (1 : Int64).toInt = 1 := rfl
  have k := div64 (x := x) hy
  have b := tdiv_bd (a := x.toInt) hy
  have ub := x.toInt_lt
  unfold f_284
  rw [if_pos (by rw [i64_eq]; omega)]
  by_cases hx0 : 0 ≤ x.toInt
  · rw [if_pos (cmp_ge.mpr (by rw [e0]; exact (xor_sign (by omega)).mpr hx0))]
    exact ⟨_, rfl, by rw [k, Int.tdiv_eq_ediv_of_nonneg hx0]⟩
  · rw [if_neg (fun g => hx0 ((xor_sign (y := y) (by omega)).mp (by have := cmp_ge.mp g; rwa [e0] at this)))]
    obtain ⟨q1, q2, q3⟩ := floor_of hy (by omega : x.toInt < 0)
    have b2 := b.2 (by omega)
    have bm : x.toInt.tdiv y.toInt * y.toInt ≤ 0 := Int.mul_nonpos_of_nonpos_of_nonneg b2.2 (by omega)
    have km : (x / y * y).toInt = x.toInt.tdiv y.toInt * y.toInt := by
      rw [m64 (by rw [k]; omega) (by rw [k]; omega), k]
    by_cases h : x.toInt.tdiv y.toInt * y.toInt = x.toInt
    · rw [if_pos (cmp_eq.mpr (by rw [km, h]))]
      exact ⟨_, rfl, by rw [k, q1 h]⟩
    · rw [if_neg (fun g => h (by have := cmp_eq.mp g; rwa [km] at this))]
      refine ⟨_, rfl, ?_⟩
      rw [s64 (by rw [k, e1]; omega) (by rw [k, e1]; omega), k, e1, q2 h]
theorem f283_eq {x y : Int32} {U : sU} (hy : 0 < y.toInt) (hx : -1000000000 ≤ x.toInt) : ∃ r, f_283 x y U = some r ∧ r.toInt = x.toInt / y.toInt := by
  have e0 : (0 : Int32).toInt = 0 := rfl
  have e1 : (1 : Int32).toInt = 1 := rfl
  have k := div32 (x := x) hy
  have b := tdiv_bd (a := x.toInt) hy
  have ub := x.toInt_lt
  unfold f_283
  rw [if_pos (by rw [i32_eq]; omega)]
  by_cases hx0 : 0 ≤ x.toInt
  · rw [if_pos (i32_le.mpr (by rw [e0]; exact (xor_sign32 (by omega)).mpr hx0))]
    exact ⟨_, rfl, by rw [k, Int.tdiv_eq_ediv_of_nonneg hx0]⟩
  · rw [if_neg (fun g => hx0 ((xor_sign32 (y := y) (by omega)).mp (by have := i32_le.mp g; rwa [e0] at this)))]
    obtain ⟨q1, q2, q3⟩ := floor_of hy (by omega : x.toInt < 0)
    have b2 := b.2 (by omega)
    have bm : x.toInt.tdiv y.toInt * y.toInt ≤ 0 := Int.mul_nonpos_of_nonpos_of_nonneg b2.2 (by omega)
    have km : (x / y * y).toInt = x.toInt.tdiv y.toInt * y.toInt := by
      rw [m32 (by rw [k]; omega) (by rw [k]; omega), k]
    by_cases h : x.toInt.tdiv y.toInt * y.toInt = x.toInt
    · rw [if_pos (i32_eq.mpr (by rw [km, h]))]
      exact ⟨_, rfl, by rw [k, q1 h]⟩
    · rw [if_neg (fun g => h (by have := i32_eq.mp g; rwa [km] at this))]
      refine ⟨_, rfl, ?_⟩
      rw [s32 (by rw [k, e1]; omega) (by rw [k, e1]; omega), k, e1, q2 h]
