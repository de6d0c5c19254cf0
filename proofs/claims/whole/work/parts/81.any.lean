/-! any: all ways to part the truths -/
def gL (L : List Nat) (i : Nat) : Nat := L.getD i 0
def zmx (W : Nat → Nat) : Nat → Nat
  | 0 => 0
  | t + 1 => if zmx W t < W t then W t else zmx W t
/-- the last below k that fits -/
def zlt (p : Nat → Bool) : Nat → Option Nat
  | 0 => none
  | k + 1 => if p k then some k else zlt p k
def zgo (K : Nat) (W : Nat → Nat) (t : Nat) : Bool := decide (0 < t) && decide (W t ≤ zmx W t) && decide (W t + 1 < K)
def upL (n t : Nat) (L : List Nat) : List Nat := (List.range n).map fun i => if i < t then gL L i else if i = t then gL L t + 1 else 0
def nextL (n K : Nat) (L : List Nat) : Option (List Nat) := match zlt (zgo K (gL L)) n with
  | none => none
  | some t => some (upL n t L)
def seqL (n K : Nat) : Nat → List Nat → List (List Nat)
  | 0, _ => []
  | m + 1, L => L :: (match nextL n K L with
    | none => []
    | some L' => seqL n K m L')
def zerL (n : Nat) : List Nat := (List.range n).map fun _ => 0
/-- words come up in turn -/
def goodL (n : Nat) (L : List Nat) : Bool := decide (zmx (gL L) n < 12) && ((List.range n).all fun i => decide (gL L i ≤ zmx (gL L) n)) && ((List.range (zmx (gL L) n + 1)).all fun w => (List.range n).any fun i => gL L i == w)
def seq_ok (n : Nat) : Bool := decide ((seqL n 100 204 (zerL n)).length < 204) && ((seqL n 100 204 (zerL n)).all (goodL n)) && ((List.range 13).all fun K => K == 0 || (seqL n K 203 (zerL n) == (seqL n 100 204 (zerL n)).filter fun L => decide (zmx (gL L) n + 1 ≤ K)))
theorem seq_all : ∀ n, n < 7 → n = 0 ∨ seq_ok n = true := by decide +kernel
theorem hears_m3 {M : sU} {t n b : Nat} {W : Nat → Nat} (h : MT M t n) {x : Int32} (hx : x.toInt = t) (hB : Bk M n W b) (hW : Bw n W b) : ∃ V, f_235 x M = some V ∧ Same M V ∧ Bk V n W b ∧ Hd M V t n W b ∧ ∀ j, V.1 310 j = M.1 310 j := by
  have h0 := h
  obtain ⟨t8, ⟨t1, t2, t3, t4, t5, t6, t7, _, t9, t10, t11⟩, h1, h2, h3, h4, h5, h6, h7, h8, h9⟩ := h
  obtain ⟨b1, b12, w1, w2⟩ := hW
  have ex : x.toNatClampNeg = t := by rw [clamp_int]; omega
  have i8 : ib x 8 := ib_int.mpr (by omega)
  have loT : 5 + 5 * t < 210 := by omega
  -- one block
  have one : ∀ (Z : sU) (k : Nat), Same M Z → Bk Z n W b → k < b → ∀ (l : Int32), -600 ≤ l.toInt ∧ l.toInt ≤ 600 → ∃ r Y, f_210 x (Int32.ofNat (zth W k n)) l Z = some (r, Y) ∧ FrW Z Y ∧ r.toInt = hH M (5 + 5 * t) n W l.toInt k := by
    intro Z k hS hBZ hk l hl
    obtain ⟨i, hi, hik⟩ := w2 k hk
    obtain ⟨r, Y, r1, r2, r3⟩ := doneAt_m (MT_same h0 hS) (q := zth W k n) hx hl (zth_lt t3) ⟨i, hi, zth_test.mpr ⟨hi, hik⟩⟩
    refine ⟨r, Y, r1, r2, ?_⟩
    rw [r3, ← hH_same hS (by omega)]
    unfold hH
    refine zlst_congr (fun j hj => ?_) (fun j _ => rfl)
    unfold zow
    by_cases e : W j = k
    · rw [if_pos (zth_test.mpr ⟨hj, e⟩), if_pos e]
    · rw [if_neg (fun g => e (zth_test.mp g).2), if_neg e]
  unfold f_235
  refine loop_ex (fun m (s : Int32 × sU) => f_235_2 m x s.1 s.2) (fun k s => s.1 = Int32.ofNat k ∧ Same M s.2 ∧ Bk s.2 n W b ∧ (∀ w, w < k → (s.2.1 308 w).toInt = hH M (5 + 5 * t) n W (M.1 (5 + 5 * t) 4).toInt w) ∧ (M.1 (5 + 5 * t) 7 = 1 → ∀ w, w < k → (s.2.1 309 w).toInt = hH M (5 + 5 * t) n W (M.1 (5 + 5 * t) 8).toInt w) ∧ ∀ j, s.2.1 310 j = M.1 310 j) (fun o => ∃ V, o = some V ∧ Same M V ∧ Bk V n W b ∧ Hd M V t n W b ∧ ∀ j, V.1 310 j = M.1 310 j) b ?_ ?_ b 0 FU (0, M) (by omega) (by unfold FU; omega) ⟨rfl, Same.rf M, hB, fun w hw => by omega, fun _ w hw => by omega, fun _ => rfl⟩
  · rintro k ⟨c, Z⟩ m hk ⟨rfl, hS, hBZ, hz, hz2, h310⟩
    dsimp only at hS hBZ hz hz2 h310 ⊢
    refine Or.inr ?_
    have hMZ := MT_same h0 hS
    have z288 : Z.1 288 t = Int32.ofNat n := hMZ.2.2.1
    rw [f_235_2, hBZ.2, if_neg (fun q => by have := (ofNat_le (by omega) (by omega)).mp q; omega)]
    -- the inner loop
    refine loop_ex (fun m' (s : Int32 × Int32) => f_235_15 (fun v1 v2 U => f_235_2 m v1 v2 U) m' x (Int32.ofNat k) s.1 s.2 Z) (fun i s => s.2 = Int32.ofNat i ∧ s.1 = Int32.ofNat (zth W k i)) (fun o => ∃ s' : Int32 × sU, (s'.1 = Int32.ofNat (k + 1) ∧ Same M s'.2 ∧ Bk s'.2 n W b ∧ (∀ w, w < k + 1 → (s'.2.1 308 w).toInt = hH M (5 + 5 * t) n W (M.1 (5 + 5 * t) 4).toInt w) ∧ (M.1 (5 + 5 * t) 7 = 1 → ∀ w, w < k + 1 → (s'.2.1 309 w).toInt = hH M (5 + 5 * t) n W (M.1 (5 + 5 * t) 8).toInt w) ∧ ∀ j, s'.2.1 310 j = M.1 310 j) ∧ o = f_235_2 m x s'.1 s'.2) n ?_ ?_ n 0 FU (0, 0) (by omega) (by unfold FU; omega) ⟨rfl, rfl⟩
    · rintro i ⟨p, q⟩ m' hi ⟨rfl, rfl⟩
      dsimp only
      refine Or.inr ?_
      have wi := w1 i hi
      rw [f_235_15]
      simp only [if_pos i8, ex, z288]
      rw [if_neg (fun q => by have := (ofNat_le (by omega) (by omega)).mp q; omega), if_pos (ib_ofNat (by omega) (by omega)), ofNat_clamp (by omega), hBZ.1 i hi, ofNat_succ]
      by_cases e : W i = k
      · rw [if_pos (by rw [e]), shl_k (by omega), ← or_ofNat]
        exact ⟨(Int32.ofNat (zth W k i ||| 2 ^ i), Int32.ofNat (i + 1)), ⟨rfl, by dsimp only; rw [zth_y e]⟩, rfl⟩
      · rw [if_neg (ofNat_ne (by omega) (by omega) e)]
        exact ⟨(Int32.ofNat (zth W k i), Int32.ofNat (i + 1)), ⟨rfl, by dsimp only; rw [zth_n e]⟩, rfl⟩
    · rintro ⟨p, q⟩ m' ⟨rfl, rfl⟩
      dsimp only
      have z290 : Z.1 290 t = M.1 (5 + 5 * t) 4 := by rw [hMZ.2.2.2.2.1.1, hS.lo loT]
      obtain ⟨r, Y, r1, r2, r3⟩ := one Z k hS hBZ hk (M.1 (5 + 5 * t) 4) (by omega)
      have s1 : Same M (sI Y 308 k r) := (hS.tr r2.same).sI _ (by unfold scr; omega)
      have hM1 := MT_same h0 s1
      have bk1 : Bk (sI Y 308 k r) n W b := Bk_of hBZ (fun i => by rw [sI_ne (by omega), r2.1]) (by rw [sI_ne (by omega), r2.1])
      have z293 : (sI Y 308 k r).1 293 t = M.1 (5 + 5 * t) 7 := by rw [hM1.2.2.2.2.2.2.2.1.1, s1.lo loT]
      have z294 : (sI Y 308 k r).1 294 t = M.1 (5 + 5 * t) 8 := by rw [hM1.2.2.2.2.2.2.2.2.1.1, s1.lo loT]
      have z8 : ∀ w, w < k + 1 → ((sI Y 308 k r).1 308 w).toInt = hH M (5 + 5 * t) n W (M.1 (5 + 5 * t) 4).toInt w := by
        intro w hw
        by_cases e : w = k
        · subst e; rw [sI_at, r3]
        · rw [sI_nj e, r2.1]; exact hz w (by omega)
      rw [f_235_15]
      simp only [if_pos i8, ex, z288, z290, r1, Option.bind_some, if_pos (ib_ofNat (n := 12) (by omega) (show k < 12 by omega)), ofNat_clamp (show k < 2147483648 by omega), z293, z294]
      rw [if_pos ((ofNat_le (by omega) (by omega)).mpr (Nat.le_refl _)), ofNat_succ]
      by_cases e1 : M.1 (5 + 5 * t) 7 = 1
      · rw [if_pos e1]
        obtain ⟨y, X, y1, y2, y3⟩ := one (sI Y 308 k r) k s1 bk1 hk (M.1 (5 + 5 * t) 8) (by omega)
        rw [y1, Option.bind_some]
        refine ⟨(Int32.ofNat (k + 1), sI X 309 k y), ⟨rfl, (s1.tr y2.same).sI _ (by unfold scr; omega), Bk_of bk1 (fun i => by dsimp only; rw [sI_ne (by omega), y2.1]) (by dsimp only; rw [sI_ne (by omega), y2.1]), fun w hw => ?_, fun _ w hw => ?_, fun j => by dsimp only; rw [sI_ne (by omega), y2.1, sI_ne (by omega), r2.1]; exact h310 j⟩, rfl⟩
        · dsimp only
          rw [sI_ne (by omega), y2.1]
          exact z8 w hw
        · dsimp only
          by_cases e : w = k
          · subst e; rw [sI_at, y3]
          · rw [sI_nj e, y2.1, sI_ne (by omega), r2.1]; exact hz2 e1 w (by omega)
      · rw [if_neg e1]
        refine ⟨(Int32.ofNat (k + 1), sI (sI Y 308 k r) 309 k 0), ⟨rfl, s1.sI _ (by unfold scr; omega), Bk_of bk1 (fun i => by dsimp only; rw [sI_ne (by omega)]) (by dsimp only; rw [sI_ne (by omega)]), fun w hw => ?_, fun g => absurd g e1, fun j => by dsimp only; rw [sI_ne (by omega), sI_ne (by omega), r2.1]; exact h310 j⟩, rfl⟩
        dsimp only
        rw [sI_ne (by omega)]
        exact z8 w hw
  · rintro ⟨c, Z⟩ m ⟨rfl, hS, hBZ, hz, hz2, h310⟩
    dsimp only at hS hBZ hz hz2 h310 ⊢
    rw [f_235_2, hBZ.2, if_pos ((ofNat_le (by omega) (by omega)).mpr (Nat.le_refl _))]
    exact ⟨Z, rfl, hS, hBZ, ⟨hz, hz2⟩, h310⟩
