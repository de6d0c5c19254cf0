/-! a search's reading: cuts put, settled -/
def Pq (a x j : Nat) : Prop := x = a + 2 ∨ x = a + 4 ∨ x = a + 6 ∨ x = a + 8 ∨ (x = a ∧ (j = 4 ∨ j = 5 ∨ j = 9 ∨ j = 10))
theorem Pq_scr {a x j : Nat} (ha : rdA a) (h : Pq a x j) : scr x j := by
  unfold Pq at h
  unfold scr
  rcases ha with rfl | rfl | rfl <;> omega
def Ss (U V : sU) (a T n : Nat) (l w bl cl : Int32) : Prop := Same U V ∧ rdA a ∧ tk V a = T ∧ Tk U T n ∧ V.1 a 7 = l ∧ V.1 a 8 = w ∧ V.1 a 11 = bl ∧ V.1 a 13 = cl ∧ (-500 ≤ l.toInt ∧ l.toInt ≤ 500) ∧ (-600 ≤ w.toInt ∧ w.toInt ≤ 600) ∧ (bl = 0 ∨ bl = 1) ∧ (0 ≤ cl.toInt ∧ cl.toInt ≤ 100)
theorem Ss_fr {U V Z : sU} {P : Nat → Nat → Prop} {a T n : Nat} {l w bl cl : Int32} (h : Ss U V a T n l w bl cl) (hF : Fr P V Z) (hP : ∀ x j, P x j → scr x j ∧ ¬ (x = a ∧ (j = 7 ∨ j = 8 ∨ j = 11 ∨ j = 13))) : Ss U Z a T n l w bl cl := by
  obtain ⟨s1, s2, s3, s4, s5, s6, s7, s8, s9⟩ := h
  have e : ∀ j, (j = 7 ∨ j = 8 ∨ j = 11 ∨ j = 13) → Z.1 a j = V.1 a j := fun j hj => hF.1 a j (fun q => (hP a j q).2 ⟨rfl, hj⟩)
  exact ⟨s1.tr (hF.same (fun x j q => (hP x j q).1)), s2, (Fr_tk hF a).trans s3, s4, (e 7 (by omega)).trans s5, (e 8 (by omega)).trans s6, (e 11 (by omega)).trans s7, (e 13 (by omega)).trans s8, s9⟩
theorem Ss_take {U V : sU} {a T n : Nat} {l w : Int32} (hS : Same U V) (ha : rdA a) (hT : Tk U T n) (hl : -500 ≤ l.toInt ∧ l.toInt ≤ 500) (hw : -600 ≤ w.toInt ∧ w.toInt ≤ 600) : Ss U (f_35 a T l w V) a T n l w 0 100 := by
  have hs := hT.2.2.2.2.2.2.2.2.2.2
  obtain ⟨v1, v2, v3, v4, v5, v6, v7, v8, v9, v10⟩ := take_ok (U := V) (a := a) (T := T) (n := 0) (l := l) (w := w) (W := fun _ => 0) hs (fun i hi => by omega)
  have e100 : (100 : Int32).toInt = 100 := rfl
  exact ⟨hS.tr (take_same ha hs), ha, v1, hT, v3, v4, v5, v7, hl, hw, Or.inl rfl, by omega⟩
/-- the act of a block by a reading: plain or blurred -/
def zAc (U : sU) (T n : Nat) (l bl cl : Int32) (c b : Nat) : Int := zlst (U.1 T 6) n (zwt bl cl.toInt ((zW c (n - 1) + 1 : Nat) : Int) (gC U T) (zW c) b) (fun i => gX U T i + l.toInt)
theorem zwt_0 {cl un : Int} {C : Nat → Int} {W : Nat → Nat} {b : Nat} : zwt 0 cl un C W b = zow C W b := by
  funext i
  unfold zwt zb
  rw [if_pos rfl]
theorem zAc_0 (U : sU) (T n : Nat) (l cl : Int32) (c : Nat) : zAc U T n l 0 cl c = hH U T n (zW c) l.toInt := by
  funext b
  unfold zAc hH
  rw [zwt_0]
theorem run_c {U V : sU} {a T n c : Nat} {l w bl cl : Int32} (h : Ss U V a T n l w bl cl) (hc : c < 2048) : ∃ V1 V2, f_39 a (Int32.ofNat c) V = some V1 ∧ f_41 a V1 = some V2 ∧ Fr (Pq a) V V2 ∧ Ss U V2 a T n l w bl cl ∧ Rdy V2 a T n (zW c) (zAc U T n l bl cl c) := by
  have h0 := h
  obtain ⟨s1, ha, s3, s4, s5, s6, s7, s8, s9, s10, s11, s12⟩ := h
  have hTV : Tk V T n := Tk_same s4 (fun x j hx => s1.lo hx)
  obtain ⟨V1, p1, p2, p3⟩ := parts_ok ha s3 hTV hc
  have h1 := Ss_fr h0 p2 (fun x j q => ⟨Pw_scr ha q, by unfold Pw at q; omega⟩)
  obtain ⟨q1, _, q3, q4, q5, q6, q7, q8, _⟩ := h1
  have hT1 : Tk V1 T n := Tk_same s4 (fun x j hx => q1.lo hx)
  have hR : Rd V1 a T n (zW c) := ⟨ha, q3, hT1, p3, by rw [q5]; exact s9, by rw [q6]; exact s10, by rw [q7]; exact s11, by rw [q8]; exact s12⟩
  obtain ⟨V2, r1, r2, r3, r4⟩ := settle_ok hR
  obtain ⟨R1, R2, R3, R4, R5⟩ := Rd_fr hR r2 (by intro x j q; unfold Ps Pg at q; rcases ha with rfl | rfl | rfl <;> omega)
  have hF : Fr (Pq a) V V2 := (p2.mono (fun x j q => by unfold Pw at q; unfold Pq; omega)).tr (r2.mono (fun x j q => by unfold Ps Pg at q; unfold Pq; omega))
  have h2 := Ss_fr h0 hF (fun x j q => ⟨Pq_scr ha q, by unfold Pq at q; rcases ha with rfl | rfl | rfl <;> omega⟩)
  refine ⟨V1, V2, p1, r1, hF, h2, R1, fun b hb hu => ?_, fun b _ => zlst_bd⟩
  rw [r3 b hb hu]
  have t8 := s4.2.2.2.2.2.2.2.1
  obtain ⟨eX, eC⟩ := same_XC q1 (T := T) (by omega)
  have un : (V1.1 a 10).toInt = ((zW c (n - 1) + 1 : Nat) : Int) := by rw [(Rd_un hR).2.2, Bw_pc (Bw_W s4.2.1 s4.2.2.1)]
  unfold zA zAc gY
  rw [un, q7, q8, q5, eX, eC, q1.lo (by omega : T < 210)]
theorem lie_c {U V : sU} {a T n c : Nat} {l w bl cl : Int32} (h : Ss U V a T n l w bl cl) (hR : Rdy V a T n (zW c) (zAc U T n l bl cl c)) : ∃ r, f_57 a V = some r ∧ r.toInt = zlie n (zub (zW c) n) (zD (U.1 T 6) (zAc U T n l bl cl c) (gX U T) w.toInt) (zW c) := by
  obtain ⟨r, r1, r2⟩ := lie_ok hR
  have t8 := h.2.2.2.1.2.2.2.2.2.2.2.1
  refine ⟨r, r1, ?_⟩
  rw [r2, h.2.2.2.2.2.1, h.1.lo (by omega : T < 210), (same_XC h.1 (T := T) (by omega)).1]
/-- stands() -/
def zstd (U : sU) (T n : Nat) (l w bl cl : Int32) (c : Nat) : Bool := zok n (zD (U.1 T 6) (zAc U T n l bl cl c) (gX U T) w.toInt) (zW c)
theorem stands_c {U V : sU} {T n c : Nat} {l w bl cl : Int32} (h : Ss U V 233 T n l w bl cl) (hc : c < 2048) : ∃ V2, f_68 232 (Int32.ofNat c) V = some (if zstd U T n l w bl cl c then 1 else 0, V2) ∧ Fr (Pq 233) V V2 ∧ Ss U V2 233 T n l w bl cl ∧ Rdy V2 233 T n (zW c) (zAc U T n l bl cl c) := by
  have em1 : ((-1) : Int32).toInt = -1 := rfl
  obtain ⟨V1, V2, a1, a2, a3, a4, a5⟩ := run_c h hc
  obtain ⟨r, r1, r2⟩ := lie_c a4 a5
  refine ⟨V2, ?_, a3, a4, a5⟩
  unfold f_68
  rw [a1, Option.bind_some, a2, Option.bind_some, r1, Option.bind_some]
  unfold zstd zok
  by_cases e : zlie n (zub (zW c) n) (zD (U.1 T 6) (zAc U T n l bl cl c) (gX U T) w.toInt) (zW c) = -1
  · rw [if_pos (by rw [i32_eq, em1, r2]; exact e), decide_eq_true e]
    rfl
  · rw [if_neg (by rw [i32_eq, em1, r2]; exact e), decide_eq_false e]
    rfl
theorem two_pow_le {n : Nat} (h : n ≤ 12) : 2 ^ (n - 1) ≤ 2048 := Nat.pow_le_pow_right (n := 2) (by decide) (by omega : n - 1 ≤ 11)
theorem f103_eq {V : sU} {T n : Nat} (h : V.1 T 2 = Int32.ofNat n) (h1 : 1 ≤ n) (h2 : n ≤ 12) : f_103 T V = Int32.ofNat (2 ^ (n - 1)) := by
  have e0 : (0 : Int32).toInt = 0 := rfl
  have e1 : (1 : Int32).toInt = 1 := rfl
  have e : Int32.ofNat n - 1 = Int32.ofNat (n - 1) := by
    apply Int32.toInt_inj.mp
    rw [s32 (by rw [e1, ofNat_int (by omega)]; omega) (by rw [e1, ofNat_int (by omega)]; omega), e1, ofNat_int (by omega), ofNat_int (by omega)]
    omega
  unfold f_103
  rw [h, if_neg (by rw [i32_le, e0, ofNat_int (by omega)]; omega), e, shl_k (by omega)]
theorem f239_m {M : sU} {t n : Nat} (h : MT M t n) {x : Int32} (hx : x.toInt = t) : f_239 x M = some (Int32.ofNat (2 ^ (n - 1))) := by
  have t8 := h.1
  have hT := h.2.1
  have ex : x.toNatClampNeg = t := by rw [clamp_int]; omega
  have q := f103_eq hT.1 hT.2.1 hT.2.2.1
  have n1 := hT.2.1
  have n12 := hT.2.2.1
  have e0 : (0 : Int32).toInt = 0 := rfl
  unfold f_103 at q
  rw [hT.1, if_neg (by rw [i32_le, e0, ofNat_int (by omega)]; omega)] at q
  unfold f_239
  rw [if_pos (ib_int.mpr (by omega)), ex, h.2.2.1, q]
/-- few enough words -/
def zal (U : sU) (T c : Nat) : Bool := decide ((zpc c : Int) + 1 ≤ (U.1 T 5).toInt)
theorem f104_eq {V U : sU} {T c : Nat} (h : V.1 T 5 = U.1 T 5) (hc : c < 4096) : f_104 T (Int32.ofNat c) V = if zal U T c then 1 else 0 := by
  have pl := zpc_le c
  unfold f_104 zal
  rw [h, f282_eq hc]
  by_cases e : (zpc c : Int) + 1 ≤ (U.1 T 5).toInt
  · rw [if_neg (by rw [i32_le, ofNat_int (by omega)]; omega), decide_eq_true e]; rfl
  · rw [if_pos (by rw [i32_le, ofNat_int (by omega)]; omega), decide_eq_false e]; rfl
theorem f238_m {M U : sU} {t n c : Nat} (h : MT M t n) (hS : U.1 (5 + 5 * t) 5 = M.1 (5 + 5 * t) 5) {x : Int32} (hx : x.toInt = t) (hc : c < 4096) : f_238 x (Int32.ofNat c) M = some (if zal U (5 + 5 * t) c then 1 else 0) := by
  have t8 := h.1
  have pl := zpc_le c
  have ex : x.toNatClampNeg = t := by rw [clamp_int]; omega
  unfold f_238 zal
  rw [f214_eq hc, Option.bind_some, if_pos (ib_int.mpr (by omega)), ex, h.2.2.2.2.2.1, ofNat_succ, hS]
  by_cases e : (zpc c : Int) + 1 ≤ (M.1 (5 + 5 * t) 5).toInt
  · rw [if_neg (by rw [i32_lt, ofNat_int (by omega)]; omega), decide_eq_true e]; rfl
  · rw [if_pos (by rw [i32_lt, ofNat_int (by omega)]; omega), decide_eq_false e]; rfl
theorem zok_iff {n b : Nat} {W : Nat → Nat} {D : Nat → Nat → Int} (hW : Bw n W b) : zok n D W = true ↔ ∀ j w, j < n → w < b → ¬ D j w < D j (W j) := by
  unfold zok
  rw [decide_eq_true_iff, zlie_none]
  have b12 := hW.2.1
  exact ⟨fun h j w hj hw => h j w hj (by omega) ((Bw_used hW).mpr hw), fun h j w hj hw hu => h j w hj ((Bw_used hW).mp hu)⟩
theorem zok_congr {n b : Nat} {W : Nat → Nat} {D E : Nat → Nat → Int} (hW : Bw n W b) (h : ∀ j w, j < n → w < b → (D j w < D j (W j) ↔ E j w < E j (W j))) : zok n D W = zok n E W := by
  cases hd : zok n D W with
  | true =>
    symm
    rw [zok_iff hW] at hd ⊢
    exact fun j w hj hw q => hd j w hj hw ((h j w hj hw).mpr q)
  | false =>
    cases he : zok n E W with
    | true =>
      rw [zok_iff hW] at he
      have : zok n D W = true := (zok_iff hW).mpr (fun j w hj hw q => he j w hj hw ((h j w hj hw).mp q))
      rw [this] at hd
      cases hd
    | false => rfl
/-- a single word always holds -/
theorem zok_one {n : Nat} {D : Nat → Nat → Int} (h1 : 1 ≤ n) (h2 : n ≤ 12) : zok n D (zW 0) = true := by
  have z : ∀ t, zW 0 t = 0 := by
    intro t
    induction t with
    | zero => rfl
    | succ t ih =>
      show zW 0 t + (if Nat.testBit 0 t then 1 else 0) = 0
      rw [ih, Nat.zero_testBit]
      rfl
  rw [zok_iff (Bw_W h1 h2)]
  intro j w hj hw
  rw [z] at hw
  have e : w = 0 := by omega
  rw [e, z j]
  omega
