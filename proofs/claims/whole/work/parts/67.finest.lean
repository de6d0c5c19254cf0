/-! finest, bound, doors; best -/
theorem zp_1 {U : sU} {t n : Nat} {s : Int32} (c : Nat) : zp U t n 1 s.toInt c = (zal U (5 + 5 * t) c && zstd U (5 + 5 * t) n (U.1 (5 + 5 * t) 4) s 0 100 c) := by
  unfold zp
  rw [std_1]
theorem zp_2 {U : sU} {t n : Nat} {s : Int} (c : Nat) : zp U t n 2 s c = (zal U (5 + 5 * t) c && zstd U (5 + 5 * t) n (U.1 (5 + 5 * t) 8) (U.1 (5 + 5 * t) 9) 0 100 c) := by
  unfold zp
  rw [std_2 (s := s) (cl := 100)]
theorem zfi_lt {p : Nat → Bool} {n : Nat} (h : n ≤ 12) : zfi p (2 ^ (n - 1) - 1) < 2048 := by
  have h1 := zfi_le (p := p) (2 ^ (n - 1) - 1)
  have h2 := two_pow_le h
  have h3 := Nat.two_pow_pos (n - 1)
  omega
theorem st_finest {U : sU} (h : Inv U) (x : Int32) : Two (f_138 x U) (f_245 x) := by
  have h0 := h
  obtain ⟨nT, nM, h⟩ := h
  have n8 := h.1.1.2.2.1
  by_cases hx : 0 ≤ x.toInt ∧ x.toInt < nT
  case neg => exact ref_to h0 (w := 1) (by decide) (by unfold f_138; rw [tat_no h hx]) (by unfold f_245; rw [if_pos (f178_no (ref_n0 (by decide) h) n8 hx)])
  obtain ⟨e1, e2, e3, e4, _⟩ := tat_yes h hx
  obtain ⟨n, hM⟩ := MT_of h e2
  have hl := hM.2.2.2.2.1.2
  have hw := hM.2.2.2.1.2
  have fl := zfi_lt (p := zp U x.toNatClampNeg n 1 (U.1 (5 + 5 * x.toNatClampNeg) 3).toInt) hM.2.1.2.2.1
  refine two_i h0 (v := (zfi (zp U x.toNatClampNeg n 1 (U.1 (5 + 5 * x.toNatClampNeg) 3).toInt) (2 ^ (n - 1) - 1) : Nat)) ?_ ?_
  · obtain ⟨V, v1, v2⟩ := finest_c hM (Same.rf U) hl (by omega) (p := zp U x.toNatClampNeg n 1 (U.1 (5 + 5 * x.toNatClampNeg) 3).toInt) zp_1
    unfold f_138
    rw [e1]
    dsimp only
    rw [v1]
    exact ⟨_, V, rfl, v2, ofNat_int (by omega)⟩
  · intro Y hY
    obtain ⟨Z, z1, z2⟩ := finest_m (MT_same hM hY) e4 (Or.inl rfl)
    rw [zp_same hY hM.1, hY.lo (by omega : 5 + 5 * x.toNatClampNeg < 210)] at z1
    unfold f_245
    rw [if_neg (f178_yes (InvN_same hY h).1.2.1 n8 hx), z1]
    exact ⟨_, Z, rfl, z2, ofNat_int (by omega)⟩
theorem most_c {U V : sU} {t n : Nat} {l w : Int32} {p : Nat → Bool} (hM : MT U t n) (hS : Same U V) (hl : -500 ≤ l.toInt ∧ l.toInt ≤ 500) (hw : -600 ≤ w.toInt ∧ w.toInt ≤ 600) (hp : ∀ c, p c = (zal U (5 + 5 * t) c && zstd U (5 + 5 * t) n l w 0 100 c)) : ∃ Z, f_71 232 (5 + 5 * t) l w V = some (Int32.ofNat (zpc (zfi p (2 ^ (n - 1) - 1)) + 1), Z) ∧ Same U Z := by
  obtain ⟨Z, v1, v2⟩ := finest_c hM hS hl hw hp
  have fl := zfi_lt (p := p) hM.2.1.2.2.1
  unfold f_71
  rw [v1, Option.bind_some]
  dsimp only
  rw [f282_eq (by omega), ofNat_succ]
  exact ⟨Z, rfl, v2⟩
theorem st_bound {U : sU} (h : Inv U) (x : Int32) : Two (f_139 x U) (f_246 x) := by
  have h0 := h
  obtain ⟨nT, nM, h⟩ := h
  have n8 := h.1.1.2.2.1
  by_cases hx : 0 ≤ x.toInt ∧ x.toInt < nT
  case neg => exact ref_to h0 (w := 1) (by decide) (by unfold f_139; rw [tat_no h hx]) (by unfold f_246; rw [if_pos (f178_no (ref_n0 (by decide) h) n8 hx)])
  obtain ⟨e1, e2, e3, e4, _⟩ := tat_yes h hx
  obtain ⟨n, hM⟩ := MT_of h e2
  have hl := hM.2.2.2.2.1.2
  have hw := hM.2.2.2.1.2
  have fl := zfi_lt (p := zp U x.toNatClampNeg n 1 (U.1 (5 + 5 * x.toNatClampNeg) 3).toInt) hM.2.1.2.2.1
  have pl := zpc_le (zfi (zp U x.toNatClampNeg n 1 (U.1 (5 + 5 * x.toNatClampNeg) 3).toInt) (2 ^ (n - 1) - 1))
  refine two_i h0 (v := (zpc (zfi (zp U x.toNatClampNeg n 1 (U.1 (5 + 5 * x.toNatClampNeg) 3).toInt) (2 ^ (n - 1) - 1)) + 1 : Nat)) ?_ ?_
  · obtain ⟨V, v1, v2⟩ := most_c hM (Same.rf U) hl (by omega) (p := zp U x.toNatClampNeg n 1 (U.1 (5 + 5 * x.toNatClampNeg) 3).toInt) zp_1
    unfold f_139
    rw [e1]
    dsimp only
    rw [v1]
    exact ⟨_, V, rfl, v2, ofNat_int (by omega)⟩
  · intro Y hY
    obtain ⟨Z, z1, z2⟩ := finest_m (MT_same hM hY) e4 (Or.inl rfl)
    rw [zp_same hY hM.1, hY.lo (by omega : 5 + 5 * x.toNatClampNeg < 210)] at z1
    unfold f_246
    rw [if_neg (f178_yes (InvN_same hY h).1.2.1 n8 hx), z1, Option.bind_some]
    dsimp only
    rw [f214_eq (by omega), Option.bind_some, ofNat_succ]
    exact ⟨_, Z, rfl, z2, ofNat_int (by omega)⟩
theorem st_doors {U : sU} (h : Inv U) (x : Int32) : Two (f_144 x U) (f_252 x) := by
  have h0 := h
  obtain ⟨nT, nM, h⟩ := h
  have n8 := h.1.1.2.2.1
  by_cases hx : 0 ≤ x.toInt ∧ x.toInt < nT
  case neg => exact ref_to h0 (w := 1) (by decide) (by unfold f_144; rw [tat_no h hx]) (by unfold f_252; rw [if_pos (f178_no (ref_n0 (by decide) h) n8 hx)])
  obtain ⟨e1, e2, e3, e4, _⟩ := tat_yes h hx
  obtain ⟨n, hM⟩ := MT_of h e2
  have t8 := hM.1
  have hl := hM.2.2.2.2.1.2
  have hw := hM.2.2.2.1.2
  have i8 : ib x 8 := ib_int.mpr (by omega)
  by_cases h7 : U.1 (5 + 5 * x.toNatClampNeg) 7 = 0
  · refine ref_to h0 (w := 6) (by decide) (by unfold f_144; rw [e1]; dsimp only; rw [if_pos h7]) ?_
    unfold f_252
    rw [if_neg (f178_yes (ref_n0 (by decide) h) n8 hx), if_pos i8, f157_1 (by decide) (by decide), hM.2.2.2.2.2.2.2.1.1, if_pos h7]
  have h71 : U.1 (5 + 5 * x.toNatClampNeg) 7 = 1 := by
    rcases hM.2.2.2.2.2.2.2.1.2 with q | q
    · exact absurd q h7
    · exact q
  have f1 := zfi_lt (p := zp U x.toNatClampNeg n 1 (U.1 (5 + 5 * x.toNatClampNeg) 3).toInt) hM.2.1.2.2.1
  have f2 := zfi_lt (p := zp U x.toNatClampNeg n 2 (U.1 (5 + 5 * x.toNatClampNeg) 3).toInt) hM.2.1.2.2.1
  have p1 := zpc_le (zfi (zp U x.toNatClampNeg n 1 (U.1 (5 + 5 * x.toNatClampNeg) 3).toInt) (2 ^ (n - 1) - 1))
  have p2 := zpc_le (zfi (zp U x.toNatClampNeg n 2 (U.1 (5 + 5 * x.toNatClampNeg) 3).toInt) (2 ^ (n - 1) - 1))
  have e100 : (100 : Int32).toInt = 100 := rfl
  have e1' : (1 : Int32).toInt = 1 := rfl
  generalize ha : zpc (zfi (zp U x.toNatClampNeg n 1 (U.1 (5 + 5 * x.toNatClampNeg) 3).toInt) (2 ^ (n - 1) - 1)) = A at *
  generalize hb : zpc (zfi (zp U x.toNatClampNeg n 2 (U.1 (5 + 5 * x.toNatClampNeg) 3).toInt) (2 ^ (n - 1) - 1)) = B at *
  refine two_i h0 (v := 100 * ((B + 1 : Nat) : Int) + ((A + 1 : Nat) : Int)) ?_ ?_
  · obtain ⟨V, v1, v2⟩ := most_c hM (Same.rf U) (l := U.1 (5 + 5 * x.toNatClampNeg) 8) (w := U.1 (5 + 5 * x.toNatClampNeg) 9) (hM.2.2.2.2.2.2.2.2.1.2) (by have := hM.2.2.2.2.2.2.2.2.2.1.2; omega) (p := zp U x.toNatClampNeg n 2 (U.1 (5 + 5 * x.toNatClampNeg) 3).toInt) zp_2
    obtain ⟨Z, z1, z2⟩ := most_c hM v2 hl (by omega) (p := zp U x.toNatClampNeg n 1 (U.1 (5 + 5 * x.toNatClampNeg) 3).toInt) zp_1
    rw [hb] at v1
    rw [ha] at z1
    unfold f_144
    rw [e1]
    dsimp only
    rw [if_neg h7, v1, Option.bind_some]
    dsimp only
    rw [v2.lo (by omega : 5 + 5 * x.toNatClampNeg < 210), v2.lo (by omega : 5 + 5 * x.toNatClampNeg < 210), z1, Option.bind_some]
    refine ⟨_, Z, rfl, z2, ?_⟩
    dsimp only
    have m1 : ((100 : Int32) * Int32.ofNat (B + 1)).toInt = 100 * ((B + 1 : Nat) : Int) := by rw [m32 (by rw [e100, ofNat_int (by omega)]; omega) (by rw [e100, ofNat_int (by omega)]; omega), e100, ofNat_int (by omega)]
    rw [a32 (by rw [m1, ofNat_int (by omega)]; omega) (by rw [m1, ofNat_int (by omega)]; omega), m1, ofNat_int (by omega)]
  · intro Y hY
    have hMY := MT_same hM hY
    obtain ⟨V, v1, v2⟩ := finest_m hMY e4 (who := 2) (Or.inr ⟨Or.inl rfl, by rw [hY.lo (by omega)]; exact h71⟩)
    obtain ⟨Z, z1, z2⟩ := finest_m (MT_same hMY v2) e4 (who := 1) (Or.inl rfl)
    rw [zp_same hY hM.1, hY.lo (by omega : 5 + 5 * x.toNatClampNeg < 210)] at v1
    rw [zp_same (hY.tr v2) hM.1, (hY.tr v2).lo (by omega : 5 + 5 * x.toNatClampNeg < 210)] at z1
    unfold f_252
    rw [if_neg (f178_yes (InvN_same hY h).1.2.1 n8 hx), if_pos i8, hMY.2.2.2.2.2.2.2.1.1, hY.lo (by omega : 5 + 5 * x.toNatClampNeg < 210), if_neg h7, v1, Option.bind_some]
    dsimp only
    rw [f214_eq (by omega), Option.bind_some, z1, Option.bind_some]
    dsimp only
    rw [f214_eq (by omega), Option.bind_some, ha, hb]
    refine ⟨_, Z, rfl, v2.tr z2, ?_⟩
    rw [ofNat_succ]
    have m1 : ((100 : Int32) * Int32.ofNat (B + 1)).toInt = 100 * ((B + 1 : Nat) : Int) := by rw [m32 (by rw [e100, ofNat_int (by omega)]; omega) (by rw [e100, ofNat_int (by omega)]; omega), e100, ofNat_int (by omega)]
    have m2 : ((100 : Int32) * Int32.ofNat (B + 1) + Int32.ofNat A).toInt = 100 * ((B + 1 : Nat) : Int) + A := by rw [a32 (by rw [m1, ofNat_int (by omega)]; omega) (by rw [m1, ofNat_int (by omega)]; omega), m1, ofNat_int (by omega)]
    rw [a32 (by rw [m2, e1']; omega) (by rw [m2, e1']; omega), m2, e1']
    omega
/-- the best so far -/
def zbe (p : Nat → Bool) (wo : Nat → Int) : Nat → Option Nat
  | 0 => none
  | k + 1 => if p k then (match zbe p wo k with
    | none => some k
    | some b => if wo k < wo b then some k else some b) else zbe p wo k
def cde : Option Nat → Int32
  | none => -1
  | some b => Int32.ofNat b
theorem zbe_n {p : Nat → Bool} {wo : Nat → Int} {k : Nat} (h : p k = false) : zbe p wo (k + 1) = zbe p wo k := by
  show (if p k then _ else _) = _
  rw [h, if_neg Bool.false_ne_true]
theorem zbe_0 {p : Nat → Bool} {wo : Nat → Int} {k : Nat} (h : p k = true) (hz : zbe p wo k = none) : zbe p wo (k + 1) = some k := by
  show (if p k then (match zbe p wo k with | none => some k | some b => if wo k < wo b then some k else some b) else _) = _
  rw [h, if_pos rfl, hz]
theorem zbe_y {p : Nat → Bool} {wo : Nat → Int} {k b : Nat} (h : p k = true) (hz : zbe p wo k = some b) (hw : wo k < wo b) : zbe p wo (k + 1) = some k := by
  show (if p k then (match zbe p wo k with | none => some k | some b => if wo k < wo b then some k else some b) else _) = _
  rw [h, if_pos rfl, hz]
  exact if_pos hw
theorem zbe_z {p : Nat → Bool} {wo : Nat → Int} {k b : Nat} (h : p k = true) (hz : zbe p wo k = some b) (hw : ¬ wo k < wo b) : zbe p wo (k + 1) = some b := by
  show (if p k then (match zbe p wo k with | none => some k | some b => if wo k < wo b then some k else some b) else _) = _
  rw [h, if_pos rfl, hz]
  exact if_neg hw
theorem zbe_lt {p : Nat → Bool} {wo : Nat → Int} : ∀ {k b : Nat}, zbe p wo k = some b → b < k := by
  intro k
  induction k with
  | zero => intro b h; cases h
  | succ k ih =>
    intro b h
    cases hp : p k with
    | false => rw [zbe_n hp] at h; have := ih h; omega
    | true =>
      cases hz : zbe p wo k with
      | none => rw [zbe_0 hp hz] at h; cases h; omega
      | some c =>
        by_cases hw : wo k < wo c
        · rw [zbe_y hp hz hw] at h; cases h; omega
        · rw [zbe_z hp hz hw] at h; cases h; have := ih hz; omega
theorem zbe_some {p : Nat → Bool} {wo : Nat → Int} (h0 : p 0 = true) : ∀ k, ∃ b, zbe p wo (k + 1) = some b := by
  intro k
  induction k with
  | zero => exact ⟨0, zbe_0 h0 rfl⟩
  | succ k ih =>
    obtain ⟨b, hb⟩ := ih
    cases hp : p (k + 1) with
    | false => exact ⟨b, by rw [zbe_n hp, hb]⟩
    | true =>
      by_cases hw : wo (k + 1) < wo b
      · exact ⟨_, zbe_y hp hb hw⟩
      · exact ⟨_, zbe_z hp hb hw⟩
theorem cde_m1 {o : Option Nat} (h : ∀ b, o = some b → b < 4096) : cde o = -1 ↔ o = none := by
  cases o with
  | none => exact ⟨fun _ => rfl, fun _ => rfl⟩
  | some b =>
    have := h b rfl
    have em1 : ((-1) : Int32).toInt = -1 := rfl
    constructor
    · intro q
      have q : Int32.ofNat b = -1 := q
      rw [i32_eq, em1, ofNat_int (by omega)] at q
      omega
    · intro q; cases q
theorem zwo_0 {cl un : Int} {q : Int32} {n u : Nat} {A X C : Nat → Int} {W : Nat → Nat} {s : Int} : zwo 0 cl un q n u A X C W s = zrw q n A X C W s := by
  unfold zwo zrw
  refine zs_congr (fun i _ => ?_)
  unfold zsp zb
  rw [if_pos rfl]
  rfl
theorem worth_s {U V : sU} {a T n c : Nat} {l w bl cl side : Int32} (h : Ss U V a T n l w bl cl) (hR : Rdy V a T n (zW c) (zAc U T n l bl cl c)) : ∃ r, f_56 a side V = some r ∧ r.toInt = zwo bl cl.toInt ((zW c (n - 1) + 1 : Nat) : Int) (U.1 T 6) n (zub (zW c) n) (zAc U T n l bl cl c) (gX U T) (gC U T) (zW c) (if side = 0 then l.toInt else w.toInt) ∧ -1000000000000000 ≤ r.toInt ∧ r.toInt ≤ 1000000000000000 := by
  obtain ⟨r, r1, r2, r3⟩ := worth_ok (x := side) hR
  obtain ⟨s1, s2, s3, s4, s5, s6, s7, s8, _⟩ := h
  have t8 := s4.2.2.2.2.2.2.2.1
  obtain ⟨eX, eC⟩ := same_XC s1 (T := T) (by omega)
  have un : (V.1 a 10).toInt = ((zW c (n - 1) + 1 : Nat) : Int) := by rw [(Rd_un hR.1).2.2, Bw_pc (Bw_W s4.2.1 s4.2.2.1)]
  refine ⟨r, r1, ?_, r3⟩
  rw [r2, s5, s6, s7, s8, un, eX, eC, s1.lo (by omega : T < 210)]
/-- the worth of a run for one who likes what is so and s -/
def zwc (U : sU) (t n : Nat) (s : Int) (c : Nat) : Int := zrw (U.1 (5 + 5 * t) 6) n (hH U (5 + 5 * t) n (zW c) (U.1 (5 + 5 * t) 4).toInt) (gX U (5 + 5 * t)) (gC U (5 + 5 * t)) (zW c) s
theorem zwc_same {U V : sU} (h : Same U V) {t n : Nat} (ht : t < 8) {s : Int} : zwc V t n s = zwc U t n s := by
  obtain ⟨eX, eC⟩ := same_XC h (T := 5 + 5 * t) (by omega)
  funext c
  have eH : hH V (5 + 5 * t) n (zW c) (U.1 (5 + 5 * t) 4).toInt = hH U (5 + 5 * t) n (zW c) (U.1 (5 + 5 * t) 4).toInt := by funext b; exact hH_same h (by omega)
  unfold zwc
  rw [h.lo (by omega : 5 + 5 * t < 210), h.lo (by omega : 5 + 5 * t < 210), eX, eC, eH]
theorem Ss_sJ {U V : sU} {a T n : Nat} {l w bl cl : Int32} (h : Ss U V a T n l w bl cl) {b i : Nat} (v : Int64) (q : scr b i) : Ss U (sJ V b i v) a T n l w bl cl := by
  obtain ⟨s1, s2, s3, s4, s5, s6, s7, s8, s9⟩ := h
  exact ⟨s1.sJ v q, s2, s3, s4, s5, s6, s7, s8, s9⟩
theorem best_c {U : sU} {t n : Nat} {side : Int32} (hM : MT U t n) : ∃ Z, f_72 232 (5 + 5 * t) side U = some (cde (zbe (zp U t n 1 (U.1 (5 + 5 * t) 3).toInt) (zwc U t n (if side = 0 then (U.1 (5 + 5 * t) 4).toInt else (U.1 (5 + 5 * t) 3).toInt)) (2 ^ (n - 1))), Z) ∧ Same U Z ∧ ∀ b, zbe (zp U t n 1 (U.1 (5 + 5 * t) 3).toInt) (zwc U t n (if side = 0 then (U.1 (5 + 5 * t) 4).toInt else (U.1 (5 + 5 * t) 3).toInt)) (2 ^ (n - 1)) = some b → (Z.2.1 232 2).toInt = zwc U t n (if side = 0 then (U.1 (5 + 5 * t) 4).toInt else (U.1 (5 + 5 * t) 3).toInt) b := by
  have hT := hM.2.1
  have n12 := hT.2.2.1
  have hl := hM.2.2.2.2.1.2
  have hw := hM.2.2.2.1.2
  have t8 := hM.1
  have p2 := two_pow_le n12
  have s0 := Ss_take (U := U) (V := U) (a := 233) (T := 5 + 5 * t) (n := n) (l := U.1 (5 + 5 * t) 4) (w := U.1 (5 + 5 * t) 3) (Same.rf U) (Or.inr (Or.inl rfl)) hT hl (by omega)
  generalize hs : (if side = 0 then (U.1 (5 + 5 * t) 4).toInt else (U.1 (5 + 5 * t) 3).toInt) = s
  generalize hpp : zp U t n 1 (U.1 (5 + 5 * t) 3).toInt = p
  have hp : ∀ c, p c = (zal U (5 + 5 * t) c && zstd U (5 + 5 * t) n (U.1 (5 + 5 * t) 4) (U.1 (5 + 5 * t) 3) 0 100 c) := fun c => by rw [← hpp]; exact zp_1 c
  unfold f_72
  refine loop_ex (fun m (z : Int32 × Int32 × sU) => f_72_21 m 232 (5 + 5 * t) side z.1 z.2.1 z.2.2) (fun k z => z.2.1 = Int32.ofNat k ∧ z.1 = cde (zbe p (zwc U t n s) k) ∧ Ss U z.2.2 233 (5 + 5 * t) n (U.1 (5 + 5 * t) 4) (U.1 (5 + 5 * t) 3) 0 100 ∧ ∀ b, zbe p (zwc U t n s) k = some b → (z.2.2.2.1 232 2).toInt = zwc U t n s b) (fun o => ∃ Z, o = some (cde (zbe p (zwc U t n s) (2 ^ (n - 1))), Z) ∧ Same U Z ∧ ∀ b, zbe p (zwc U t n s) (2 ^ (n - 1)) = some b → (Z.2.1 232 2).toInt = zwc U t n s b) (2 ^ (n - 1)) ?_ ?_ (2 ^ (n - 1)) 0 FU (-1, 0, _) (by omega) (by unfold FU; omega) ⟨rfl, rfl, s0, fun b hb => by cases hb⟩
  · rintro k ⟨b, c, Z⟩ m hk ⟨rfl, rfl, hS, hB⟩
    dsimp only at hS hB ⊢
    refine Or.inr ?_
    have e2 : Z.1 (5 + 5 * t) 2 = Int32.ofNat n := (hS.1.lo (by omega)).trans hT.1
    have e5 : Z.1 (5 + 5 * t) 5 = U.1 (5 + 5 * t) 5 := hS.1.lo (by omega)
    rw [f_72_21, f103_eq e2 hT.2.1 n12, if_neg (by rw [i32_le, ofNat_int (by omega), ofNat_int (by omega)]; omega), f104_eq e5 (by omega), ofNat_succ]
    cases ha : zal U (5 + 5 * t) k with
    | false =>
      rw [if_pos (by rfl)]
      have pk : p k = false := by rw [hp, ha]; rfl
      refine ⟨(cde (zbe p (zwc U t n s) k), Int32.ofNat (k + 1), Z), ⟨rfl, ?_, hS, ?_⟩, rfl⟩
      · dsimp only; rw [zbe_n pk]
      · intro b hb; rw [zbe_n pk] at hb; exact hB b hb
    | true =>
      rw [if_neg (by decide)]
      obtain ⟨V2, r1, r2, r3, r4⟩ := stands_c hS (by omega : k < 2048)
      rw [r1, Option.bind_some]
      have eJ : V2.2.1 232 2 = Z.2.1 232 2 := by rw [r2.2]
      dsimp only
      cases hz : zstd U (5 + 5 * t) n (U.1 (5 + 5 * t) 4) (U.1 (5 + 5 * t) 3) 0 100 k with
      | false =>
        rw [if_pos (by rfl)]
        have pk : p k = false := by rw [hp, hz, Bool.and_false]
        refine ⟨(cde (zbe p (zwc U t n s) k), Int32.ofNat (k + 1), V2), ⟨rfl, ?_, r3, ?_⟩, rfl⟩
        · dsimp only; rw [zbe_n pk]
        · intro b hb; rw [zbe_n pk] at hb; dsimp only; rw [eJ]; exact hB b hb
      | true =>
        rw [if_neg (by decide)]
        have pk : p k = true := by rw [hp, ha, hz]; rfl
        obtain ⟨y, y1, y2, y3⟩ := worth_s (side := side) r3 r4
        rw [zwo_0, zAc_0, hs] at y2
        have y2 : y.toInt = zwc U t n s k := y2
        rw [y1, Option.bind_some]
        cases hb : zbe p (zwc U t n s) k with
        | none =>
          rw [if_pos (by rfl)]
          refine ⟨(Int32.ofNat k, Int32.ofNat (k + 1), sJ V2 232 2 y), ⟨rfl, ?_, Ss_sJ r3 y (by unfold scr; omega), ?_⟩, rfl⟩
          · dsimp only; rw [zbe_0 pk hb]; rfl
          · intro b hb'; rw [zbe_0 pk hb] at hb'; cases hb'; dsimp only; rw [sJ_at]; exact y2
        | some b0 =>
          have b0l := zbe_lt hb
          rw [if_neg (fun q => by
            have := (cde_m1 (o := some b0) (fun b hb => by cases hb; omega)).mp q
            cases this)]
          have hb0 := hB b0 hb
          by_cases hlt : zwc U t n s k < zwc U t n s b0
          · rw [if_neg (by rw [cmp_ge, eJ, hb0, y2]; omega)]
            refine ⟨(Int32.ofNat k, Int32.ofNat (k + 1), sJ V2 232 2 y), ⟨rfl, ?_, Ss_sJ r3 y (by unfold scr; omega), ?_⟩, rfl⟩
            · dsimp only; rw [zbe_y pk hb hlt]; rfl
            · intro b hb'; rw [zbe_y pk hb hlt] at hb'; cases hb'; dsimp only; rw [sJ_at]; exact y2
          · rw [if_pos (by rw [cmp_ge, eJ, hb0, y2]; omega)]
            refine ⟨(cde (some b0), Int32.ofNat (k + 1), V2), ⟨rfl, ?_, r3, ?_⟩, rfl⟩
            · dsimp only; rw [zbe_z pk hb hlt]
            · intro b hb'; rw [zbe_z pk hb hlt] at hb'; cases hb'; dsimp only; rw [eJ]; exact hb0
  · rintro ⟨b, c, Z⟩ m ⟨rfl, rfl, hS, hB⟩
    dsimp only at hS hB ⊢
    have e2 : Z.1 (5 + 5 * t) 2 = Int32.ofNat n := (hS.1.lo (by omega)).trans hT.1
    rw [f_72_21, f103_eq e2 hT.2.1 n12, if_pos (by rw [i32_le]; omega)]
    exact ⟨Z, rfl, hS.1, hB⟩
theorem best_m2 {U : sU} {t n : Nat} (hM : MT U t n) {x s : Int32} (hx : x.toInt = t) (hs : -600 ≤ s.toInt ∧ s.toInt ≤ 600) : ∃ Z, f_247 x s U = some (cde (zbe (zp U t n 1 (U.1 (5 + 5 * t) 3).toInt) (zwc U t n s.toInt) (2 ^ (n - 1))), Z) ∧ Same U Z := by
  have hT := hM.2.1
  have n12 := hT.2.2.1
  have n1 := hT.2.1
  have hw := hM.2.2.2.1.2
  have t8 := hM.1
  have p2 := two_pow_le n12
  have ex : x.toNatClampNeg = t := by rw [clamp_int]; omega
  have i8 : ib x 8 := ib_int.mpr (by omega)
  generalize hpp : zp U t n 1 (U.1 (5 + 5 * t) 3).toInt = p
  unfold f_247
  refine loop_ex (fun m (z : Int64 × Int32 × Int32 × sU) => f_247_8 m x s z.1 z.2.1 z.2.2.1 z.2.2.2) (fun k z => z.2.2.1 = Int32.ofNat k ∧ z.2.1 = cde (zbe p (zwc U t n s.toInt) k) ∧ Same U z.2.2.2 ∧ ∀ b, zbe p (zwc U t n s.toInt) k = some b → z.1.toInt = zwc U t n s.toInt b) (fun o => ∃ Z, o = some (cde (zbe p (zwc U t n s.toInt) (2 ^ (n - 1))), Z) ∧ Same U Z) (2 ^ (n - 1)) ?_ ?_ (2 ^ (n - 1)) 0 FU (0, -1, 0, U) (by omega) (by unfold FU; omega) ⟨rfl, rfl, Same.rf U, fun b hb => by cases hb⟩
  · rintro k ⟨le, b, c, Z⟩ m hk ⟨rfl, rfl, hS, hB⟩
    dsimp only at hS hB ⊢
    refine Or.inr ?_
    have hZ := MT_same hM hS
    have z289 : Z.1 289 t = U.1 (5 + 5 * t) 3 := by rw [hZ.2.2.2.1.1, hS.lo (by omega)]
    rw [f_247_8, f239_m hZ hx, Option.bind_some, if_neg (by rw [i32_le, ofNat_int (by omega), ofNat_int (by omega)]; omega), f238_m (U := U) hZ (by rw [hS.lo (by omega)]) hx (by omega), Option.bind_some, ofNat_succ]
    cases ha : zal U (5 + 5 * t) k with
    | false =>
      rw [if_pos (by rfl)]
      have pk : p k = false := by rw [← hpp]; unfold zp; rw [ha]; rfl
      refine ⟨(le, cde (zbe p (zwc U t n s.toInt) k), Int32.ofNat (k + 1), Z), ⟨rfl, ?_, hS, ?_⟩, rfl⟩
      · dsimp only; rw [zbe_n pk]
      · intro b hb; rw [zbe_n pk] at hb; exact hB b hb
    | true =>
      rw [if_neg (by decide), if_pos i8, ex, z289]
      obtain ⟨V2, r1, r2, r3, r4⟩ := holds_m hZ hx (by omega : k < 2048) (s := U.1 (5 + 5 * t) 3) (who := 1) (by omega) (Or.inl rfl)
      rw [hDw_same hS t8] at r1
      rw [r1, Option.bind_some]
      dsimp only
      cases hz : zok n (hDw U t n (zW k) 1 (U.1 (5 + 5 * t) 3).toInt) (zW k) with
      | false =>
        rw [if_pos (by rfl)]
        have pk : p k = false := by rw [← hpp]; unfold zp; rw [hz, Bool.and_false]
        refine ⟨(le, cde (zbe p (zwc U t n s.toInt) k), Int32.ofNat (k + 1), V2), ⟨rfl, ?_, hS.tr r2, ?_⟩, rfl⟩
        · dsimp only; rw [zbe_n pk]
        · intro b hb; rw [zbe_n pk] at hb; exact hB b hb
      | true =>
        rw [if_neg (by decide)]
        have pk : p k = true := by rw [← hpp]; unfold zp; rw [ha, hz]; rfl
        obtain ⟨y, y1, y2⟩ := runWorth_m hZ r2 r3 r4 (Bw_W n1 n12) hx hs
        have y2 : y.toInt = zwc U t n s.toInt k := by
          have : y.toInt = zwc Z t n s.toInt k := y2
          rw [this, zwc_same hS t8]
        rw [y1, Option.bind_some]
        cases hb : zbe p (zwc U t n s.toInt) k with
        | none =>
          rw [if_pos (by rfl)]
          refine ⟨(y, Int32.ofNat k, Int32.ofNat (k + 1), V2), ⟨rfl, ?_, hS.tr r2, ?_⟩, rfl⟩
          · dsimp only; rw [zbe_0 pk hb]; rfl
          · intro b hb'; rw [zbe_0 pk hb] at hb'; cases hb'; exact y2
        | some b0 =>
          have b0l := zbe_lt hb
          rw [if_neg (fun q => by
            have := (cde_m1 (o := some b0) (fun b hb => by cases hb; omega)).mp q
            cases this)]
          have hb0 := hB b0 hb
          by_cases hlt : zwc U t n s.toInt k < zwc U t n s.toInt b0
          · rw [if_neg (by rw [cmp_ge, hb0, y2]; omega)]
            refine ⟨(y, Int32.ofNat k, Int32.ofNat (k + 1), V2), ⟨rfl, ?_, hS.tr r2, ?_⟩, rfl⟩
            · dsimp only; rw [zbe_y pk hb hlt]; rfl
            · intro b hb'; rw [zbe_y pk hb hlt] at hb'; cases hb'; exact y2
          · rw [if_pos (by rw [cmp_ge, hb0, y2]; omega)]
            refine ⟨(le, cde (some b0), Int32.ofNat (k + 1), V2), ⟨rfl, ?_, hS.tr r2, ?_⟩, rfl⟩
            · dsimp only; rw [zbe_z pk hb hlt]
            · intro b hb'; rw [zbe_z pk hb hlt] at hb'; cases hb'; exact hb0
  · rintro ⟨le, b, c, Z⟩ m ⟨rfl, rfl, hS, hB⟩
    dsimp only at hS hB ⊢
    have hZ := MT_same hM hS
    rw [f_247_8, f239_m hZ hx, Option.bind_some, if_pos (by rw [i32_le]; omega)]
    exact ⟨Z, rfl, hS⟩
