/-! middle on both sides -/
def zmi (f : Nat → Int × Int × Int → Int × Int × Int) : Nat → Int × Int × Int → Int × Int × Int
  | 0, s => s
  | c + 1, s => f c (zmi f c s)
def zmo (f : Nat → Nat → Int × Int × Int → Int × Int × Int) (N : Nat) : Nat → Int × Int × Int
  | 0 => (-1, -1, 0)
  | i + 1 => zmi (f i) N (zmo f N i)
def zwm (U : sU) (t n : Nat) (p : Int32) (c : Nat) : Int := zwo 1 p.toInt ((zW c (n - 1) + 1 : Nat) : Int) (U.1 (5 + 5 * t) 6) n (zub (zW c) n) (zAc U (5 + 5 * t) n (U.1 (5 + 5 * t) 4) 1 p c) (gX U (5 + 5 * t)) (gC U (5 + 5 * t)) (zW c) (U.1 (5 + 5 * t) 4).toInt
def zrn (U : sU) (t n kk : Nat) (p : Int32) (c : Nat) : Prop := (zpc c + 1 = kk ∧ zal U (5 + 5 * t) c = true) ∧ zstd U (5 + 5 * t) n (U.1 (5 + 5 * t) 4) (U.1 (5 + 5 * t) 3) 1 p c = true
theorem zrn_dec (U : sU) (t n kk : Nat) (p : Int32) (c : Nat) : zrn U t n kk p c ∨ ¬ zrn U t n kk p c := Classical.em _
noncomputable def zmf (U : sU) (t n kk i c : Nat) (s : Int × Int × Int) : Int × Int × Int := @ite _ (zrn U t n kk (Int32.ofNat (100 - 5 * i)) c ∧ (s.2.1 = -1 ∨ zwm U t n (Int32.ofNat (100 - 5 * i)) c / (100 * kk) < s.2.2)) (Classical.propDecidable _) ((100 - 5 * i : Nat), (c : Int), zwm U t n (Int32.ofNat (100 - 5 * i)) c / (100 * kk)) s
theorem zmf_y {U : sU} {t n kk i c : Nat} {s : Int × Int × Int} (h1 : zrn U t n kk (Int32.ofNat (100 - 5 * i)) c) (h2 : s.2.1 = -1 ∨ zwm U t n (Int32.ofNat (100 - 5 * i)) c / (100 * kk) < s.2.2) : zmf U t n kk i c s = (((100 - 5 * i : Nat) : Int), (c : Int), zwm U t n (Int32.ofNat (100 - 5 * i)) c / (100 * kk)) := by
  unfold zmf
  rw [if_pos ⟨h1, h2⟩]
theorem zmf_n1 {U : sU} {t n kk i c : Nat} {s : Int × Int × Int} (h1 : ¬ zrn U t n kk (Int32.ofNat (100 - 5 * i)) c) : zmf U t n kk i c s = s := by
  unfold zmf
  rw [if_neg (fun q => h1 q.1)]
theorem zmf_n2 {U : sU} {t n kk i c : Nat} {s : Int × Int × Int} (h2 : ¬ (s.2.1 = -1 ∨ zwm U t n (Int32.ofNat (100 - 5 * i)) c / (100 * kk) < s.2.2)) : zmf U t n kk i c s = s := by
  unfold zmf
  rw [if_neg (fun q => h2 q.2)]
def zR (a b : Int32) (l : Int64) (s : Int × Int × Int) : Prop := a.toInt = s.1 ∧ b.toInt = s.2.1 ∧ l.toInt = s.2.2
theorem zmf_same {U V : sU} (h : Same U V) {t n kk : Nat} (ht : t < 8) : zmf V t n kk = zmf U t n kk := by
  obtain ⟨eX, eC⟩ := same_XC h (T := 5 + 5 * t) (by omega)
  have e : ∀ l p c, zAc V (5 + 5 * t) n l 1 p c = zAc U (5 + 5 * t) n l 1 p c := fun l p c => by
    funext b
    unfold zAc
    rw [eX, eC, h.lo (by omega : 5 + 5 * t < 210)]
  have e1 : ∀ p c, zrn V t n kk p c = zrn U t n kk p c := fun p c => by
    unfold zrn zstd zal
    rw [h.lo (by omega : 5 + 5 * t < 210), h.lo (by omega : 5 + 5 * t < 210), h.lo (by omega : 5 + 5 * t < 210), h.lo (by omega : 5 + 5 * t < 210), eX, e]
  have e2 : ∀ p c, zwm V t n p c = zwm U t n p c := fun p c => by
    unfold zwm
    rw [h.lo (by omega : 5 + 5 * t < 210), h.lo (by omega : 5 + 5 * t < 210), eX, eC, e]
  funext i c s
  unfold zmf
  rw [e1, e2]
theorem kk64 {kk : Nat} (h : kk < 100) : ((100 : Int64) * (Int32.ofNat kk).toInt64).toInt = 100 * kk := by
  have e : (100 : Int64).toInt = 100 := rfl
  have k : (Int32.ofNat kk).toInt64.toInt = kk := by rw [w64, ofNat_int (by omega)]
  rw [m64 (by rw [e, k]; omega) (by rw [e, k]; omega), e, k]
theorem div_k {q : Int64} {kk : Nat} (h1 : 1 ≤ kk) (h : kk < 100) (hq : 0 ≤ q.toInt) : (q / ((100 : Int64) * (Int32.ofNat kk).toInt64)).toInt = q.toInt / (100 * kk) ∧ ¬ (100 : Int64) * (Int32.ofNat kk).toInt64 = 0 := by
  have k := kk64 h
  have e0 : (0 : Int64).toInt = 0 := rfl
  refine ⟨?_, by rw [i64_eq, k, e0]; omega⟩
  rw [div64 (by rw [k]; omega), k, Int.tdiv_eq_ediv_of_nonneg hq]
theorem Ss_blur {U V : sU} {T n : Nat} {l w cl bl0 cl0 : Int32} (h : Ss U V 233 T n l w bl0 cl0) (hc : 0 ≤ cl.toInt ∧ cl.toInt ≤ 100) : Ss U (f_36 233 cl V) 233 T n l w 1 cl := by
  obtain ⟨s1, s2, s3, s4, s5, s6, s7, s8, s9, s10, s11, s12⟩ := h
  unfold f_36
  refine ⟨(s1.sI _ (by unfold scr; omega)).sI _ (by unfold scr; omega), s2, s3, s4, ?_, ?_, ?_, ?_, s9, s10, Or.inr rfl, hc⟩
  · rw [sI_nj (by omega), sI_nj (by omega)]; exact s5
  · rw [sI_nj (by omega), sI_nj (by omega)]; exact s6
  · rw [sI_nj (by omega), sI_at]
  · rw [sI_at]
theorem Ss_sI {U V : sU} {T n : Nat} {l w bl cl : Int32} (h : Ss U V 233 T n l w bl cl) (i : Nat) (v : Int32) : Ss U (sI V 232 i v) 233 T n l w bl cl := by
  obtain ⟨s1, s2, s3, s4, s5, s6, s7, s8, s9⟩ := h
  exact ⟨s1.sI v (by unfold scr; omega), s2, s3, s4, by rw [sI_ne (by omega)]; exact s5, by rw [sI_ne (by omega)]; exact s6, by rw [sI_ne (by omega)]; exact s7, by rw [sI_ne (by omega)]; exact s8, s9⟩
theorem mid_c {U : sU} {t n kk : Nat} (hM : MT U t n) (hk : 1 ≤ kk ∧ kk < 100) : ∃ Z, f_78 232 (5 + 5 * t) (Int32.ofNat kk) U = some Z ∧ Same U Z ∧ (Z.1 232 3).toInt = (zmo (zmf U t n kk) (2 ^ (n - 1)) 21).1 ∧ (Z.1 232 4).toInt = (zmo (zmf U t n kk) (2 ^ (n - 1)) 21).2.1 := by
  have hT := hM.2.1
  have n12 := hT.2.2.1
  have hl := hM.2.2.2.2.1.2
  have hw := hM.2.2.2.1.2
  have t8 := hM.1
  have p2 := two_pow_le n12
  have em1 : ((-1) : Int32).toInt = -1 := rfl
  have em5 : ((-5) : Int32).toInt = -5 := rfl
  have e0 : (0 : Int32).toInt = 0 := rfl
  have e100 : (100 : Int32).toInt = 100 := rfl
  unfold f_78
  refine loop_ex (fun m (z : Int64 × Int32 × sU) => f_78_16 m 232 (5 + 5 * t) (Int32.ofNat kk) z.1 z.2.1 z.2.2) (fun i z => z.2.1.toInt = 100 - 5 * i ∧ Same U z.2.2 ∧ zR (z.2.2.1 232 3) (z.2.2.1 232 4) z.1 (zmo (zmf U t n kk) (2 ^ (n - 1)) i)) (fun o => ∃ Z, o = some Z ∧ Same U Z ∧ (Z.1 232 3).toInt = (zmo (zmf U t n kk) (2 ^ (n - 1)) 21).1 ∧ (Z.1 232 4).toInt = (zmo (zmf U t n kk) (2 ^ (n - 1)) 21).2.1) 21 ?_ ?_ 21 0 FU (0, 100, sI (sI U 232 3 (-1)) 232 4 (-1)) (by omega) (by unfold FU; omega) ⟨rfl, ((Same.rf U).sI _ (by unfold scr; omega)).sI _ (by unfold scr; omega), ?_, ?_, rfl⟩
  · rintro i ⟨le, cl, Z⟩ m hi ⟨hcl, hS, hR⟩
    dsimp only at hcl hS hR ⊢
    refine Or.inr ?_
    have ecl : cl = Int32.ofNat (100 - 5 * i) := by
      apply Int32.toInt_inj.mp
      rw [hcl, ofNat_int (by omega)]
      omega
    have e4 : Z.1 (5 + 5 * t) 4 = U.1 (5 + 5 * t) 4 := hS.lo (by omega)
    have e3 : Z.1 (5 + 5 * t) 3 = U.1 (5 + 5 * t) 3 := hS.lo (by omega)
    have s0 := Ss_take (U := U) (V := Z) (a := 233) (T := 5 + 5 * t) (n := n) (l := U.1 (5 + 5 * t) 4) (w := U.1 (5 + 5 * t) 3) hS (Or.inr (Or.inl rfl)) hT hl (by omega)
    have s1 := Ss_blur (cl := cl) s0 (by omega)
    have fld : ∀ j, (f_36 233 cl (f_35 233 (5 + 5 * t) (U.1 (5 + 5 * t) 4) (U.1 (5 + 5 * t) 3) Z)).1 232 j = Z.1 232 j := by
      intro j
      obtain ⟨_, _, _, _, _, _, _, k8, _, _⟩ := take_ok (U := Z) (a := 233) (T := 5 + 5 * t) (n := 0) (l := U.1 (5 + 5 * t) 4) (w := U.1 (5 + 5 * t) 3) (W := fun _ => 0) hT.2.2.2.2.2.2.2.2.2.2 (fun i hi => by omega)
      unfold f_36
      rw [sI_ne (by omega), sI_ne (by omega), k8 _ _ (by omega)]
    rw [f_78_16, if_neg (by rw [i32_lt, hcl, e0]; omega), if_neg (by rw [i32_le, ofNat_int (by omega), e0]; omega), e4, e3]
    refine loop_ex (fun m' (z : Int64 × Int32 × sU) => f_78_53 (fun a v1 v2 v3 v5 U => f_78_16 m a v1 v2 v3 v5 U) m' 232 (5 + 5 * t) (Int32.ofNat kk) z.1 cl z.2.1 z.2.2) (fun c z => z.2.1 = Int32.ofNat c ∧ Ss U z.2.2 233 (5 + 5 * t) n (U.1 (5 + 5 * t) 4) (U.1 (5 + 5 * t) 3) 1 cl ∧ zR (z.2.2.1 232 3) (z.2.2.1 232 4) z.1 (zmi (zmf U t n kk i) c (zmo (zmf U t n kk) (2 ^ (n - 1)) i))) (fun o => ∃ s' : Int64 × Int32 × sU, (s'.2.1.toInt = 100 - 5 * (i + 1 : Nat) ∧ Same U s'.2.2 ∧ zR (s'.2.2.1 232 3) (s'.2.2.1 232 4) s'.1 (zmo (zmf U t n kk) (2 ^ (n - 1)) (i + 1))) ∧ o = f_78_16 m 232 (5 + 5 * t) (Int32.ofNat kk) s'.1 s'.2.1 s'.2.2) (2 ^ (n - 1)) ?_ ?_ (2 ^ (n - 1)) 0 FU (le, 0, _) (by omega) (by unfold FU; omega) ⟨rfl, s1, by show zR ((f_36 233 cl (f_35 233 (5 + 5 * t) (U.1 (5 + 5 * t) 4) (U.1 (5 + 5 * t) 3) Z)).1 232 3) ((f_36 233 cl (f_35 233 (5 + 5 * t) (U.1 (5 + 5 * t) 4) (U.1 (5 + 5 * t) 3) Z)).1 232 4) le _; rw [fld, fld]; exact hR⟩
    · rintro c ⟨le, cc, Y⟩ m' hc ⟨rfl, hSs, hR⟩
      dsimp only at hSs hR ⊢
      refine Or.inr ?_
      have e2 : Y.1 (5 + 5 * t) 2 = Int32.ofNat n := (hSs.1.lo (by omega)).trans hT.1
      have e5 : Y.1 (5 + 5 * t) 5 = U.1 (5 + 5 * t) 5 := hSs.1.lo (by omega)
      rw [f_78_53, f103_eq e2 hT.2.1 n12, if_neg (by rw [i32_le, ofNat_int (by omega), ofNat_int (by omega)]; omega), ofNat_succ]
      generalize hs : zmi (zmf U t n kk i) c (zmo (zmf U t n kk) (2 ^ (n - 1)) i) = s at *
      have nx : zmi (zmf U t n kk i) (c + 1) (zmo (zmf U t n kk) (2 ^ (n - 1)) i) = zmf U t n kk i c s := by rw [← hs]; rfl
      by_cases hr : zpc c + 1 = kk ∧ zal U (5 + 5 * t) c = true
      · rw [if_neg (fun q => (f74_eq e5 (by omega) (by omega)).mp q hr)]
        obtain ⟨V2, r1, r2, r3, r4⟩ := stands_c hSs (by omega : c < 2048)
        have f3 : ∀ j, V2.1 232 j = Y.1 232 j := fun j => r2.1 _ _ (by unfold Pq; omega)
        rw [r1, Option.bind_some]
        dsimp only
        cases hz : zstd U (5 + 5 * t) n (U.1 (5 + 5 * t) 4) (U.1 (5 + 5 * t) 3) 1 cl c with
        | false =>
          rw [if_pos (by rfl)]
          refine ⟨(le, Int32.ofNat (c + 1), V2), ⟨rfl, r3, ?_⟩, rfl⟩
          dsimp only
          rw [f3, f3, nx, zmf_n1 (fun q => by have := q.2; rw [← ecl, hz] at this; cases this)]
          exact hR
        | true =>
          rw [if_neg (by decide)]
          have run : zrn U t n kk (Int32.ofNat (100 - 5 * i)) c := ⟨hr, by rw [← ecl]; exact hz⟩
          obtain ⟨y, y1, y2, y3, y4⟩ := worth_s (side := 0) r3 r4
          rw [if_pos rfl] at y2
          have y2 : y.toInt = zwm U t n (Int32.ofNat (100 - 5 * i)) c := by rw [y2, ecl]; rfl
          obtain ⟨_, _, _, _, _, _, _, r', _, _, _, y2', ynn, _⟩ := mid_m hM (x := Int32.ofNat t) (p := Int32.ofNat (100 - 5 * i)) (ofNat_int (by omega)) (by rw [ofNat_int (by omega)]; omega) (by omega : c < 2048)
          have y2' : r'.toInt = zwm U t n (Int32.ofNat (100 - 5 * i)) c := y2'
          obtain ⟨dk1, dk2⟩ := div_k (q := y) hk.1 hk.2 (by omega)
          have y1 : f_56 (232 + 1) 0 V2 = some y := y1
          rw [y1, Option.bind_some, if_pos dk2]
          rw [y2] at dk1
          by_cases hb : s.2.1 = -1
          · rw [if_pos (by rw [f3, i32_eq, hR.2.1, em1]; exact hb)]
            refine ⟨(y / (100 * (Int32.ofNat kk).toInt64), Int32.ofNat (c + 1), sI (sI V2 232 3 cl) 232 4 (Int32.ofNat c)), ⟨rfl, Ss_sI (Ss_sI r3 _ _) _ _, ?_⟩, rfl⟩
            dsimp only
            rw [nx, zmf_y run (Or.inl hb), sI_nj (by omega), sI_at, sI_at]
            exact ⟨by rw [hcl]; show _ = ((100 - 5 * i : Nat) : Int); omega, ofNat_int (by omega), dk1⟩
          · rw [if_neg (by rw [f3, i32_eq, hR.2.1, em1]; exact hb)]
            by_cases hlt : zwm U t n (Int32.ofNat (100 - 5 * i)) c / (100 * kk) < s.2.2
            · rw [if_neg (by rw [cmp_ge, dk1, hR.2.2]; omega)]
              refine ⟨(y / (100 * (Int32.ofNat kk).toInt64), Int32.ofNat (c + 1), sI (sI V2 232 3 cl) 232 4 (Int32.ofNat c)), ⟨rfl, Ss_sI (Ss_sI r3 _ _) _ _, ?_⟩, rfl⟩
              dsimp only
              rw [nx, zmf_y run (Or.inr hlt), sI_nj (by omega), sI_at, sI_at]
              exact ⟨by rw [hcl]; show _ = ((100 - 5 * i : Nat) : Int); omega, ofNat_int (by omega), dk1⟩
            · rw [if_pos (by rw [cmp_ge, dk1, hR.2.2]; omega)]
              refine ⟨(le, Int32.ofNat (c + 1), V2), ⟨rfl, r3, ?_⟩, rfl⟩
              dsimp only
              rw [f3, f3, nx, zmf_n2 (fun q => q.elim hb hlt)]
              exact hR
      · rw [if_pos ((f74_eq e5 (by omega) (by omega)).mpr hr)]
        refine ⟨(le, Int32.ofNat (c + 1), Y), ⟨rfl, hSs, ?_⟩, rfl⟩
        dsimp only
        rw [nx, zmf_n1 (fun q => hr q.1)]
        exact hR
    · rintro ⟨le, cc, Y⟩ m' ⟨rfl, hSs, hR⟩
      dsimp only at hSs hR ⊢
      have e2 : Y.1 (5 + 5 * t) 2 = Int32.ofNat n := (hSs.1.lo (by omega)).trans hT.1
      rw [f_78_53, f103_eq e2 hT.2.1 n12, if_pos (by rw [i32_le]; omega)]
      refine ⟨(le, cl + (-5), Y), ⟨?_, hSs.1, hR⟩, rfl⟩
      dsimp only
      rw [a32 (by rw [hcl, em5]; omega) (by rw [hcl, em5]; omega), hcl, em5]
      omega
  · rintro ⟨le, cl, Z⟩ m ⟨hcl, hS, hR⟩
    dsimp only at hcl hS hR ⊢
    rw [f_78_16, if_pos (by rw [i32_lt, hcl, e0]; omega)]
    exact ⟨Z, rfl, hS, hR.1, hR.2.1⟩
  · dsimp only
    rw [sI_nj (by omega), sI_at]
    rfl
  · dsimp only
    rw [sI_at]
    rfl
theorem mid_m2 {U : sU} {t n kk : Nat} (hM : MT U t n) (hk : 1 ≤ kk ∧ kk < 100) (hkw : (kk : Int) ≤ (U.1 (5 + 5 * t) 5).toInt) {x v3 : Int32} (hx : x.toInt = t) : ∃ r Z, f_258_66 FU x (Int32.ofNat kk) v3 (-1) (-1) 0 100 U = some (r, Z) ∧ Same U Z ∧ r.toInt = if v3 = 0 then (zmo (zmf U t n kk) (2 ^ (n - 1)) 21).1 else (zmo (zmf U t n kk) (2 ^ (n - 1)) 21).2.1 := by
  have hT := hM.2.1
  have n12 := hT.2.2.1
  have t8 := hM.1
  have p2 := two_pow_le n12
  have em1 : ((-1) : Int32).toInt = -1 := rfl
  have em5 : ((-5) : Int32).toInt = -5 := rfl
  have e0 : (0 : Int32).toInt = 0 := rfl
  refine loop_ex (fun m (z : Int32 × Int32 × Int64 × Int32 × sU) => f_258_66 m x (Int32.ofNat kk) v3 z.1 z.2.1 z.2.2.1 z.2.2.2.1 z.2.2.2.2) (fun i z => z.2.2.2.1.toInt = 100 - 5 * i ∧ Same U z.2.2.2.2 ∧ zR z.1 z.2.1 z.2.2.1 (zmo (zmf U t n kk) (2 ^ (n - 1)) i)) (fun o => ∃ r Z, o = some (r, Z) ∧ Same U Z ∧ r.toInt = if v3 = 0 then (zmo (zmf U t n kk) (2 ^ (n - 1)) 21).1 else (zmo (zmf U t n kk) (2 ^ (n - 1)) 21).2.1) 21 ?_ ?_ 21 0 FU (-1, -1, 0, 100, U) (by omega) (by unfold FU; omega) ⟨rfl, Same.rf U, rfl, rfl, rfl⟩
  · rintro i ⟨a, b, le, cl, Z⟩ m hi ⟨hcl, hS, hR⟩
    dsimp only at hcl hS hR ⊢
    refine Or.inr ?_
    have ecl : cl = Int32.ofNat (100 - 5 * i) := by
      apply Int32.toInt_inj.mp
      rw [hcl, ofNat_int (by omega)]
      omega
    rw [f_258_66, if_neg (by rw [i32_lt, hcl, e0]; omega)]
    refine loop_ex (fun m' (z : Int32 × Int32 × Int64 × Int32 × sU) => f_258_74 (fun v1 v2 v3 v4 v5 v6 v8 U => f_258_66 m v1 v2 v3 v4 v5 v6 v8 U) m' x (Int32.ofNat kk) v3 z.1 z.2.1 z.2.2.1 cl z.2.2.2.1 z.2.2.2.2) (fun c z => z.2.2.2.1 = Int32.ofNat c ∧ Same U z.2.2.2.2 ∧ zR z.1 z.2.1 z.2.2.1 (zmi (zmf U t n kk i) c (zmo (zmf U t n kk) (2 ^ (n - 1)) i))) (fun o => ∃ s' : Int32 × Int32 × Int64 × Int32 × sU, (s'.2.2.2.1.toInt = 100 - 5 * (i + 1 : Nat) ∧ Same U s'.2.2.2.2 ∧ zR s'.1 s'.2.1 s'.2.2.1 (zmo (zmf U t n kk) (2 ^ (n - 1)) (i + 1))) ∧ o = f_258_66 m x (Int32.ofNat kk) v3 s'.1 s'.2.1 s'.2.2.1 s'.2.2.2.1 s'.2.2.2.2) (2 ^ (n - 1)) ?_ ?_ (2 ^ (n - 1)) 0 FU (a, b, le, 0, Z) (by omega) (by unfold FU; omega) ⟨rfl, hS, hR⟩
    · rintro c ⟨a, b, le, cc, Y⟩ m' hc ⟨rfl, hS, hR⟩
      dsimp only at hS hR ⊢
      refine Or.inr ?_
      have hY := MT_same hM hS
      have pl := zpc_le c
      generalize hs : zmi (zmf U t n kk i) c (zmo (zmf U t n kk) (2 ^ (n - 1)) i) = s at *
      have nx : zmi (zmf U t n kk i) (c + 1) (zmo (zmf U t n kk) (2 ^ (n - 1)) i) = zmf U t n kk i c s := by rw [← hs]; rfl
      rw [f_258_74, f239_m hY hx, Option.bind_some, if_neg (by rw [i32_le, ofNat_int (by omega), ofNat_int (by omega)]; omega), f214_eq (by omega : c < 4096), Option.bind_some, ofNat_succ, ofNat_succ]
      by_cases hr : zpc c + 1 = kk
      · have ha : zal U (5 + 5 * t) c = true := decide_eq_true (by omega)
        rw [if_pos (by rw [hr])]
        obtain ⟨V1, V2, V3, a1, a2, a3, a4, r, V4, r1, r2, r3, r4, r5⟩ := mid_m hY (p := cl) hx (by omega) (by omega : c < 2048)
        have est : zstd Y (5 + 5 * t) n (Y.1 (5 + 5 * t) 4) (Y.1 (5 + 5 * t) 3) 1 cl c = zstd U (5 + 5 * t) n (U.1 (5 + 5 * t) 4) (U.1 (5 + 5 * t) 3) 1 cl c := by
          obtain ⟨eX, eC⟩ := same_XC hS (T := 5 + 5 * t) (by omega)
          unfold zstd zAc
          rw [eX, eC, hS.lo (by omega : 5 + 5 * t < 210), hS.lo (by omega : 5 + 5 * t < 210), hS.lo (by omega : 5 + 5 * t < 210)]
        have ew : r.toInt = zwm U t n (Int32.ofNat (100 - 5 * i)) c := by
          obtain ⟨eX, eC⟩ := same_XC hS (T := 5 + 5 * t) (by omega)
          rw [r3, ← ecl]
          unfold zwm zAc
          rw [eX, eC, hS.lo (by omega : 5 + 5 * t < 210), hS.lo (by omega : 5 + 5 * t < 210)]
        rw [est] at a3
        rw [a1, Option.bind_some, a2, Option.bind_some, a3, Option.bind_some]
        dsimp only
        cases hz : zstd U (5 + 5 * t) n (U.1 (5 + 5 * t) 4) (U.1 (5 + 5 * t) 3) 1 cl c with
        | false =>
          rw [if_pos (by rfl)]
          refine ⟨(a, b, le, Int32.ofNat (c + 1), V3), ⟨rfl, hS.tr a4, ?_⟩, rfl⟩
          dsimp only
          rw [nx, zmf_n1 (fun q => by have := q.2; rw [← ecl, hz] at this; cases this)]
          exact hR
        | true =>
          rw [if_neg (by decide)]
          have run : zrn U t n kk (Int32.ofNat (100 - 5 * i)) c := ⟨⟨hr, ha⟩, by rw [← ecl]; exact hz⟩
          obtain ⟨dk1, dk2⟩ := div_k (q := r) hk.1 hk.2 r4
          rw [r1, Option.bind_some, if_pos dk2]
          rw [ew] at dk1
          dsimp only
          by_cases hb : s.2.1 = -1
          · rw [if_pos (by rw [i32_eq, hR.2.1, em1]; exact hb)]
            refine ⟨(cl, Int32.ofNat c, r / (100 * (Int32.ofNat kk).toInt64), Int32.ofNat (c + 1), V4), ⟨rfl, hS.tr r2, ?_⟩, rfl⟩
            dsimp only
            rw [nx, zmf_y run (Or.inl hb)]
            exact ⟨by rw [hcl]; show _ = ((100 - 5 * i : Nat) : Int); omega, ofNat_int (by omega), dk1⟩
          · rw [if_neg (by rw [i32_eq, hR.2.1, em1]; exact hb)]
            by_cases hlt : zwm U t n (Int32.ofNat (100 - 5 * i)) c / (100 * kk) < s.2.2
            · rw [if_neg (by rw [cmp_ge, dk1, hR.2.2]; omega)]
              refine ⟨(cl, Int32.ofNat c, r / (100 * (Int32.ofNat kk).toInt64), Int32.ofNat (c + 1), V4), ⟨rfl, hS.tr r2, ?_⟩, rfl⟩
              dsimp only
              rw [nx, zmf_y run (Or.inr hlt)]
              exact ⟨by rw [hcl]; show _ = ((100 - 5 * i : Nat) : Int); omega, ofNat_int (by omega), dk1⟩
            · rw [if_pos (by rw [cmp_ge, dk1, hR.2.2]; omega)]
              refine ⟨(a, b, le, Int32.ofNat (c + 1), V4), ⟨rfl, hS.tr r2, ?_⟩, rfl⟩
              dsimp only
              rw [nx, zmf_n2 (fun q => q.elim hb hlt)]
              exact hR
      · rw [if_neg (ofNat_ne (by omega) (by omega) hr)]
        refine ⟨(a, b, le, Int32.ofNat (c + 1), Y), ⟨rfl, hS, ?_⟩, rfl⟩
        dsimp only
        rw [nx, zmf_n1 (fun q => hr q.1.1)]
        exact hR
    · rintro ⟨a, b, le, cc, Y⟩ m' ⟨rfl, hS, hR⟩
      dsimp only at hS hR ⊢
      rw [f_258_74, f239_m (MT_same hM hS) hx, Option.bind_some, if_pos (by rw [i32_le]; omega)]
      refine ⟨(a, b, le, cl + (-5), Y), ⟨?_, hS, hR⟩, rfl⟩
      dsimp only
      rw [a32 (by rw [hcl, em5]; omega) (by rw [hcl, em5]; omega), hcl, em5]
      omega
  · rintro ⟨a, b, le, cl, Z⟩ m ⟨hcl, hS, hR⟩
    dsimp only at hcl hS hR ⊢
    rw [f_258_66, if_pos (by rw [i32_lt, hcl, e0]; omega)]
    by_cases h3 : v3 = 0
    · rw [if_pos h3, if_pos h3]
      exact ⟨a, Z, rfl, hS, hR.1⟩
    · rw [if_neg h3, if_neg h3]
      exact ⟨b, Z, rfl, hS, hR.2.1⟩
theorem zmo_big {U : sU} {t n kk : Nat} (h : (U.1 (5 + 5 * t) 5).toInt < kk) (N : Nat) : ∀ i, zmo (zmf U t n kk) N i = (-1, -1, 0) := by
  have no : ∀ i c s, zmf U t n kk i c s = s := fun i c s => zmf_n1 (fun q => by
    have h1 := q.1.1
    have h2 := of_decide_eq_true q.1.2
    omega)
  have inn : ∀ i c s, zmi (zmf U t n kk i) c s = s := by
    intro i c s
    induction c with
    | zero => rfl
    | succ c ih => unfold zmi; rw [no, ih]
  intro i
  induction i with
  | zero => rfl
  | succ i ih => unfold zmo; rw [inn, ih]
theorem st_middle {U : sU} (h : Inv U) (x y w : Int32) : Two (f_145 x y w U) (f_258 x y w) := by
  have h0 := h
  have e0' : (0 : Int32).toInt = 0 := rfl
  have e1' : (1 : Int32).toInt = 1 := rfl
  have e2' : (12 : Int32).toInt = 12 := rfl
  have em1 : ((-1) : Int32).toInt = -1 := rfl
  obtain ⟨nT, nM, h⟩ := h
  have n8 := h.1.1.2.2.1
  have r0 : ∀ w : Int32, (1 ≤ w.toInt ∧ w.toInt ≤ 7) → (f_159 w U).2.1 280 0 = Int32.ofNat nT := fun w hw => (f159_1 hw (by decide)).trans h.1.2.1
  by_cases hx : 0 ≤ x.toInt ∧ x.toInt < nT
  case neg => exact ten_to h0 (w := 1) (by decide) (by unfold f_145; rw [tat_no h hx]) (by unfold f_258; rw [if_pos (f178_no (r0 1 (by decide)) n8 hx)])
  obtain ⟨e1, e2, e3, e4, _⟩ := tat_yes h hx
  obtain ⟨n, hM⟩ := MT_of h e2
  have t8 := hM.1
  have i8 : ib x 8 := ib_int.mpr (by omega)
  have bad : ¬ ((1 ≤ y.toInt ∧ y.toInt ≤ 12) ∧ (0 ≤ w.toInt ∧ w.toInt ≤ 1)) → f_258 x y w (f_159 6 U).2 = (f_176 (-6) (f_159 6 U).2).bind fun q => some (q.1, q.2) := by
    intro q
    unfold f_258
    rw [if_neg (f178_yes (r0 6 (by decide)) n8 hx)]
    by_cases y0 : y < 1
    · rw [if_pos y0]
    rw [if_neg y0]
    rw [i32_lt, e1'] at y0
    by_cases y1 : 12 < y
    · rw [if_pos y1]
    rw [if_neg y1]
    rw [i32_lt, e2'] at y1
    by_cases w0 : w < 0
    · rw [if_pos w0]
    rw [if_neg w0]
    rw [i32_lt0] at w0
    rw [if_neg (by rw [i32_le, e1']; omega)]
  by_cases hy : 1 ≤ y.toInt ∧ y.toInt ≤ 12
  case neg => exact ten_to h0 (w := 6) (by decide) (by unfold f_145; rw [e1]; dsimp only; rw [if_pos (f169_iff.mpr hy)]) (bad (by omega))
  have cy : ¬ f_169 y U = 0 := fun q => f169_iff.mp q hy
  by_cases hw : 0 ≤ w.toInt ∧ w.toInt ≤ 1
  case neg =>
    refine ten_to h0 (w := 6) (by decide) ?_ (bad (by omega))
    unfold f_145
    rw [e1]
    dsimp only
    rw [if_neg cy]
    by_cases w0 : w < 0
    · rw [if_pos w0]
    · rw [if_neg w0]
      rw [i32_lt0] at w0
      rw [if_neg (by rw [i32_le, e1']; omega)]
  have ey : y = Int32.ofNat y.toNatClampNeg := i32_nat (by omega)
  have yk : (y.toNatClampNeg : Int) = y.toInt := by rw [clamp_int]; omega
  refine two_i h0 (v := if w = 0 then (zmo (zmf U x.toNatClampNeg n y.toNatClampNeg) (2 ^ (n - 1)) 21).1 else (zmo (zmf U x.toNatClampNeg n y.toNatClampNeg) (2 ^ (n - 1)) 21).2.1) ?_ ?_
  · obtain ⟨Z, z1, z2, z3, z4⟩ := mid_c hM (kk := y.toNatClampNeg) (by omega)
    rw [← ey] at z1
    unfold f_145
    rw [e1]
    dsimp only
    rw [if_neg cy, if_neg (by rw [i32_lt0]; omega), if_pos (by rw [i32_le, e1']; omega), z1, Option.bind_some]
    by_cases c : w = 0
    · rw [if_pos c, if_pos c]
      exact ⟨_, Z, rfl, z2, z3⟩
    · rw [if_neg c, if_neg c]
      exact ⟨_, Z, rfl, z2, z4⟩
  · intro Y hY
    have hMY := MT_same hM hY
    unfold f_258
    rw [if_neg (f178_yes (InvN_same hY h).1.2.1 n8 hx), if_neg (by rw [i32_lt, e1']; omega), if_neg (by rw [i32_lt, e2']; omega), if_neg (by rw [i32_lt0]; omega), if_pos (by rw [i32_le, e1']; omega), if_pos i8, hMY.2.2.2.2.2.1, hY.lo (by omega : 5 + 5 * x.toNatClampNeg < 210)]
    by_cases c : y ≤ U.1 (5 + 5 * x.toNatClampNeg) 5
    · rw [if_pos c]
      rw [i32_le] at c
      obtain ⟨r, Z, r1, r2, r3⟩ := mid_m2 hMY (kk := y.toNatClampNeg) (by omega) (by rw [hY.lo (by omega : 5 + 5 * x.toNatClampNeg < 210)]; omega) (v3 := w) e4
      rw [← ey] at r1
      rw [r1]
      rw [zmf_same hY t8] at r3
      exact ⟨r, Z, rfl, r2, r3⟩
    · rw [if_neg c]
      rw [i32_le] at c
      rw [zmo_big (by omega)]
      exact ⟨-1, Y, rfl, Same.rf Y, by rw [em1]; split <;> rfl⟩
