/-! any: the class's next way, and its count -/
theorem gL_up {n t i : Nat} {L : List Nat} (hi : i < n) : gL (upL n t L) i = if i < t then gL L i else if i = t then gL L t + 1 else 0 := by
  unfold gL upL
  rw [List.getD_eq_getElem?_getD, List.getElem?_map, List.getElem?_range hi]
  rfl
theorem gL_zer {n i : Nat} (hi : i < n) : gL (zerL n) i = 0 := by
  unfold gL zerL
  rw [List.getD_eq_getElem?_getD, List.getElem?_map, List.getElem?_range hi]
  rfl
theorem zmx_s (W : Nat → Nat) (t : Nat) : zmx W (t + 1) = if zmx W t < W t then W t else zmx W t := rfl
theorem zmx_le {W : Nat → Nat} : ∀ {t i : Nat}, i < t → W i ≤ zmx W t := by
  intro t
  induction t with
  | zero => intro i h; omega
  | succ t ih =>
    intro i h
    unfold zmx
    by_cases e : i = t
    · subst e; split <;> omega
    · have := ih (by omega : i < t)
      split <;> omega
theorem zmx_bd {W : Nat → Nat} {B : Nat} : ∀ {t : Nat}, (∀ i, i < t → W i < B) → 0 < B → zmx W t < B := by
  intro t
  induction t with
  | zero => intro _ h; exact h
  | succ t ih =>
    intro h hB
    have := ih (fun i hi => h i (by omega)) hB
    have := h t (by omega)
    unfold zmx
    split <;> omega
theorem recount {V : sU} {T n : Nat} {W : Nat → Nat} (htk : tk V 233 = T) (hT : Tk V T n) (hW : ∀ i, i < n → W i < 12) (hv : ∀ i, i < n → V.1 235 i = Int32.ofNat (W i)) : ∃ V', f_62 233 V = some V' ∧ Wd V' 233 n W n ∧ Fr (Pw 233) V V' := by
  have ha : rdA 233 := Or.inr (Or.inl rfl)
  obtain ⟨t1, t2, t3, t4, t5, t6, t7, t8, _⟩ := hT
  obtain ⟨l1, _⟩ := ln_rd ha
  obtain ⟨s1, s2⟩ := silence_ok (V := V) (a := 233) (n := n) hW
  unfold f_62
  refine loop_ex (fun m (s : Int32 × sU) => f_62_6 m 233 s.1 s.2) (fun k s => s.1 = Int32.ofNat k ∧ Fr (Pw 233) V s.2 ∧ Wd s.2 233 n W k ∧ ∀ i, i < n → s.2.1 235 i = Int32.ofNat (W i)) (fun o => ∃ V', o = some V' ∧ Wd V' 233 n W n ∧ Fr (Pw 233) V V') n ?_ ?_ n 0 FU (0, f_37 233 V) (by omega) (by unfold FU; omega) ⟨rfl, s2, s1, fun i hi => ?_⟩
  · rintro k ⟨c, Z⟩ m hk ⟨rfl, hF, hWd, hz⟩
    dsimp only at hF hWd hz ⊢
    refine Or.inr ?_
    have ht : tk Z 233 = T := (Fr_tk hF 233).trans htk
    have e2 : Z.1 T 2 = Int32.ofNat n := by rw [hF.1 _ _ (by unfold Pw; omega)]; exact t1
    have g : iget (233 + 1) (Int32.ofNat k) Z = Int32.ofNat (W k) := by rw [iget_k l1 (by omega)]; exact hz k hk
    obtain ⟨p1, p2⟩ := put_ok ha t3 hk hWd
    rw [f_62_6, ht, e2, if_neg (fun q => by have := (ofNat_le (by omega) (by omega)).mp q; omega), g, ofNat_succ]
    refine ⟨(Int32.ofNat (k + 1), f_38 233 (Int32.ofNat k) (Int32.ofNat (W k)) Z), ⟨rfl, hF.tr p2, p1, fun i hi => ?_⟩, rfl⟩
    dsimp only
    by_cases e : i < k + 1
    · exact p1.2.1 i e
    · have : (f_38 233 (Int32.ofNat k) (Int32.ofNat (W k)) Z).1 235 i = Z.1 235 i := by
        unfold f_38
        rw [iput_k l1 (by omega)]
        split
        · rw [sI_ne (by omega), sI_ne (by omega), sI_nj (by omega)]
        · rw [sI_nj (by omega)]
      rw [this]
      exact hz i hi
  · rintro ⟨c, Z⟩ m ⟨rfl, hF, hWd, hz⟩
    dsimp only at hF hWd hz ⊢
    have ht : tk Z 233 = T := (Fr_tk hF 233).trans htk
    have e2 : Z.1 T 2 = Int32.ofNat n := by rw [hF.1 _ _ (by unfold Pw; omega)]; exact t1
    rw [f_62_6, ht, e2, if_pos ((ofNat_le (by omega) (by omega)).mpr (Nat.le_refl _))]
    exact ⟨Z, rfl, hWd, hF⟩
  · dsimp only
    unfold f_37
    rw [sI_ne (by omega), sI_ne (by omega)]
    exact hv i hi
theorem next_c {V : sU} {T n kk : Nat} {L : List Nat} (htk : tk V 233 = T) (hT : Tk V T n) (hw : V.1 T 5 = Int32.ofNat kk) (hk : kk ≤ 12) (hWd : Wd V 233 n (gL L) n) : (nextL n kk L = none ∧ f_61 233 V = some (0, V)) ∨ ∃ L' V', nextL n kk L = some L' ∧ f_61 233 V = some (1, V') ∧ Wd V' 233 n (gL L') n ∧ Fr (Pw 233) V V' := by
  have ha : rdA 233 := Or.inr (Or.inl rfl)
  have hT0 := hT
  obtain ⟨t1, t2, t3, t4, t5, t6, t7, t8, _⟩ := hT
  obtain ⟨l1, _⟩ := ln_rd ha
  have e1 : (1 : Int32).toInt = 1 := rfl
  have e0 : (0 : Int32).toInt = 0 := rfl
  have em : ∀ k : Nat, k < 100 → Int32.ofNat (k + 1) + (-1) = Int32.ofNat k := by
    intro k hk
    apply Int32.toInt_inj.mp
    have em1 : ((-1) : Int32).toInt = -1 := rfl
    rw [a32 (by rw [em1, ofNat_int (by omega)]; omega) (by rw [em1, ofNat_int (by omega)]; omega), em1, ofNat_int (by omega), ofNat_int (by omega)]
    omega
  have gW : ∀ i, i < n → iget (233 + 1) (Int32.ofNat i) V = Int32.ofNat (gL L i) := fun i hi => by rw [iget_k l1 (by omega)]; exact hWd.2.1 i hi
  have mx : ∀ t, t ≤ n → zmx (gL L) t < 12 := fun t ht => zmx_bd (fun i hi => hWd.1 i (by omega)) (by omega)
  -- once the place is found
  have found : ∀ t, t < n → zgo kk (gL L) t = true → ∃ V', f_61_96 FU 233 (Int32.ofNat t + 1) (iput (233 + 1) (Int32.ofNat t) (Int32.ofNat (gL L t) + 1) V) = some (1, V') ∧ Wd V' 233 n (gL (upL n t L)) n ∧ Fr (Pw 233) V V' := by
    intro t ht hg
    have hg' : (0 < t ∧ gL L t ≤ zmx (gL L) t) ∧ gL L t + 1 < kk := by
      unfold zgo at hg
      rw [Bool.and_eq_true, Bool.and_eq_true, decide_eq_true_iff, decide_eq_true_iff, decide_eq_true_iff] at hg
      exact hg
    have hW' : ∀ i, i < n → gL (upL n t L) i < 12 := by
      intro i hi
      have := hWd.1 i hi
      rw [gL_up hi]
      split
      · omega
      · split <;> omega
    rw [iput_k l1 (by omega), ofNat_succ, ofNat_succ]
    have f0 : Fr (Pw 233) V (sI V (233 + 1 + 1) t (Int32.ofNat (gL L t + 1))) := Fr.sI (Fr.rf _ _) _ (Or.inl rfl)
    refine loop_ex (fun m (s : Int32 × sU) => f_61_96 m 233 s.1 s.2) (fun k s => s.1 = Int32.ofNat (t + 1 + k) ∧ Fr (Pw 233) V s.2 ∧ ∀ i, i < n → i < t + 1 + k → s.2.1 235 i = Int32.ofNat (gL (upL n t L) i)) (fun o => ∃ V', o = some (1, V') ∧ Wd V' 233 n (gL (upL n t L)) n ∧ Fr (Pw 233) V V') (n - (t + 1)) ?_ ?_ (n - (t + 1)) 0 FU (Int32.ofNat (t + 1), sI V (233 + 1 + 1) t (Int32.ofNat (gL L t + 1))) (by omega) (by unfold FU; omega) ⟨rfl, f0, fun i hi hit => ?_⟩
    · rintro k ⟨c, Z⟩ m hk' ⟨rfl, hF, hz⟩
      dsimp only at hF hz ⊢
      refine Or.inr ?_
      have ht' : tk Z 233 = T := (Fr_tk hF 233).trans htk
      have e2 : Z.1 T 2 = Int32.ofNat n := by rw [hF.1 _ _ (by unfold Pw; omega)]; exact t1
      rw [f_61_96, ht', e2, if_neg (fun q => by have := (ofNat_le (by omega) (by omega)).mp q; omega), iput_k l1 (by omega), ofNat_succ]
      refine ⟨(Int32.ofNat (t + 1 + k + 1), sI Z (233 + 1 + 1) (t + 1 + k) 0), ⟨rfl, Fr.sI hF _ (Or.inl rfl), fun i hi hit => ?_⟩, rfl⟩
      dsimp only
      by_cases e : i = t + 1 + k
      · subst e
        rw [sI_at, gL_up hi, if_neg (by omega), if_neg (by omega)]
        rfl
      · rw [sI_nj e]
        exact hz i hi (by omega)
    · rintro ⟨c, Z⟩ m ⟨rfl, hF, hz⟩
      dsimp only at hF hz ⊢
      have ht' : tk Z 233 = T := (Fr_tk hF 233).trans htk
      have e2 : Z.1 T 2 = Int32.ofNat n := by rw [hF.1 _ _ (by unfold Pw; omega)]; exact t1
      have hTZ : Tk Z T n := Tk_same hT0 (fun x j hx => hF.1 _ _ (by unfold Pw; omega))
      obtain ⟨V', v1, v2, v3⟩ := recount ht' hTZ hW' (fun i hi => hz i hi (by omega))
      rw [f_61_96, ht', e2, if_pos ((ofNat_le (by omega) (by omega)).mpr (by omega)), v1, Option.bind_some]
      exact ⟨V', rfl, v2, hF.tr v3⟩
    · dsimp only
      rw [gL_up hi]
      by_cases e : i = t
      · subst e
        rw [sI_at, if_neg (by omega), if_pos rfl]
      · rw [sI_nj e, if_pos (by omega)]
        exact hWd.2.1 i hi
  -- one place
  have place : ∀ (m t : Nat), t < n → 0 < t → (zgo kk (gL L) t = true → ∃ V', f_61_18 (fun a v1 U => f_61_10 m a v1 U) FU 233 (Int32.ofNat t) 0 0 V = some (1, V') ∧ Wd V' 233 n (gL (upL n t L)) n ∧ Fr (Pw 233) V V') ∧ (zgo kk (gL L) t = false → f_61_18 (fun a v1 U => f_61_10 m a v1 U) FU 233 (Int32.ofNat t) 0 0 V = f_61_10 m 233 (Int32.ofNat (t - 1)) V) := by
    intro m t ht h0
    have top : f_61_18 (fun a v1 U => f_61_10 m a v1 U) FU 233 (Int32.ofNat t) 0 0 V = if Int32.ofNat (zmx (gL L) t) < Int32.ofNat (gL L t) then f_61_10 m 233 (Int32.ofNat t + (-1)) V else if Int32.ofNat kk ≤ Int32.ofNat (gL L t + 1) then f_61_10 m 233 (Int32.ofNat t + (-1)) V else f_61_96 FU 233 (Int32.ofNat t + 1) (iput (233 + 1) (Int32.ofNat t) (Int32.ofNat (gL L t) + 1) V) := by
      refine loop_ex (fun m' (s : Int32 × Int32) => f_61_18 (fun a v1 U => f_61_10 m a v1 U) m' 233 (Int32.ofNat t) s.1 s.2 V) (fun k s => s.2 = Int32.ofNat k ∧ s.1 = Int32.ofNat (zmx (gL L) k)) (fun o => o = if Int32.ofNat (zmx (gL L) t) < Int32.ofNat (gL L t) then f_61_10 m 233 (Int32.ofNat t + (-1)) V else if Int32.ofNat kk ≤ Int32.ofNat (gL L t + 1) then f_61_10 m 233 (Int32.ofNat t + (-1)) V else f_61_96 FU 233 (Int32.ofNat t + 1) (iput (233 + 1) (Int32.ofNat t) (Int32.ofNat (gL L t) + 1) V)) t ?_ ?_ t 0 FU (0, 0) (by omega) (by unfold FU; omega) ⟨rfl, rfl⟩
      · rintro k ⟨p, c⟩ m' hk' ⟨rfl, rfl⟩
        dsimp only
        refine Or.inr ?_
        have b1 := mx k (by omega)
        have b2 := hWd.1 k (by omega)
        rw [f_61_18, if_neg (fun q => by have := (ofNat_le (by omega) (by omega)).mp q; omega), gW k (by omega), ofNat_succ]
        refine ⟨(f_286 (Int32.ofNat (zmx (gL L) k)) (Int32.ofNat (gL L k)) V, Int32.ofNat (k + 1)), ⟨rfl, ?_⟩, rfl⟩
        dsimp only
        unfold f_286
        rw [zmx_s]
        by_cases e : zmx (gL L) k < gL L k
        · rw [if_pos (by rw [i32_lt, ofNat_int (by omega), ofNat_int (by omega)]; omega), if_pos e]
        · rw [if_neg (by rw [i32_lt, ofNat_int (by omega), ofNat_int (by omega)]; omega), if_neg e]
      · rintro ⟨p, c⟩ m' ⟨rfl, rfl⟩
        dsimp only
        rw [f_61_18, if_pos ((ofNat_le (by omega) (by omega)).mpr (Nat.le_refl _)), gW t ht, htk, hw]
        simp only [ofNat_succ]
    have b1 := mx t (by omega)
    have b2 := hWd.1 t ht
    obtain ⟨u, rfl⟩ : ∃ u, t = u + 1 := ⟨t - 1, by omega⟩
    rw [top]
    constructor
    · intro hg
      have hg2 := hg
      unfold zgo at hg
      rw [Bool.and_eq_true, Bool.and_eq_true, decide_eq_true_iff, decide_eq_true_iff, decide_eq_true_iff] at hg
      rw [if_neg (by rw [i32_lt, ofNat_int (by omega), ofNat_int (by omega)]; omega), if_neg (by rw [i32_le, ofNat_int (by omega), ofNat_int (by omega)]; omega)]
      exact found _ ht hg2
    · intro hg
      rw [em u (by omega), show u + 1 - 1 = u from rfl]
      by_cases c1 : zmx (gL L) (u + 1) < gL L (u + 1)
      · rw [if_pos (by rw [i32_lt, ofNat_int (by omega), ofNat_int (by omega)]; omega)]
      · rw [if_neg (by rw [i32_lt, ofNat_int (by omega), ofNat_int (by omega)]; omega)]
        by_cases c2 : kk ≤ gL L (u + 1) + 1
        · rw [if_pos (by rw [i32_le, ofNat_int (by omega), ofNat_int (by omega)]; omega)]
        · exfalso
          unfold zgo at hg
          rw [decide_eq_true (by omega : 0 < u + 1), decide_eq_true (by omega : gL L (u + 1) ≤ zmx (gL L) (u + 1)), decide_eq_true (by omega : gL L (u + 1) + 1 < kk)] at hg
          cases hg
  have scan : ∀ (t m : Nat), t < n → t < m → (zlt (zgo kk (gL L)) (t + 1) = none ∧ f_61_10 m 233 (Int32.ofNat t) V = some (0, V)) ∨ ∃ t' V', zlt (zgo kk (gL L)) (t + 1) = some t' ∧ f_61_10 m 233 (Int32.ofNat t) V = some (1, V') ∧ Wd V' 233 n (gL (upL n t' L)) n ∧ Fr (Pw 233) V V' := by
    intro t
    induction t with
    | zero =>
      intro m ht hm
      obtain ⟨m, rfl⟩ : ∃ q, m = q + 1 := ⟨m - 1, by omega⟩
      refine Or.inl ⟨?_, ?_⟩
      · unfold zlt
        have : zgo kk (gL L) 0 = false := by unfold zgo; rw [decide_eq_false (by omega : ¬ 0 < 0)]; rfl
        rw [this, if_neg Bool.false_ne_true]
        rfl
      · rw [f_61_10, if_pos (by rw [i32_le, ofNat_int (by omega), e0]; omega)]
    | succ t ih =>
      intro m ht hm
      obtain ⟨m, rfl⟩ : ∃ q, m = q + 1 := ⟨m - 1, by omega⟩
      obtain ⟨p1, p2⟩ := place m (t + 1) ht (by omega)
      rw [f_61_10, if_neg (by rw [i32_le, ofNat_int (by omega), e0]; omega)]
      cases hg : zgo kk (gL L) (t + 1) with
      | true =>
        obtain ⟨V', v1, v2, v3⟩ := p1 hg
        refine Or.inr ⟨t + 1, V', ?_, v1, v2, v3⟩
        unfold zlt
        rw [hg, if_pos rfl]
      | false =>
        have ez : zlt (zgo kk (gL L)) (t + 1 + 1) = zlt (zgo kk (gL L)) (t + 1) := by
          show (if zgo kk (gL L) (t + 1) then _ else _) = _
          rw [hg, if_neg Bool.false_ne_true]
        rw [p2 hg, ez, show t + 1 - 1 = t from rfl]
        exact ih m (by omega) (by omega)
  have en : Int32.ofNat n - 1 = Int32.ofNat (n - 1) := by
    apply Int32.toInt_inj.mp
    rw [s32 (by rw [e1, ofNat_int (by omega)]; omega) (by rw [e1, ofNat_int (by omega)]; omega), e1, ofNat_int (by omega), ofNat_int (by omega)]
    omega
  have fin := scan (n - 1) FU (by omega) (by unfold FU; omega)
  rw [show n - 1 + 1 = n by omega] at fin
  unfold f_61 nextL
  rw [htk, t1, en]
  rcases fin with ⟨f1, f2⟩ | ⟨t', V', f1, f2, f3, f4⟩
  · exact Or.inl ⟨by rw [f1], f2⟩
  · exact Or.inr ⟨upL n t' L, V', by rw [f1], f2, f3, f4⟩
/-- how many of a list's ways hold -/
def cntL (p : List Nat → Bool) : List (List Nat) → Nat
  | [] => 0
  | L :: r => (if p L then 1 else 0) + cntL p r
theorem cntL_le {p : List Nat → Bool} : ∀ r, cntL p r ≤ r.length := by
  intro r
  induction r with
  | nil => exact Nat.le_refl _
  | cons L r ih =>
    unfold cntL
    rw [List.length_cons]
    split <;> omega
theorem seqL_len {n K : Nat} : ∀ m L, (seqL n K m L).length ≤ m := by
  intro m
  induction m with
  | zero => intro L; exact Nat.le_refl _
  | succ m ih =>
    intro L
    unfold seqL
    rw [List.length_cons]
    cases nextL n K L with
    | none => dsimp only; rw [List.length_nil]; omega
    | some L' => dsimp only; have := ih L'; omega
def pW (U : sU) (t n : Nat) (L : List Nat) : Bool := zok n (hDw U t n (gL L) 1 (U.1 (5 + 5 * t) 3).toInt) (gL L)
theorem ways_c {U : sU} {t n kk : Nat} (hM : MT U t n) (hk : U.1 (5 + 5 * t) 5 = Int32.ofNat kk) (hk12 : kk ≤ 12) : ∀ (m way cnt fuel : Nat) (L : List Nat) (V : sU), way + m = 203 → m < fuel → cnt ≤ way → Ss U V 233 (5 + 5 * t) n (U.1 (5 + 5 * t) 4) (U.1 (5 + 5 * t) 3) 0 100 → Wd V 233 n (gL L) n → ∃ Z, f_73_31 fuel 232 (Int32.ofNat cnt) 1 (Int32.ofNat way) V = some (Int32.ofNat (cnt + cntL (pW U t n) (seqL n kk m L)), Z) ∧ Same U Z := by
  have e203 : (203 : Int32).toInt = 203 := rfl
  have em1 : ((-1) : Int32).toInt = -1 := rfl
  have ha : rdA 233 := Or.inr (Or.inl rfl)
  have t8 := hM.1
  intro m
  induction m with
  | zero =>
    intro way cnt fuel L V hw hf hc hS hWd
    obtain ⟨fuel, rfl⟩ : ∃ q, fuel = q + 1 := ⟨fuel - 1, by omega⟩
    rw [f_73_31, if_neg (by decide), if_pos (by rw [i32_le, e203, ofNat_int (by omega)]; omega)]
    exact ⟨V, rfl, hS.1⟩
  | succ m ih =>
    intro way cnt fuel L V hw hf hc hS hWd
    obtain ⟨fuel, rfl⟩ : ∃ q, fuel = q + 1 := ⟨fuel - 1, by omega⟩
    have hS0 := hS
    obtain ⟨s1, s2, s3, s4, s5, s6, s7, s8, s9, s10, s11, s12⟩ := hS
    have hR : Rd V 233 (5 + 5 * t) n (gL L) := ⟨ha, s3, Tk_same s4 (fun x j hx => s1.lo hx), hWd, by rw [s5]; exact s9, by rw [s6]; exact s10, by rw [s7]; exact s11, by rw [s8]; exact s12⟩
    obtain ⟨V2, r1, r2, r3, r4⟩ := settle_ok hR
    have hS2 := Ss_fr hS0 r2 (fun x j q => ⟨Ps_scr ha q, by unfold Ps Pg at q; omega⟩)
    obtain ⟨R1, R2, R3, R4, R5⟩ := Rd_fr hR r2 (by intro x j q; unfold Ps Pg at q; omega)
    obtain ⟨eX, eC⟩ := same_XC s1 (T := 5 + 5 * t) (by omega)
    have hy : Rdy V2 233 (5 + 5 * t) n (gL L) (hH U (5 + 5 * t) n (gL L) (U.1 (5 + 5 * t) 4).toInt) := by
      refine ⟨R1, fun w hw hu => ?_, fun w _ => zlst_bd⟩
      rw [r3 w hw hu]
      unfold zA hH gY
      rw [s7, zwt_0, eX, eC, s5, s1.lo (by omega : 5 + 5 * t < 210)]
    obtain ⟨y, y1, y2⟩ := lie_ok hy
    have y2 : y.toInt = zlie n (zub (gL L) n) (hDw U t n (gL L) 1 (U.1 (5 + 5 * t) 3).toInt) (gL L) := by
      rw [y2, hDw_1, hS2.2.2.2.2.2.1, hS2.1.lo (by omega : 5 + 5 * t < 210), (same_XC hS2.1 (T := 5 + 5 * t) (by omega)).1]
    have hw2 : V2.1 (5 + 5 * t) 5 = Int32.ofNat kk := by rw [hS2.1.lo (by omega)]; exact hk
    have hT2 : Tk V2 (5 + 5 * t) n := Tk_same s4 (fun x j hx => hS2.1.lo hx)
    have nx := next_c hS2.2.2.1 hT2 hw2 hk12 R1.2.2.2.1
    have e203' : ¬ (203 : Int32) ≤ Int32.ofNat way := by rw [i32_le, e203, ofNat_int (by omega)]; omega
    have r1' : f_41 (232 + 1) V = some V2 := r1
    have y1' : f_57 (232 + 1) V2 = some y := y1
    -- the rest, with the new count
    have rest : ∀ cnt' : Nat, cnt' ≤ way + 1 → ∃ Z, (Option.bind (f_61 (232 + 1) V2) fun q8 => f_73_31 fuel 232 (Int32.ofNat cnt') q8.1 (Int32.ofNat way + 1) q8.2) = some (Int32.ofNat (cnt' + cntL (pW U t n) (match nextL n kk L with | none => [] | some L' => seqL n kk m L')), Z) ∧ Same U Z := by
      intro cnt' hc'
      rcases nx with ⟨n1, n2⟩ | ⟨L', V', n1, n2, n3, n4⟩
      · have n2 : f_61 (232 + 1) V2 = some (0, V2) := n2
        rw [n2, Option.bind_some, n1]
        obtain ⟨fuel, rfl⟩ : ∃ q, fuel = q + 1 := ⟨fuel - 1, by omega⟩
        dsimp only
        rw [f_73_31, if_pos rfl]
        exact ⟨V2, rfl, hS2.1⟩
      · have n2 : f_61 (232 + 1) V2 = some (1, V') := n2
        rw [n2, Option.bind_some, n1]
        dsimp only
        rw [ofNat_succ]
        exact ih (way + 1) cnt' fuel L' V' (by omega) (by omega) hc' (Ss_fr hS2 n4 (fun x j q => ⟨Pw_scr ha q, by unfold Pw at q; omega⟩)) n3
    rw [f_73_31, if_neg (by decide), if_neg e203', r1', Option.bind_some, y1', Option.bind_some]
    show ∃ Z, _ = some (Int32.ofNat (cnt + ((if pW U t n L then 1 else 0) + cntL (pW U t n) (match nextL n kk L with | none => [] | some L' => seqL n kk m L'))), Z) ∧ Same U Z
    unfold pW zok
    by_cases hz : zlie n (zub (gL L) n) (hDw U t n (gL L) 1 (U.1 (5 + 5 * t) 3).toInt) (gL L) = -1
    · rw [if_pos (by rw [i32_eq, em1, y2]; exact hz), ofNat_succ, decide_eq_true hz, if_pos rfl, ← Nat.add_assoc]
      exact rest (cnt + 1) (by omega)
    · rw [if_neg (by rw [i32_eq, em1, y2]; exact hz), Int32.add_zero, decide_eq_false hz, if_neg Bool.false_ne_true, Nat.zero_add]
      exact rest cnt (by omega)
