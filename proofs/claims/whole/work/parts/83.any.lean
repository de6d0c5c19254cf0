/-! any: the reference's ways, and both -/
theorem goodL_Bw {n : Nat} {L : List Nat} (h : goodL n L = true) : Bw n (gL L) (zmx (gL L) n + 1) := by
  unfold goodL at h
  rw [Bool.and_eq_true, Bool.and_eq_true, decide_eq_true_iff, List.all_eq_true, List.all_eq_true] at h
  obtain ⟨⟨h1, h2⟩, h3⟩ := h
  refine ⟨by omega, by omega, fun i hi => ?_, fun w hw => ?_⟩
  · have := of_decide_eq_true (h2 i (List.mem_range.mpr hi))
    omega
  · obtain ⟨i, h4, h5⟩ := List.any_eq_true.mp (h3 w (List.mem_range.mpr hw))
    exact ⟨i, List.mem_range.mp h4, eq_of_beq h5⟩
theorem ways_m {U : sU} {t n kk : Nat} (hM : MT U t n) (hn6 : n ≤ 6) (hk : U.1 (5 + 5 * t) 5 = Int32.ofNat kk) (hk12 : kk ≤ 12) {x : Int32} (hx : x.toInt = t) : ∀ (m cnt fuel : Nat) (L : List Nat) (V : sU), (seqL n 100 m L).length < m → (∀ L' ∈ seqL n 100 m L, goodL n L' = true) → m < fuel → cnt + m < 1000 → Same U V → (∀ i, i < n → V.1 307 i = Int32.ofNat (gL L i)) → ∃ Z, f_249_62 fuel x (Int32.ofNat n) (Int32.ofNat cnt) 1 V = some (Int32.ofNat (cnt + cntL (fun L => decide (zmx (gL L) n + 1 ≤ kk) && pW U t n L) (seqL n 100 m L)), Z) ∧ Same U Z := by
  have t8 := hM.1
  have hT := hM.2.1
  have n1 := hT.2.1
  have n12 := hT.2.2.1
  have hw := hM.2.2.2.1.2
  have ex : x.toNatClampNeg = t := by rw [clamp_int]; omega
  have i8 : ib x 8 := ib_int.mpr (by omega)
  have e0 : (0 : Int32).toInt = 0 := rfl
  have e1 : (1 : Int32).toInt = 1 := rfl
  have em : ∀ k : Nat, k < 100 → Int32.ofNat (k + 1) + (-1) = Int32.ofNat k := by
    intro k hk
    apply Int32.toInt_inj.mp
    have em1 : ((-1) : Int32).toInt = -1 := rfl
    rw [a32 (by rw [em1, ofNat_int (by omega)]; omega) (by rw [em1, ofNat_int (by omega)]; omega), em1, ofNat_int (by omega), ofNat_int (by omega)]
    omega
  have es : ∀ k : Nat, k < 100 → Int32.ofNat (k + 1) - 1 = Int32.ofNat k := by
    intro k hk
    apply Int32.toInt_inj.mp
    rw [s32 (by rw [e1, ofNat_int (by omega)]; omega) (by rw [e1, ofNat_int (by omega)]; omega), e1, ofNat_int (by omega), ofNat_int (by omega)]
    omega
  intro m
  induction m with
  | zero => intro cnt fuel L V hl; omega
  | succ m ih =>
    intro cnt fuel L V hl hg hf hc hS hv
    obtain ⟨fuel, rfl⟩ : ∃ q, fuel = q + 1 := ⟨fuel - 1, by omega⟩
    have hgL : goodL n L = true := hg L (by unfold seqL; exact List.mem_cons_self)
    have hB := goodL_Bw hgL
    have hlen : (seqL n 100 (m + 1) L).length = 1 + List.length (match nextL n 100 L with | none => [] | some L' => seqL n 100 m L') := by
      show (L :: _).length = _
      rw [List.length_cons]
      exact Nat.add_comm _ _
    have hmem : ∀ L', L' ∈ (match nextL n 100 L with | none => [] | some L' => seqL n 100 m L') → goodL n L' = true := fun L' h' => hg L' (by show L' ∈ L :: _; exact List.mem_cons_of_mem _ h')
    have Wb : ∀ i, i < n → gL L i < 12 := fun i hi => by have := hB.2.2.1 i hi; have := hB.2.1; omega
    have mxb : ∀ k, k ≤ n → zmx (gL L) k < 12 := fun k hk => zmx_bd (fun i hi => Wb i (by omega)) (by omega)
    -- the ways after this one, from any store that keeps the words
    have go : ∀ (cnt' : Nat) (Y : sU), cnt' ≤ cnt + 1 → Same U Y → (∀ i, i < n → Y.1 307 i = Int32.ofNat (gL L i)) → (∀ i, i ≤ n → Y.1 310 i = Int32.ofNat (zmx (gL L) i)) → ∃ Z, f_249_185 (fun v1 v2 v3 v4 U => f_249_62 fuel v1 v2 v3 v4 U) FU x (Int32.ofNat n) (Int32.ofNat cnt') (Int32.ofNat n - 1) Y = some (Int32.ofNat (cnt' + cntL (fun L => decide (zmx (gL L) n + 1 ≤ kk) && pW U t n L) (match nextL n 100 L with | none => [] | some L' => seqL n 100 m L')), Z) ∧ Same U Z := by
      intro cnt' Y hc' hSY hY hX
      obtain ⟨fuel, rfl⟩ : ∃ q, fuel = q + 1 := ⟨fuel - 1, by omega⟩
      have none_ : nextL n 100 L = none → f_249_213 (fun v1 v2 v3 v4 U => f_249_62 (fuel + 1) v1 v2 v3 v4 U) x (Int32.ofNat n) (Int32.ofNat cnt') (Int32.ofNat 0) Y = some (Int32.ofNat (cnt' + cntL (fun L => decide (zmx (gL L) n + 1 ≤ kk) && pW U t n L) (match nextL n 100 L with | none => [] | some L' => seqL n 100 m L')), Y) := by
        intro h
        rw [h]
        unfold f_249_213 f_249_223
        rw [if_pos (by decide), if_pos rfl]
        show f_249_62 (fuel + 1) x (Int32.ofNat n) (Int32.ofNat cnt') 0 Y = _
        rw [f_249_62, if_pos rfl]
        rfl
      have scan : ∀ (d f : Nat), d < n → d < f → zlt (zgo 100 (gL L)) (d + 1) = zlt (zgo 100 (gL L)) n → ∃ Z, f_249_185 (fun v1 v2 v3 v4 U => f_249_62 (fuel + 1) v1 v2 v3 v4 U) f x (Int32.ofNat n) (Int32.ofNat cnt') (Int32.ofNat d) Y = some (Int32.ofNat (cnt' + cntL (fun L => decide (zmx (gL L) n + 1 ≤ kk) && pW U t n L) (match nextL n 100 L with | none => [] | some L' => seqL n 100 m L')), Z) ∧ Same U Z := by
        intro d
        induction d with
        | zero =>
          intro f hd hfd hz
          obtain ⟨f, rfl⟩ : ∃ q, f = q + 1 := ⟨f - 1, by omega⟩
          have nn : nextL n 100 L = none := by
            have z0 : zlt (zgo 100 (gL L)) 1 = none := by
              unfold zlt
              have : zgo 100 (gL L) 0 = false := by unfold zgo; rw [decide_eq_false (by omega : ¬ 0 < 0)]; rfl
              rw [this, if_neg Bool.false_ne_true]
              rfl
            unfold nextL
            rw [← hz, z0]
          rw [f_249_185, if_pos (by rw [i32_le, ofNat_int (by omega), e0]; omega)]
          exact ⟨Y, none_ nn, hSY⟩
        | succ d ihd =>
          intro f hd hfd hz
          obtain ⟨f, rfl⟩ : ∃ q, f = q + 1 := ⟨f - 1, by omega⟩
          have b1 := Wb (d + 1) hd
          have b2 := mxb (d + 1) (by omega)
          rw [f_249_185, if_neg (by rw [i32_le, ofNat_int (by omega), e0]; omega), if_pos (ib_ofNat (by omega) (by omega)), if_pos (ib_ofNat (by omega) (by omega)), ofNat_clamp (by omega), hY _ hd, hX _ (by omega)]
          by_cases c1 : gL L (d + 1) ≤ zmx (gL L) (d + 1)
          · have hgo : zgo 100 (gL L) (d + 1) = true := by
              unfold zgo
              rw [decide_eq_true (by omega : 0 < d + 1), decide_eq_true c1, decide_eq_true (by omega : gL L (d + 1) + 1 < 100)]
              rfl
            have nn : nextL n 100 L = some (upL n (d + 1) L) := by
              have z1 : zlt (zgo 100 (gL L)) (d + 1 + 1) = some (d + 1) := by
                show (if zgo 100 (gL L) (d + 1) then some (d + 1) else _) = _
                rw [hgo, if_pos rfl]
              unfold nextL
              rw [← hz, z1]
            rw [if_pos (by rw [i32_le, ofNat_int (by omega), ofNat_int (by omega)]; omega)]
            unfold f_249_213 f_249_223
            rw [if_neg (by rw [i32_le, ofNat_int (by omega), e0]; omega), if_neg (by decide), if_pos (ib_ofNat (by omega) (by omega)), if_pos (ib_ofNat (by omega) (by omega)), ofNat_clamp (by omega), hY _ hd, ofNat_succ, ofNat_succ]
            rw [nn] at hlen hmem ⊢
            dsimp only at hlen hmem ⊢
            refine loop_ex (fun m' (s : Int32 × sU) => f_249_247 (fun v1 v2 v3 v4 U => f_249_62 (fuel + 1) v1 v2 v3 v4 U) m' x (Int32.ofNat n) (Int32.ofNat cnt') 1 s.1 s.2) (fun q s => s.1 = Int32.ofNat (d + 1 + 1 + q) ∧ Same U s.2 ∧ ∀ i, i < n → i < d + 1 + 1 + q → s.2.1 307 i = Int32.ofNat (gL (upL n (d + 1) L) i)) (fun o => ∃ Z, o = some (Int32.ofNat (cnt' + cntL (fun L => decide (zmx (gL L) n + 1 ≤ kk) && pW U t n L) (seqL n 100 m (upL n (d + 1) L))), Z) ∧ Same U Z) (n - (d + 1 + 1)) ?_ ?_ (n - (d + 1 + 1)) 0 FU (Int32.ofNat (d + 1 + 1), sI Y 307 (d + 1) (Int32.ofNat (gL L (d + 1) + 1))) (by omega) (by unfold FU; omega) ⟨rfl, hSY.sI _ (by unfold scr; omega), fun i hi hid => ?_⟩
            · rintro q ⟨c, Z⟩ m' hq ⟨rfl, hSZ, hz'⟩
              dsimp only at hSZ hz' ⊢
              refine Or.inr ?_
              rw [f_249_247, if_neg (fun q => by have := (ofNat_le (by omega) (by omega)).mp q; omega), if_pos (ib_ofNat (by omega) (by omega)), ofNat_clamp (by omega), ofNat_succ]
              refine ⟨(Int32.ofNat (d + 1 + 1 + q + 1), sI Z 307 (d + 1 + 1 + q) 0), ⟨rfl, hSZ.sI _ (by unfold scr; omega), fun i hi hid => ?_⟩, rfl⟩
              dsimp only
              by_cases e : i = d + 1 + 1 + q
              · subst e
                rw [sI_at, gL_up hi, if_neg (by omega), if_neg (by omega)]
                rfl
              · rw [sI_nj e]
                exact hz' i hi (by omega)
            · rintro ⟨c, Z⟩ m' ⟨rfl, hSZ, hz'⟩
              dsimp only at hSZ hz' ⊢
              rw [f_249_247, if_pos ((ofNat_le (by omega) (by omega)).mpr (by omega))]
              exact ih cnt' (fuel + 1) (upL n (d + 1) L) Z (by omega) hmem (by omega) (by omega) hSZ (fun i hi => hz' i hi (by omega))
            · dsimp only
              rw [gL_up hi]
              by_cases e : i = d + 1
              · subst e
                rw [sI_at, if_neg (by omega), if_pos rfl]
              · rw [sI_nj e, if_pos (by omega)]
                exact hY i hi
          · have hgo : zgo 100 (gL L) (d + 1) = false := by
              unfold zgo
              rw [decide_eq_false c1, Bool.and_false]
              rfl
            have ez : zlt (zgo 100 (gL L)) (d + 1 + 1) = zlt (zgo 100 (gL L)) (d + 1) := by
              show (if zgo 100 (gL L) (d + 1) then _ else _) = _
              rw [hgo, if_neg Bool.false_ne_true]
            rw [if_neg (by rw [i32_le, ofNat_int (by omega), ofNat_int (by omega)]; omega), em d (by omega)]
            exact ihd f (by omega) (by omega) (by rw [← ez]; exact hz)
      have h := scan (n - 1) FU (by omega) (by unfold FU; omega) (by rw [show n - 1 + 1 = n by omega])
      have en : Int32.ofNat n - 1 = Int32.ofNat (n - 1) := by
        have := es (n - 1) (by omega)
        rwa [show n - 1 + 1 = n by omega] at this
      rw [en]
      exact h
    -- most[], then the ways
    show ∃ Z, _ = some (Int32.ofNat (cnt + ((if (decide (zmx (gL L) n + 1 ≤ kk) && pW U t n L) then 1 else 0) + cntL (fun L => decide (zmx (gL L) n + 1 ≤ kk) && pW U t n L) (match nextL n 100 L with | none => [] | some L' => seqL n 100 m L'))), Z) ∧ Same U Z
    have c0 : (0 : Int32).toNatClampNeg = 0 := rfl
    rw [f_249_62, if_neg (by decide), c0]
    refine loop_ex (fun m' (s : Int32 × sU) => f_249_77 (fun v1 v2 v3 v4 U => f_249_62 fuel v1 v2 v3 v4 U) m' x (Int32.ofNat n) (Int32.ofNat cnt) s.1 s.2) (fun k s => s.1 = Int32.ofNat k ∧ Same U s.2 ∧ (∀ i, i < n → s.2.1 307 i = Int32.ofNat (gL L i)) ∧ ∀ i, i ≤ k → s.2.1 310 i = Int32.ofNat (zmx (gL L) i)) (fun o => ∃ Z, o = some (Int32.ofNat (cnt + ((if (decide (zmx (gL L) n + 1 ≤ kk) && pW U t n L) then 1 else 0) + cntL (fun L => decide (zmx (gL L) n + 1 ≤ kk) && pW U t n L) (match nextL n 100 L with | none => [] | some L' => seqL n 100 m L'))), Z) ∧ Same U Z) n ?_ ?_ n 0 FU (0, sI V 310 0 0) (by omega) (by unfold FU; omega) ⟨rfl, hS.sI _ (by unfold scr; omega), fun i hi => by dsimp only; rw [sI_ne (by omega)]; exact hv i hi, fun i hi => ?_⟩
    · rintro k ⟨c, Z⟩ m' hk' ⟨rfl, hSZ, hz, hx10⟩
      dsimp only at hSZ hz hx10 ⊢
      refine Or.inr ?_
      have b1 := Wb k hk'
      have b2 := mxb k (by omega)
      have i12 : ib (Int32.ofNat k) 12 := ib_ofNat (by omega) (by omega)
      have i7 : ib (Int32.ofNat k) 7 := ib_ofNat (by omega) (by omega)
      have i7' : ib (Int32.ofNat (k + 1)) 7 := ib_ofNat (by omega) (by omega)
      rw [f_249_77, if_neg (fun q => by have := (ofNat_le (by omega) (by omega)).mp q; omega)]
      simp only [if_pos i12, if_pos i7, ofNat_succ, if_pos i7', ofNat_clamp (show k < 2147483648 by omega), ofNat_clamp (show k + 1 < 2147483648 by omega), hz k hk', hx10 k (Nat.le_refl _)]
      have nx : ∀ v : Nat, v = zmx (gL L) (k + 1) → ∃ s' : Int32 × sU, (s'.1 = Int32.ofNat (k + 1) ∧ Same U s'.2 ∧ (∀ i, i < n → s'.2.1 307 i = Int32.ofNat (gL L i)) ∧ ∀ i, i ≤ k + 1 → s'.2.1 310 i = Int32.ofNat (zmx (gL L) i)) ∧ f_249_77 (fun v1 v2 v3 v4 U => f_249_62 fuel v1 v2 v3 v4 U) m' x (Int32.ofNat n) (Int32.ofNat cnt) (Int32.ofNat (k + 1)) (sI Z 310 (k + 1) (Int32.ofNat v)) = f_249_77 (fun v1 v2 v3 v4 U => f_249_62 fuel v1 v2 v3 v4 U) m' x (Int32.ofNat n) (Int32.ofNat cnt) s'.1 s'.2 := by
        intro v hv'
        refine ⟨(Int32.ofNat (k + 1), sI Z 310 (k + 1) (Int32.ofNat v)), ⟨rfl, hSZ.sI _ (by unfold scr; omega), fun i hi => by dsimp only; rw [sI_ne (by omega)]; exact hz i hi, fun i hi => ?_⟩, rfl⟩
        dsimp only
        by_cases e : i = k + 1
        · subst e; rw [sI_at, hv']
        · rw [sI_nj e]; exact hx10 i (by omega)
      by_cases c1 : gL L k ≤ zmx (gL L) k
      · rw [if_pos (by rw [i32_le, ofNat_int (by omega), ofNat_int (by omega)]; omega)]
        exact nx _ (by rw [zmx_s, if_neg (by omega)])
      · rw [if_neg (by rw [i32_le, ofNat_int (by omega), ofNat_int (by omega)]; omega)]
        exact nx _ (by rw [zmx_s, if_pos (by omega)])
    · rintro ⟨c, Z⟩ m' ⟨rfl, hSZ, hz, hx10⟩
      dsimp only at hSZ hz hx10 ⊢
      have bz := mxb n (Nat.le_refl _)
      have s1 : Same U (sI Z 280 48 (Int32.ofNat (zmx (gL L) n + 1))) := hSZ.sI _ (by unfold scr; omega)
      have hM1 := MT_same hM s1
      have z291 : (sI Z 280 48 (Int32.ofNat (zmx (gL L) n + 1))).1 291 t = Int32.ofNat kk := by rw [hM1.2.2.2.2.2.1, s1.lo (by omega)]; exact hk
      have k307 : ∀ i, i < n → (sI Z 280 48 (Int32.ofNat (zmx (gL L) n + 1))).1 307 i = Int32.ofNat (gL L i) := fun i hi => by rw [sI_ne (by omega)]; exact hz i hi
      have k310 : ∀ i, i ≤ n → (sI Z 280 48 (Int32.ofNat (zmx (gL L) n + 1))).1 310 i = Int32.ofNat (zmx (gL L) i) := fun i hi => by rw [sI_ne (by omega)]; exact hx10 i hi
      rw [f_249_77, if_pos ((ofNat_le (by omega) (by omega)).mpr (Nat.le_refl _))]
      simp only [if_pos (ib_ofNat (n := 7) (by omega) (show n < 7 by omega)), ofNat_clamp (show n < 2147483648 by omega), hx10 n (Nat.le_refl _), ofNat_succ, if_pos i8, ex, z291, sI_at]
      by_cases c1 : zmx (gL L) n + 1 ≤ kk
      · rw [if_neg (by rw [i32_lt, ofNat_int (by omega), ofNat_int (by omega)]; omega)]
        obtain ⟨Y, y1, y2, y3, y4, y5⟩ := hears_m3 hM1 hx (⟨k307, sI_at⟩ : Bk (sI Z 280 48 (Int32.ofNat (zmx (gL L) n + 1))) n (gL L) (zmx (gL L) n + 1)) hB
        have sY := s1.tr y2
        have hMY := MT_same hM sY
        have y289 : Y.1 289 t = U.1 (5 + 5 * t) 3 := by rw [hMY.2.2.2.1.1, sY.lo (by omega)]
        have hd : Hd U Y t n (gL L) (zmx (gL L) n + 1) := by
          refine ⟨fun w hw => ?_, fun h7 w hw => ?_⟩
          · rw [y4.1 w hw, hH_same s1 (by omega), s1.lo (by omega : 5 + 5 * t < 210)]
          · rw [y4.2 (by rw [s1.lo (by omega : 5 + 5 * t < 210)]; exact h7) w hw, hH_same s1 (by omega), s1.lo (by omega : 5 + 5 * t < 210)]
        have st := stands_m hM sY y3 hd hB hx (s := U.1 (5 + 5 * t) 3) (who := 1) (by omega) (Or.inl rfl)
        rw [y1, Option.bind_some, y289, st, Option.bind_some, decide_eq_true c1, Bool.true_and]
        have y307 : ∀ i, i < n → Y.1 307 i = Int32.ofNat (gL L i) := y3.1
        have y310 : ∀ i, i ≤ n → Y.1 310 i = Int32.ofNat (zmx (gL L) i) := fun i hi => (y5 i).trans (k310 i hi)
        unfold pW
        cases hst : zok n (hDw U t n (gL L) 1 (U.1 (5 + 5 * t) 3).toInt) (gL L) with
        | true =>
          rw [if_neg (by decide), if_pos rfl, ← Nat.add_assoc]
          exact go (cnt + 1) Y (Nat.le_refl _) sY y307 y310
        | false =>
          rw [if_pos (by rfl), if_neg Bool.false_ne_true, Nat.zero_add]
          exact go cnt Y (by omega) sY y307 y310
      · rw [if_pos (by rw [i32_lt, ofNat_int (by omega), ofNat_int (by omega)]; omega), decide_eq_false c1, Bool.false_and, if_neg Bool.false_ne_true, Nat.zero_add]
        exact go cnt _ (by omega) s1 k307 k310
    · dsimp only
      have : i = 0 := by omega
      subst this
      rw [sI_at]
      rfl
theorem cntL_filter {p q : List Nat → Bool} : ∀ r, cntL (fun L => q L && p L) r = cntL p (r.filter q) := by
  intro r
  induction r with
  | nil => rfl
  | cons L r ih =>
    show (if (q L && p L) then 1 else 0) + cntL (fun L => q L && p L) r = _
    rw [ih, List.filter_cons]
    cases hq : q L with
    | true => rw [if_pos rfl, Bool.true_and]; rfl
    | false => rw [if_neg Bool.false_ne_true, Bool.false_and, if_neg Bool.false_ne_true, Nat.zero_add]
theorem st_any {U : sU} (h : Inv U) (x : Int32) : Two (f_141 x U) (f_249 x) := by
  have h0 := h
  have e6 : (6 : Int32).toInt = 6 := rfl
  obtain ⟨nT, nM, h⟩ := h
  have n8 := h.1.1.2.2.1
  by_cases hx : 0 ≤ x.toInt ∧ x.toInt < nT
  case neg => exact ref_to h0 (w := 1) (by decide) (by unfold f_141; rw [tat_no h hx]) (by unfold f_249; rw [if_pos (f178_no (ref_n0 (by decide) h) n8 hx)])
  obtain ⟨e1, e2, e3, e4, _⟩ := tat_yes h hx
  obtain ⟨n, hM⟩ := MT_of h e2
  have t8 := hM.1
  have hT := hM.2.1
  have n1 := hT.2.1
  have n12 := hT.2.2.1
  have hl := hM.2.2.2.2.1.2
  have hw := hM.2.2.2.1.2
  have i8 : ib x 8 := ib_int.mpr (by omega)
  by_cases c6 : n ≤ 6
  case neg =>
    refine ref_to h0 (w := 6) (by decide) ?_ ?_
    · unfold f_141
      rw [e1]
      dsimp only
      rw [hT.1, if_neg (by rw [i32_le, ofNat_int (by omega), e6]; omega)]
    · unfold f_249
      rw [if_neg (f178_yes (ref_n0 (by decide) h) n8 hx), if_pos i8, f157_1 (by decide) (by decide), hM.2.2.1, if_neg (by rw [i32_le, ofNat_int (by omega), e6]; omega)]
  have hwd := hT.2.2.2.2.2.2.1
  generalize hkk : (U.1 (5 + 5 * x.toNatClampNeg) 5).toNatClampNeg = kk
  have ek : U.1 (5 + 5 * x.toNatClampNeg) 5 = Int32.ofNat kk := by rw [← hkk]; exact i32_nat (by omega)
  have kb : 1 ≤ kk ∧ kk ≤ 12 := by rw [← hkk, clamp_int]; omega
  have sq : seq_ok n = true := (seq_all n (by omega)).resolve_left (by omega)
  unfold seq_ok at sq
  rw [Bool.and_eq_true, Bool.and_eq_true, decide_eq_true_iff, List.all_eq_true, List.all_eq_true] at sq
  obtain ⟨⟨q1, q2⟩, q3⟩ := sq
  have q4 := q3 kk (List.mem_range.mpr (by omega))
  have q5 : seqL n kk 203 (zerL n) = (seqL n 100 204 (zerL n)).filter fun L => decide (zmx (gL L) n + 1 ≤ kk) := by
    rw [Bool.or_eq_true] at q4
    rcases q4 with q | q
    · have := eq_of_beq q; omega
    · exact eq_of_beq q
  have cl := cntL_le (p := pW U x.toNatClampNeg n) (seqL n kk 203 (zerL n))
  have ll := seqL_len (n := n) (K := kk) 203 (zerL n)
  refine two_i h0 (v := (cntL (pW U x.toNatClampNeg n) (seqL n kk 203 (zerL n)) : Nat)) ?_ ?_
  · have ha : rdA 233 := Or.inr (Or.inl rfl)
    have s0 := Ss_take (U := U) (V := U) (a := 233) (T := 5 + 5 * x.toNatClampNeg) (n := n) (l := U.1 (5 + 5 * x.toNatClampNeg) 4) (w := U.1 (5 + 5 * x.toNatClampNeg) 3) (Same.rf U) ha hT hl (by omega)
    obtain ⟨V1, p1, p2, p3⟩ := parts_ok ha s0.2.2.1 (Tk_same hT (fun x j hx => s0.1.lo hx)) (by omega : 0 < 2048)
    have s1 := Ss_fr s0 p2 (fun x j q => ⟨Pw_scr ha q, by unfold Pw at q; omega⟩)
    have z : ∀ t, zW 0 t = 0 := by
      intro t
      induction t with
      | zero => rfl
      | succ t ih =>
        show zW 0 t + (if Nat.testBit 0 t then 1 else 0) = 0
        rw [ih, Nat.zero_testBit]
        rfl
    have p4 : Wd V1 233 n (gL (zerL n)) n := by
      obtain ⟨w1, w2, w3, w4⟩ := p3
      have ez : ∀ i, i < n → zW 0 i = gL (zerL n) i := fun i hi => by rw [z, gL_zer hi]
      have eu : zub (zW 0) n = zub (gL (zerL n)) n := zub_congr ez
      exact ⟨fun i hi => by rw [gL_zer hi]; omega, fun i hi => by rw [w2 i hi, ez i hi], by rw [w3, eu], by rw [w4, eu]⟩
    obtain ⟨Z, r1, r2⟩ := ways_c hM ek kb.2 203 0 0 FU (zerL n) V1 (by omega) (by unfold FU; omega) (by omega) s1 p4
    have p1 : f_39 (232 + 1) 0 (f_35 (232 + 1) (5 + 5 * x.toNatClampNeg) (U.1 (5 + 5 * x.toNatClampNeg) 4) (U.1 (5 + 5 * x.toNatClampNeg) 3) U) = some V1 := p1
    have r1 : f_73_31 FU 232 0 1 0 V1 = some (Int32.ofNat (0 + cntL (pW U x.toNatClampNeg n) (seqL n kk 203 (zerL n))), Z) := r1
    unfold f_141
    rw [e1]
    dsimp only
    rw [hT.1, if_pos (by rw [i32_le, ofNat_int (by omega), e6]; omega)]
    unfold f_73
    rw [p1, Option.bind_some, r1, Option.bind_some, Nat.zero_add]
    exact ⟨_, Z, rfl, r2, ofNat_int (by omega)⟩
  · intro Y hY
    have hMY := MT_same hM hY
    have ekY : Y.1 (5 + 5 * x.toNatClampNeg) 5 = Int32.ofNat kk := by rw [hY.lo (by omega)]; exact ek
    have epY : pW Y x.toNatClampNeg n = pW U x.toNatClampNeg n := by
      funext L
      unfold pW
      rw [hDw_same hY t8, hY.lo (by omega : 5 + 5 * x.toNatClampNeg < 210)]
    have z39 : ∃ Z, f_249_39 FU x (Int32.ofNat n) 0 0 Y = some (Int32.ofNat (0 + cntL (fun L => decide (zmx (gL L) n + 1 ≤ kk) && pW Y x.toNatClampNeg n L) (seqL n 100 204 (zerL n))), Z) ∧ Same Y Z := by
      refine loop_ex (fun m (s : Int32 × sU) => f_249_39 m x (Int32.ofNat n) 0 s.1 s.2) (fun k s => s.1 = Int32.ofNat k ∧ Same Y s.2 ∧ ∀ i, i < k → s.2.1 307 i = Int32.ofNat (gL (zerL n) i)) (fun o => ∃ Z, o = some (Int32.ofNat (0 + cntL (fun L => decide (zmx (gL L) n + 1 ≤ kk) && pW Y x.toNatClampNeg n L) (seqL n 100 204 (zerL n))), Z) ∧ Same Y Z) n ?_ ?_ n 0 FU (0, Y) (by omega) (by unfold FU; omega) ⟨rfl, Same.rf Y, fun i hi => by omega⟩
      · rintro k ⟨c, Z⟩ m hk ⟨rfl, hSZ, hz⟩
        dsimp only at hSZ hz ⊢
        refine Or.inr ?_
        rw [f_249_39, if_neg (fun q => by have := (ofNat_le (by omega) (by omega)).mp q; omega), if_pos (ib_ofNat (by omega) (by omega)), ofNat_clamp (by omega), ofNat_succ]
        refine ⟨(Int32.ofNat (k + 1), sI Z 307 k 0), ⟨rfl, hSZ.sI _ (by unfold scr; omega), fun i hi => ?_⟩, rfl⟩
        dsimp only
        by_cases e : i = k
        · subst e; rw [sI_at, gL_zer hk]; rfl
        · rw [sI_nj e]; exact hz i (by omega)
      · rintro ⟨c, Z⟩ m ⟨rfl, hSZ, hz⟩
        dsimp only at hSZ hz ⊢
        rw [f_249_39, if_pos ((ofNat_le (by omega) (by omega)).mpr (Nat.le_refl _))]
        have hMZ := MT_same hMY hSZ
        obtain ⟨X, x1, x2⟩ := ways_m hMZ c6 (by rw [hSZ.lo (by omega)]; exact ekY) kb.2 e4 204 0 FU (zerL n) Z q1 q2 (by unfold FU; omega) (by omega) (Same.rf Z) (fun i hi => hz i hi)
        have ep : pW Z x.toNatClampNeg n = pW Y x.toNatClampNeg n := by
          funext L
          unfold pW
          rw [hDw_same hSZ t8, hSZ.lo (by omega : 5 + 5 * x.toNatClampNeg < 210)]
        rw [ep] at x1
        exact ⟨X, x1, hSZ.tr x2⟩
    obtain ⟨Z, z1, z2⟩ := z39
    rw [cntL_filter (p := pW Y x.toNatClampNeg n) (q := fun L => decide (zmx (gL L) n + 1 ≤ kk)), ← q5, epY, Nat.zero_add] at z1
    unfold f_249
    rw [if_neg (f178_yes (InvN_same hY h).1.2.1 n8 hx), if_pos i8, hMY.2.2.1, if_pos (by rw [i32_le, ofNat_int (by omega), e6]; omega), z1]
    exact ⟨_, Z, rfl, z2, ofNat_int (by omega)⟩
