/-! talk: a point on both sides -/
def zPt (U V0 : sU) (s L p n : Nat) (S' V' : sU) : Prop := ∃ p', Jp U V0 s L S' V' p' ∧ Jt S' V' n ∧ p < p'
theorem V44 (V : sU) {n : Nat} (hv : V.1 280 31 = Int32.ofNat n) (hn : n < 12) : ∃ V1 : sU, V1 = sI (sI V 303 n (V.1 280 28)) 304 n 1 ∧ f_196_44 V = if V1.1 280 27 ≤ V1.1 280 26 then some (1, sI V1 280 31 (Int32.ofNat (n + 1))) else Option.bind (f_190 V1) fun q4 => if q4 = 42 then Option.bind (f_194 1 99 (sI V1 280 26 (V1.1 280 26 + 1))) (fun q6 => if q6.1 = 0 then some (0, q6.2) else if ib (q6.2.1 280 31) 12 then some (1, sI (sI q6.2 304 (q6.2.1 280 31).toNatClampNeg (q6.2.1 280 28)) 280 31 ((sI q6.2 304 (q6.2.1 280 31).toNatClampNeg (q6.2.1 280 28)).1 280 31 + 1)) else none) else some (1, sI V1 280 31 (Int32.ofNat (n + 1))) := by
  have i12 : ib (Int32.ofNat n) 12 := ib_ofNat (by omega) hn
  have cn : (Int32.ofNat n).toNatClampNeg = n := ofNat_clamp (by omega)
  have e1 : (sI V 303 n (V.1 280 28)).1 280 31 = Int32.ofNat n := by rw [sI_ne (by omega)]; exact hv
  have e2 : (sI (sI V 303 n (V.1 280 28)) 304 n 1).1 280 31 = Int32.ofNat n := by rw [sI_ne (by omega)]; exact e1
  refine ⟨_, rfl, ?_⟩
  unfold f_196_44
  simp only [hv, cn, if_pos i12, e1, e2, ofNat_succ]
theorem point {U V0 S V : sU} {s L p n : Nat} (hE : zEnv U V0 s L) (h : Jp U V0 s L S V p) (ht : Jt S V n) (hn : n < 12) : Out U V0 (f_21 215 210 S) (f_196 V) (zPt U V0 s L p (n + 1)) := by
  have ht0 := ht
  obtain ⟨t1, t2, t3, t4, t5, _⟩ := ht0
  have hL := hE.2.1
  have e0 : (0 : Int32).toInt = 0 := rfl
  have e1 : (1 : Int32).toInt = 1 := rfl
  have e99 : (99 : Int32).toInt = 99 := rfl
  have e999 : (999 : Int32).toInt = 999 := rfl
  -- the lower bound of the class
  obtain ⟨lo, hlo, hloI⟩ : ∃ lo : Int32, f_21 215 210 S = f_21_26 215 210 lo S ∧ ((n = 0 ∧ lo.toInt = 0) ∨ (0 < n ∧ lo.toInt = (S.1 212 (n - 1)).toInt + 1)) := by
    unfold f_21
    rw [t1]
    by_cases z : n = 0
    · subst z
      rw [if_pos (by decide : Int32.ofNat 0 = 0)]
      exact ⟨0, rfl, Or.inl ⟨rfl, rfl⟩⟩
    · rw [if_neg (by rw [i32_eq, ofNat_int (by omega), e0]; omega)]
      refine ⟨_, rfl, Or.inr ⟨by omega, ?_⟩⟩
      obtain ⟨_, _, a1, a2, _⟩ := t4 (n - 1) (by omega)
      have g : iget (210 + 1) (Int32.ofNat n - 1) S = S.1 212 (n - 1) := by
        have q : Int32.ofNat n - 1 = Int32.ofNat (n - 1) := by
          apply Int32.toInt_inj.mp
          rw [s32 (by rw [ofNat_int (by omega), e1]; omega) (by rw [ofNat_int (by omega), e1]; omega), ofNat_int (by omega), ofNat_int (by omega), e1]; omega
        unfold iget
        rw [q, if_pos (by rw [ln_212.1]; exact ib_ofNat (by omega) (by omega)), ofNat_clamp (by omega)]
      rw [g, a32 (by rw [e1]; omega) (by rw [e1]; omega), e1]
  obtain ⟨V1, hV1, k⟩ := num_out hE h
  rw [hlo]
  unfold f_21_26 f_196
  have g2 : V.1 280 26 = Int32.ofNat p := h.2.2.2.2.2.2.2.1
  have hpL : p ≤ L := h.2.2.2.2.2.2.2.2.2
  rcases k with ⟨k1, k2⟩ | ⟨S', V', p', m, k1, k2, k3, k4, k5, k6, k7, k8, k9⟩
  · rw [k1, k2, Option.bind_some, Option.bind_some, if_pos rfl, if_pos rfl]
    have e : V1.1 280 26 = Int32.ofNat p := by rw [hV1, sI_nj (by omega), sI_nj (by omega), g2]
    rw [e, hV1]
    exact Or.inl ⟨_, _, rfl, rfl, Jp_bad hE (Jp_num (Jp_st h _).1 0 0).1 (by omega)⟩
  have b := Jp_bad hE k3 (show p ≤ 64 by omega)
  have tt := Jt_kp ht k4
  obtain ⟨s1, s2, _, s4, s5, _⟩ := tt
  have e2 : S'.1 215 2 = Int32.ofNat p' := k3.2.2.2.1
  have hpL' : p' ≤ L := k3.2.2.2.2.2.2.2.2.2
  have mi : (Int32.ofNat m).toInt = m := ofNat_int (by omega)
  have s212 : ∀ j, S'.1 212 j = S.1 212 j := fun j => k4.2.1 _ _ (by omega)
  rw [k1, k2, Option.bind_some]
  -- within the bound or not
  by_cases low : (m : Int) < lo.toInt
  · have cz : f_28_80 215 lo 999 (Int32.ofNat p) S' = some (0, sI S' 215 3 (Int32.ofNat p)) := by
      unfold f_28_80 f_17
      rw [e2, if_neg (by rw [i32_eq, ofNat_int (by omega), ofNat_int (by omega)]; omega), k6, if_pos (by rw [i32_lt, mi]; exact low)]
    rw [cz, Option.bind_some, if_pos rfl, if_neg n10, s2]
    rcases hloI with ⟨z, q⟩ | ⟨z, q⟩
    · omega
    · have q1 : Int32.ofNat n - 1 = Int32.ofNat (n - 1) := by
        apply Int32.toInt_inj.mp
        rw [s32 (by rw [ofNat_int (by omega), e1]; omega) (by rw [ofNat_int (by omega), e1]; omega), ofNat_int (by omega), ofNat_int (by omega), e1]; omega
      rw [if_neg (by rw [i32_le, ofNat_int (by omega), e0]; omega), q1, if_pos (ib_ofNat (by omega) (by omega)), ofNat_clamp (by omega), (s4 (n - 1) (by omega)).1, s212, k7, if_neg (by rw [i32_lt, mi]; omega), k9]
      exact Or.inl ⟨_, _, rfl, rfl, b⟩
  have cz : f_28_80 215 lo 999 (Int32.ofNat p) S' = some (1, S') := by
    unfold f_28_80
    rw [e2, if_neg (by rw [i32_eq, ofNat_int (by omega), ofNat_int (by omega)]; omega), k6, if_neg (by rw [i32_lt, mi]; exact low), if_pos (by rw [i32_le, mi, e999]; omega)]
  have m44 : (if V'.1 280 31 ≤ 0 then f_196_44 V' else if ib (V'.1 280 31 - 1) 12 then if V'.1 303 (V'.1 280 31 - 1).toNatClampNeg < V'.1 280 28 then f_196_44 V' else some (0, sI V' 280 30 (V'.1 280 29)) else none) = f_196_44 V' := by
    rw [s2]
    rcases hloI with ⟨z, q⟩ | ⟨z, q⟩
    · rw [if_pos (by rw [i32_le, ofNat_int (by omega), e0]; omega)]
    · have q1 : Int32.ofNat n - 1 = Int32.ofNat (n - 1) := by
        apply Int32.toInt_inj.mp
        rw [s32 (by rw [ofNat_int (by omega), e1]; omega) (by rw [ofNat_int (by omega), e1]; omega), ofNat_int (by omega), ofNat_int (by omega), e1]; omega
      rw [if_neg (by rw [i32_le, ofNat_int (by omega), e0]; omega), q1, if_pos (ib_ofNat (by omega) (by omega)), ofNat_clamp (by omega), (s4 (n - 1) (by omega)).1, s212, k7, if_pos (by rw [i32_lt, mi]; omega)]
  have lasts : ∀ i, i + 1 = n → (S.1 212 i).toInt < m := by
    intro i hi
    rcases hloI with ⟨z, q⟩ | ⟨z, q⟩
    · omega
    · rw [show i = n - 1 by omega]; omega
  rw [cz, Option.bind_some, if_neg n10]
  dsimp only
  rw [if_neg n10, m44]
  obtain ⟨W, hW, w44⟩ := V44 V' s2 hn
  have wv : ∀ b j, b ≠ 303 → b ≠ 304 → W.1 b j = V'.1 b j := fun b j q r => by rw [hW, sI_ne r, sI_ne q]
  have J1 : Jp U V0 s L S' W p' := Jp_in k3 rfl (fun _ _ _ => rfl) (by rw [hW]; rfl) (fun b j _ q r => wv b j q r)
  have w3 : W.1 303 n = Int32.ofNat m := by rw [hW, sI_ne (by omega), sI_at, k7]
  have w4 : W.1 304 n = 1 := by rw [hW, sI_at]
  have wi : ∀ i, i < n → W.1 303 i = V.1 303 i ∧ W.1 304 i = V.1 304 i := fun i hi => by
    constructor
    · rw [hW, sI_ne (by omega), sI_nj (by omega)]; exact k4.2.2.2 _ _ (by omega)
    · rw [hW, sI_nj (by omega), sI_ne (by omega)]; exact k4.2.2.2 _ _ (by omega)
  have f42 := f16_eq hE J1 (x := 42) (by decide)
  rw [f42, w44]
  by_cases st : p' < L ∧ rW U s p' = 42
  · rw [if_pos st, if_neg n10, if_neg (fun q => (end_m hE J1).mp q st.1), letter_m hE J1, Option.bind_some, if_pos st.1, if_pos st.2]
    obtain ⟨j2, k2'⟩ := Jp_next hE J1 st.1
    refine Out.bind (bounded (lo := 1) (hi := 99) hE j2) ?_ (fun S => rfl) (fun V => rfl)
    rintro S2 V2 ⟨p2, j3, k3', lt, n2, a2, b2⟩
    rw [e1] at a2
    rw [e99] at b2
    have kk := k2'.tr k3'
    have v31 : V2.1 280 31 = Int32.ofNat n := by rw [kk.2.2.2 _ _ (by omega), wv _ _ (by omega) (by omega)]; exact s2
    have c31 : S2.1 210 2 = Int32.ofNat n := (kk.2.1 _ _ (by omega)).trans s1
    dsimp only
    rw [if_neg n10, if_neg n10, v31, if_pos (ib_ofNat (by omega) hn), ofNat_clamp (by omega), sI_ne (by omega), v31, ofNat_succ, k6, f101_eq c31 hn]
    refine Or.inr ⟨_, _, rfl, rfl, p2, Jp_pt (Jp_in j3 rfl (fun _ _ _ => rfl) rfl (fun b j _ _ r => sI_ne r)), ?_, by omega⟩
    refine pt_add ht ?_ ?_ ?_ ?_ ?_ ⟨by omega, by omega⟩ ⟨by rw [n2]; exact a2, by rw [n2]; exact b2⟩ (fun i hi => by rw [mi]; exact lasts i hi) hn
    · intro b j hb
      rw [kk.2.1 _ _ (by omega)]; exact k4.2.1 _ _ (by omega)
    · intro j hj
      rw [sI_ne (by omega), kk.2.2.2 _ _ (by omega), wv _ _ (by omega) (by omega)]; exact k4.2.2.2 _ _ (by omega)
    · intro i hi
      rw [sI_ne (by omega), sI_nj (by omega), kk.2.2.2 _ _ (by omega), kk.2.2.2 _ _ (by omega)]; exact wi i hi
    · rw [sI_ne (by omega), kk.2.2.2 _ _ (by omega)]; exact w3
    · rw [sI_at, n2]
  · have m : (if W.1 280 27 ≤ W.1 280 26 then some ((1 : Int32), sI W 280 31 (Int32.ofNat (n + 1))) else Option.bind (f_190 W) fun q4 => if q4 = 42 then Option.bind (f_194 1 99 (sI W 280 26 (W.1 280 26 + 1))) (fun q6 => if q6.1 = 0 then some (0, q6.2) else if ib (q6.2.1 280 31) 12 then some (1, sI (sI q6.2 304 (q6.2.1 280 31).toNatClampNeg (q6.2.1 280 28)) 280 31 ((sI q6.2 304 (q6.2.1 280 31).toNatClampNeg (q6.2.1 280 28)).1 280 31 + 1)) else none) else some (1, sI W 280 31 (Int32.ofNat (n + 1)))) = some (1, sI W 280 31 (Int32.ofNat (n + 1))) := by
      by_cases d : p' < L
      · rw [if_neg (fun q => (end_m hE J1).mp q d), letter_m hE J1, Option.bind_some, if_pos d, if_neg (fun q => st ⟨d, q⟩)]
      · rw [if_pos ((end_m hE J1).mpr d)]
    rw [if_neg st, if_pos rfl, m, k6, f101_eq s1 hn]
    refine Or.inr ⟨_, _, rfl, rfl, p', Jp_pt J1, ?_, k5⟩
    exact pt_add ht (fun b j hb => k4.2.1 _ _ (by omega)) (fun j hj => by rw [wv _ _ (by omega) (by omega)]; exact k4.2.2.2 _ _ (by omega)) wi w3 w4 ⟨by omega, by omega⟩ ⟨by decide, by decide⟩ (fun i hi => by rw [mi]; exact lasts i hi) hn
