/-! talk: bounded and signed numbers, words of letters -/
theorem n10 : ¬ (1 : Int32) = 0 := by decide
def Nm (U V0 : sU) (s L p : Nat) (lo hi : Int) (S V S' V' : sU) : Prop := ∃ (p' : Nat), Jp U V0 s L S' V' p' ∧ Kp S V S' V' ∧ p < p' ∧ S'.1 215 4 = V'.1 280 28 ∧ lo ≤ (V'.1 280 28).toInt ∧ (V'.1 280 28).toInt ≤ hi
theorem num_out {U V0 S V : sU} {s L p : Nat} (hE : zEnv U V0 s L) (h : Jp U V0 s L S V p) : ∃ V1, V1 = sI (sI V 280 29 (V.1 280 26)) 280 28 0 ∧ ((f_193 V = some (0, sI V1 280 30 (V1.1 280 26)) ∧ ∀ lo hi, f_28 215 lo hi S = some (0, sI (sI S 215 4 0) 215 3 (Int32.ofNat p))) ∨ ∃ (S' V' : sU) (p' m : Nat), f_193 V = some (1, V') ∧ (∀ lo hi, f_28 215 lo hi S = f_28_80 215 lo hi (Int32.ofNat p) S') ∧ Jp U V0 s L S' V' p' ∧ Kp S V S' V' ∧ p < p' ∧ S'.1 215 4 = Int32.ofNat m ∧ V'.1 280 28 = Int32.ofNat m ∧ m < 1000 ∧ V'.1 280 29 = Int32.ofNat p) := by
  have e2 : S.1 215 2 = Int32.ofNat p := h.2.2.2.1
  have g2 : V.1 280 26 = Int32.ofNat p := h.2.2.2.2.2.2.2.1
  refine ⟨_, rfl, ?_⟩
  obtain ⟨j1, k1⟩ := Jp_st h (V.1 280 26)
  obtain ⟨j2, k2⟩ := Jp_num j1 0 0
  by_cases d : zdg U s L p
  · refine Or.inr ?_
    haveI : Decidable (zdg U s L p) := Decidable.isTrue d
    have dm := dig_m hE j2
    rw [if_pos d] at dm
    obtain ⟨S', V', p', m', g1, g2', g3, g4, g5, g6, g7, g8, g9, g10⟩ := digs hE 3 0 _ _ p 0 FU FU (by omega) (by unfold FU; omega) (by unfold FU; omega) j2 (by rw [sI_at]; rfl) (by rw [sI_at]; rfl) (by omega)
    refine ⟨S', V', p', m', ?_, fun lo hi => ?_, g3, (k1.tr k2).tr g4, g9 d (by omega), g5, g6, g7, ?_⟩
    · unfold f_193
      rw [dm, Option.bind_some, if_neg (by decide)]
      exact g2'
    · unfold f_28
      rw [e2]
      exact g1 lo hi _
    · rw [g10, sI_nj (by omega), sI_at, g2]
  · refine Or.inl ?_
    haveI : Decidable (zdg U s L p) := Decidable.isFalse d
    have dm := dig_m hE j2
    rw [if_neg d] at dm
    have dc := dig_c hE j2
    refine ⟨?_, fun lo hi => ?_⟩
    · unfold f_193
      rw [dm, Option.bind_some, if_pos rfl]
    · have z80 : f_28_80 215 lo hi (Int32.ofNat p) (sI S 215 4 0) = some (0, sI (sI S 215 4 0) 215 3 (Int32.ofNat p)) := by
        unfold f_28_80
        rw [sI_nj (by omega), e2, if_pos rfl]
        rfl
      obtain ⟨q, hq⟩ : ∃ q, FU = q + 1 := ⟨4999, by unfold FU; omega⟩
      unfold f_28
      rw [hq, f_28_13, if_neg (by decide), e2]
      by_cases d1 : iget 216 ((sI S 215 4 0).1 215 2) (sI S 215 4 0) - 48 < 0
      · rw [if_pos d1]; exact z80
      · rw [if_neg d1, if_neg (fun q => d (dc.mpr ⟨d1, q⟩))]; exact z80
theorem bounded {U V0 S V : sU} {s L p : Nat} {lo hi : Int32} (hE : zEnv U V0 s L) (h : Jp U V0 s L S V p) : Out U V0 (f_28 215 lo hi S) (f_194 lo hi V) (Nm U V0 s L p lo.toInt hi.toInt S V) := by
  have hL := hE.2.1
  have hpL : p ≤ L := h.2.2.2.2.2.2.2.2.2
  have g2 : V.1 280 26 = Int32.ofNat p := h.2.2.2.2.2.2.2.1
  obtain ⟨V1, hV1, k⟩ := num_out hE h
  unfold f_194
  rcases k with ⟨k1, k2⟩ | ⟨S', V', p', m, k1, k2, k3, k4, k5, k6, k7, k8, k9⟩
  · rw [k1, k2, Option.bind_some, if_pos rfl]
    have e : V1.1 280 26 = Int32.ofNat p := by rw [hV1, sI_nj (by omega), sI_nj (by omega), g2]
    rw [e, hV1]
    exact Or.inl ⟨_, _, rfl, rfl, Jp_bad hE (Jp_num (Jp_st h _).1 0 0).1 (by omega)⟩
  · have e2 : S'.1 215 2 = Int32.ofNat p' := k3.2.2.2.1
    have hpL' : p' ≤ L := k3.2.2.2.2.2.2.2.2.2
    have b := Jp_bad hE k3 (show p ≤ 64 by omega)
    rw [k1, k2, Option.bind_some, if_neg n10]
    dsimp only
    unfold f_28_80 f_17
    rw [e2, if_neg (by rw [i32_eq, ofNat_int (by omega), ofNat_int (by omega)]; omega), k6, k7, k9]
    by_cases c1 : Int32.ofNat m < lo
    · rw [if_pos c1, if_pos c1]
      exact Or.inl ⟨_, _, rfl, rfl, b⟩
    rw [if_neg c1, if_neg c1]
    by_cases c2 : Int32.ofNat m ≤ hi
    · rw [if_pos c2, if_pos c2]
      rw [i32_lt] at c1
      rw [i32_le] at c2
      refine Or.inr ⟨_, _, rfl, rfl, p', k3, k4, k5, k6.trans k7.symm, ?_, ?_⟩
      · rw [k7]; omega
      · rw [k7]; omega
    · rw [if_neg c2, if_neg c2]
      exact Or.inl ⟨_, _, rfl, rfl, b⟩
theorem neg_int {x : Int32} (h : 0 ≤ x.toInt ∧ x.toInt ≤ 500) : (-x).toInt = -x.toInt := n32 (by omega)
theorem signed {U V0 S V : sU} {s L p : Nat} (hE : zEnv U V0 s L) (h : Jp U V0 s L S V p) : Out U V0 (f_27 215 S) (f_195 V) (Nm U V0 s L p (-500) 500 S V) := by
  have e45 := f16_eq hE h (x := 45) (by decide)
  have e0 : (0 : Int32).toInt = 0 := rfl
  have e500 : (500 : Int32).toInt = 500 := rfl
  -- the number behind the sign
  have rest : ∀ (S' V' : sU) (p' : Nat) (v : Int32), (v = 0 ∨ v = 1) → Jp U V0 s L S' V' p' → Kp S V S' V' → p ≤ p' → Out U V0 (f_27_21 215 v S') (f_195_40 v V') (Nm U V0 s L p (-500) 500 S V) := by
    intro S' V' p' v hv j k hp
    have b := bounded (lo := 0) (hi := 500) hE j
    unfold f_27_21 f_195_40
    refine Out.bind b ?_ (fun S => rfl) (fun V => rfl)
    rintro S2 V2 ⟨p2, j2, k2, l2, n2, a2, b2⟩
    rw [e0] at a2
    rw [e500] at b2
    dsimp only
    rw [if_neg n10, if_neg n10]
    rcases hv with rfl | rfl
    · rw [if_pos rfl, if_pos rfl]
      have hs : sI S2 215 4 (S2.1 215 4) = sI S2 215 4 (V2.1 280 28) := by rw [n2]
      have hv' : sI V2 280 28 (V2.1 280 28) = V2 := by
        refine Prod.ext ?_ rfl
        funext a j
        by_cases e : a = 280
        · subst e
          by_cases e' : j = 28
          · subst e'; rw [sI_at]
          · rw [sI_nj e']
        · rw [sI_ne e]
      obtain ⟨j3, k3⟩ := Jp_num j2 (V2.1 280 28) (V2.1 280 28)
      rw [hv'] at j3 k3
      refine Or.inr ⟨_, _, rfl, rfl, p2, by rw [hs]; exact j3, by rw [hs]; exact (k.tr k2).tr k3, by omega, by rw [sI_at, n2], by omega, b2⟩
    · rw [if_neg (by decide), if_neg (by decide)]
      obtain ⟨j3, k3⟩ := Jp_num j2 (-(S2.1 215 4)) (-(V2.1 280 28))
      have ng := neg_int (x := V2.1 280 28) ⟨by omega, b2⟩
      refine Or.inr ⟨_, _, rfl, rfl, p2, j3, (k.tr k2).tr k3, by omega, by rw [sI_at, sI_at, n2], ?_, ?_⟩
      · rw [sI_at, ng]; omega
      · rw [sI_at, ng]; omega
  by_cases c : p < L ∧ rW U s p = 45
  · rw [if_pos c] at e45
    obtain ⟨j1, k1⟩ := Jp_next hE h c.1
    have cc : f_27 215 S = f_27_21 215 1 (sI S 215 2 (S.1 215 2 + 1)) := by
      unfold f_27
      rw [e45, if_neg (by decide)]
    have mm : f_195 V = f_195_40 1 (sI V 280 26 (V.1 280 26 + 1)) := by
      unfold f_195 f_195_25
      rw [if_neg (fun q => (end_m hE h).mp q c.1), letter_m hE h, Option.bind_some, if_pos c.1, if_pos c.2, if_neg (by decide)]
    rw [cc, mm]
    exact rest _ _ (p + 1) 1 (Or.inr rfl) j1 k1 (by omega)
  · rw [if_neg c] at e45
    have cc : f_27 215 S = f_27_21 215 0 S := by
      unfold f_27
      rw [e45, if_pos rfl]
    have mm : f_195 V = f_195_40 0 V := by
      unfold f_195 f_195_24 f_195_25
      rw [if_pos rfl]
      by_cases d : p < L
      · rw [if_neg (fun q => (end_m hE h).mp q d), letter_m hE h, Option.bind_some, if_pos d, if_neg (fun q => c ⟨d, q⟩)]
      · rw [if_pos ((end_m hE h).mpr d)]
    rw [cc, mm]
    exact rest _ _ p 0 (Or.inl rfl) h (Kp.rf S V) (Nat.le_refl _)
/-- letters in a row, on the reference's side -/
def mch : List Nat → (sU → Option (Int32 × sU)) → sU → Option (Int32 × sU)
  | [], K, V => K V
  | x :: l, K, V => Option.bind (f_191 (Int32.ofNat x) V) fun q => if q.1 = 0 then some (0, q.2) else mch l K q.2
theorem text_out {U V0 : sU} {s L : Nat} (hE : zEnv U V0 s L) {v : Nat} {G : Int32 × sU → Option (Int32 × sU)} {M : sU → Option (Int32 × sU)} {R : sU → sU → Prop} (hG : ∀ S, G (0, S) = some (0, S)) (hx : ∀ x, x ∈ sm_tx (v - 1000) → Int32.ofNat x ≠ 0) (hl : (sm_tx (v - 1000)).length < 1000) : ∀ r k (S V : sU) p n, k + r = (sm_tx (v - 1000)).length → r < n → Jp U V0 s L S V p → (∀ S' V', Jp U V0 s L S' V' (p + r) → Kp S V S' V' → Out U V0 (G (1, S')) (M V') R) → Out U V0 (Option.bind (f_19_2 n 215 v (Int32.ofNat k) S) G) (mch ((sm_tx (v - 1000)).drop k) M V) R := by
  intro r
  induction r with
  | zero =>
    intro k S V p n hk hn hJ hR
    obtain ⟨n, rfl⟩ : ∃ q, n = q + 1 := ⟨n - 1, by omega⟩
    rw [f_19_2, if_pos ((ofNat_le (by omega) (by omega)).mpr (by omega)), Option.bind_some, List.drop_eq_nil_of_le (by omega)]
    exact hR S V hJ (Kp.rf S V)
  | succ r ih =>
    intro k S V p n hk hn hJ hR
    obtain ⟨n, rfl⟩ : ∃ q, n = q + 1 := ⟨n - 1, by omega⟩
    have kl : k < (sm_tx (v - 1000)).length := by omega
    have gk : (sm_tx (v - 1000)).getD k 0 = (sm_tx (v - 1000))[k] := by
      rw [List.getD_eq_getElem?_getD, List.getElem?_eq_getElem kl]; rfl
    rw [f_19_2, if_neg (fun q => by have := (ofNat_le (by omega) (by omega)).mp q; omega), if_pos (ib_ofNat (by omega) kl), ofNat_clamp (by omega), gk, List.drop_eq_getElem_cons kl, ofNat_succ]
    have o := one_letter hE hJ (x := Int32.ofNat ((sm_tx (v - 1000))[k])) (hx _ (List.getElem_mem kl))
    rcases o with ⟨S1, V1, o1, o2, o3⟩ | ⟨S1, V1, o1, o2, o3, o4⟩
    · injection o1 with o1
      rw [o1]
      dsimp only
      rw [if_pos rfl, Option.bind_some, hG]
      refine Or.inl ⟨S1, V1, rfl, ?_, o3⟩
      unfold mch
      rw [o2, Option.bind_some, if_pos rfl]
    · injection o1 with o1
      rw [o1]
      dsimp only
      rw [if_neg (by decide)]
      have := ih (k + 1) S1 V1 (p + 1) n (by omega) (by omega) o3 (fun S' V' j q => hR S' V' (by rw [show p + (r + 1) = p + 1 + r by omega]; exact j) (o4.tr q))
      unfold mch
      rw [o2, Option.bind_some]
      dsimp only
      rw [if_neg (by decide)]
      exact this
