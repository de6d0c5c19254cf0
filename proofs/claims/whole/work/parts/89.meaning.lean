/-! meaning: cuts, and the whole -/
theorem zW_zero : ∀ t, zW 0 t = 0 := by
  intro t
  induction t with
  | zero => rfl
  | succ t ih =>
    show zW 0 t + (if Nat.testBit 0 t then 1 else 0) = 0
    rw [ih, Nat.zero_testBit]; rfl
theorem flaw_cut {U : sU} {nT nM t n : Nat} {x k y more : Int32} (h : InvN nT nM U) (ht : t < nT) (hx : x = Int32.ofNat t) (hT : Tk U (5 + 5 * t) n) (hk : k = 1 ∨ k = 3 ∨ k = 4) : ∃ (w : Int32) (c : Nat), (w = 0 ∨ (1 ≤ w.toInt ∧ w.toInt ≤ 7)) ∧ f_127_47 x k y more (some (5 + 5 * t)) 0 U = (if w = 0 then f_127_128 x k y more (some (5 + 5 * t)) 0 (Int32.ofNat c) 0 U else some (f_157 w U)) ∧ (∀ V, Lk U V → f_215_19 x k y more 0 V = if w = 0 then f_215_282 x k y more 0 (Int32.ofNat n) V else (f_174 (-w) V).bind fun q => some (q.1, q.2)) ∧ (w = 0 → c < 2048 ∧ (k = 1 → more = Int32.ofNat c) ∧ (∀ i, i < n → mWd U k false 0 c i = Int32.ofNat (zW c i)) ∧ (∀ i, i < n → ((zW c i : Nat) : Int) < (U.1 (5 + 5 * t) 5).toInt)) := by
  have n8 := h.1.1.2.2.1
  have hT0 := hT
  obtain ⟨_, n1, n12, _, _, _, ⟨w1, w12⟩, _⟩ := hT0
  have e1 : (1 : Int32).toInt = 1 := rfl
  have e0 : (0 : Int32).toInt = 0 := rfl
  have xt : x.toInt = t := by rw [hx, ofNat_int (by omega)]
  have xc : x.toNatClampNeg = t := by rw [clamp_int]; omega
  have ix : ib x 8 := ib_int.mpr (by omega)
  obtain ⟨nn, _, _, q0, q0', _, _, q3, _⟩ := tk_facts h ht
  have en : U.1 288 t = Int32.ofNat n := by rw [q0', ← q0, hT.1]
  have pw := Nat.two_pow_pos (n - 1)
  have p2048 : 2 ^ (n - 1) ≤ 2048 := Nat.pow_le_pow_right (n := 2) (by omega) (show n - 1 ≤ 11 by omega)
  have mdl : ∀ V, Lk U V → f_215_19 x k y more 0 V = f_215_214 x k y more 0 (Int32.ofNat n) V := by
    intro V hV
    unfold f_215_19 f_215_57 f_215_79 f_215_100 f_215_131
    rw [if_neg (f178_yes ((hV.1 280 0 (by omega)).trans h.1.2.1) n8 (by omega)), if_neg (by rcases hk with rfl | rfl | rfl <;> decide), if_neg (by rcases hk with rfl | rfl | rfl <;> decide), if_pos rfl, if_pos rfl, if_pos rfl, if_pos ix, if_pos rfl, if_pos rfl, xc, hV.1 288 _ (by omega), en, m_clear, if_neg (fun q => by rcases hk with rfl | rfl | rfl <;> exact absurd q.1 (by decide))]
  have f163 : ∀ c : Nat, c < 4096 → f_163 (5 + 5 * t) (Int32.ofNat c) U = if c < 2 ^ (n - 1) ∧ zal U (5 + 5 * t) c = true then 0 else 6 := by
    intro c hc
    unfold f_163
    rw [f103_eq hT.1 n1 n12, f104_eq (U := U) rfl hc, if_neg (by rw [i32_lt0, ofNat_int (by omega)]; omega)]
    by_cases c1 : c < 2 ^ (n - 1)
    · rw [if_neg (by rw [i32_le, ofNat_int (by omega), ofNat_int (by omega)]; omega)]
      cases zal U (5 + 5 * t) c with
      | true => rw [if_neg (by decide : ¬ (if true = true then (1 : Int32) else 0) = 0), if_pos (⟨c1, rfl⟩ : c < 2 ^ (n - 1) ∧ true = true)]; rfl
      | false => rw [if_pos (by decide : (if false = true then (1 : Int32) else 0) = 0), if_neg (fun q : c < 2 ^ (n - 1) ∧ false = true => by cases q.2)]; rfl
    · rw [if_pos (by rw [i32_le, ofNat_int (by omega), ofNat_int (by omega)]; omega), if_pos rfl, if_neg (fun q : c < 2 ^ (n - 1) ∧ zal U (5 + 5 * t) c = true => c1 q.1)]
  have cls : ∀ c : Int32, f_127_75 x k y more (some (5 + 5 * t)) 0 c U = f_127_128 x k y more (some (5 + 5 * t)) 0 c (f_163 (5 + 5 * t) c U) U := by
    intro c
    unfold f_127_75
    rw [if_pos rfl]
    dsimp only
    rw [c_clear, if_neg (fun q => by rcases hk with rfl | rfl | rfl <;> exact absurd q.2.1 (by decide))]
  have low : ∀ c, c < 2 ^ (n - 1) → zal U (5 + 5 * t) c = true → ∀ i, i < n → ((zW c i : Nat) : Int) < (U.1 (5 + 5 * t) 5).toInt := by
    intro c c1 c2 i hi
    have a : zpc c = zW c (n - 1) := zpc_W c1 (by omega)
    have b := zW_mono c (n - 1 - i) i
    rw [show i + (n - 1 - i) = n - 1 by omega] at b
    unfold zal at c2
    have c2 := of_decide_eq_true c2
    omega
  rcases hk with rfl | rfl | rfl
  · -- cuts given
    have c47 : f_127_47 x 1 y more (some (5 + 5 * t)) 0 U = f_127_75 x 1 y more (some (5 + 5 * t)) 0 more U := by
      unfold f_127_47; rw [if_pos rfl]
    have ov : (1 : Int32) <<< ((Int32.ofNat n - 1) &&& 31) = Int32.ofNat (2 ^ (n - 1)) := by
      have := f103_eq (V := U) (T := 5 + 5 * t) hT.1 n1 n12
      unfold f_103 at this
      rw [hT.1, if_neg (by rw [i32_le, ofNat_int (by omega), e0]; omega)] at this
      exact this
    have m14 : ∀ V, Lk U V → f_215_19 x 1 y more 0 V = if more < 0 then (f_174 (-6) V).bind fun q => some (q.1, q.2) else if Int32.ofNat (2 ^ (n - 1)) ≤ more then (f_174 (-6) V).bind fun q => some (q.1, q.2) else Option.bind (f_214 more V) fun q32 => if q32 + 1 ≤ U.1 (5 + 5 * t) 5 then f_215_282 x 1 y more 0 (Int32.ofNat n) V else (f_174 (-6) V).bind fun q => some (q.1, q.2) := by
      intro V hV
      rw [mdl V hV]
      unfold f_215_214 f_215_259
      rw [if_pos rfl, ov]
      have h14 : ¬ (1 : Int32) = 4 := by decide
      simp only [if_pos ix, xc, hV.1 291 _ (by omega : 280 ≤ 291), q3.1, if_neg h14]
    by_cases c1 : more < 0
    · refine ⟨6, 0, Or.inr (by decide), ?_, ?_, fun q => absurd q (by decide)⟩
      · rw [c47, cls, if_neg (by decide)]
        have : f_163 (5 + 5 * t) more U = 6 := by unfold f_163; rw [if_pos c1]; rfl
        rw [this, c_bad (by decide)]
      · intro V hV; rw [m14 V hV, if_pos c1, if_neg (by decide)]
    by_cases c2 : Int32.ofNat (2 ^ (n - 1)) ≤ more
    · refine ⟨6, 0, Or.inr (by decide), ?_, ?_, fun q => absurd q (by decide)⟩
      · rw [c47, cls, if_neg (by decide)]
        have : f_163 (5 + 5 * t) more U = 6 := by unfold f_163; rw [if_neg c1, f103_eq hT.1 n1 n12, if_pos c2]; rfl
        rw [this, c_bad (by decide)]
      · intro V hV; rw [m14 V hV, if_neg c1, if_pos c2, if_neg (by decide)]
    rw [i32_lt0] at c1
    obtain ⟨c, em, ec⟩ : ∃ c : Nat, more = Int32.ofNat c ∧ more.toInt = c := ⟨more.toNatClampNeg, i32_nat (by omega), by have := clamp_int more; omega⟩
    rw [i32_le, ofNat_int (by omega), ec] at c2
    have cb : c < 2 ^ (n - 1) := by omega
    have fc := f163 c (by omega)
    have mz : ∀ V, Lk U V → f_215_19 x 1 y more 0 V = if zal U (5 + 5 * t) c = true then f_215_282 x 1 y more 0 (Int32.ofNat n) V else (f_174 (-6) V).bind fun q => some (q.1, q.2) := by
      intro V hV
      have pl := zpc_le c
      rw [m14 V hV, if_neg (by rw [i32_lt0]; omega), if_neg (by rw [i32_le, ofNat_int (by omega), ec]; omega), em, f214_eq (by omega), Option.bind_some, ofNat_succ]
      unfold zal
      by_cases z : (zpc c : Int) + 1 ≤ (U.1 (5 + 5 * t) 5).toInt
      · rw [if_pos (by rw [i32_le, ofNat_int (by omega)]; omega), if_pos (decide_eq_true z)]
      · rw [if_neg (by rw [i32_le, ofNat_int (by omega)]; omega), if_neg (fun q => z (of_decide_eq_true q))]
    by_cases z : zal U (5 + 5 * t) c = true
    · refine ⟨0, c, Or.inl rfl, ?_, ?_, fun _ => ⟨by omega, fun _ => em, fun i hi => by unfold mWd; rfl, low c cb z⟩⟩
      · rw [c47, cls, em, fc, if_pos ⟨cb, z⟩, if_pos rfl]
      · intro V hV; rw [mz V hV, if_pos z, if_pos rfl]
    · refine ⟨6, 0, Or.inr (by decide), ?_, ?_, fun q => absurd q (by decide)⟩
      · rw [c47, cls, em, fc, if_neg (fun q => z q.2), c_bad (by decide), if_neg (by decide)]
      · intro V hV; rw [mz V hV, if_neg z, if_neg (by decide)]
  · -- one word
    have z : zal U (5 + 5 * t) 0 = true := by
      unfold zal
      rw [zpc_W (k := 0) (by decide) (by omega)]
      exact decide_eq_true (by show ((0 : Nat) : Int) + 1 ≤ _; omega)
    refine ⟨0, 0, Or.inl rfl, ?_, ?_, fun _ => ⟨by omega, fun q => absurd q (by decide), fun i hi => by unfold mWd; rw [zW_zero]; rfl, low 0 pw z⟩⟩
    · have c47 : f_127_47 x 3 y more (some (5 + 5 * t)) 0 U = f_127_75 x 3 y more (some (5 + 5 * t)) 0 0 U := by
        unfold f_127_47; rw [if_neg (by decide), if_neg (by decide)]
      have fc : f_163 (5 + 5 * t) 0 U = 0 := (f163 0 (by omega)).trans (if_pos ⟨pw, z⟩)
      rw [c47, cls, fc, if_pos rfl]
      rfl
    · intro V hV
      rw [mdl V hV, if_pos rfl]
      unfold f_215_214 f_215_259
      rw [if_neg (by decide), if_neg (by decide)]
  · -- every cut
    have pc := pc_all n1 n12
    have cb : 2 ^ (n - 1) - 1 < 2 ^ (n - 1) := by omega
    have c47 : f_127_47 x 4 y more (some (5 + 5 * t)) 0 U = f_127_75 x 4 y more (some (5 + 5 * t)) 0 (Int32.ofNat (2 ^ (n - 1) - 1)) U := by
      unfold f_127_47
      rw [if_neg (by decide), if_pos rfl]
      dsimp only
      rw [f103_eq hT.1 n1 n12]
      congr 1
      apply Int32.toInt_inj.mp
      rw [s32 (by rw [ofNat_int (by omega), e1]; omega) (by rw [ofNat_int (by omega), e1]; omega), ofNat_int (by omega), ofNat_int (by omega), e1]
      omega
    have fc := f163 (2 ^ (n - 1) - 1) (by omega)
    have zi : zal U (5 + 5 * t) (2 ^ (n - 1) - 1) = true ↔ (n : Int) ≤ (U.1 (5 + 5 * t) 5).toInt := by
      unfold zal
      rw [pc, decide_eq_true_iff]
      omega
    have mz : ∀ V, Lk U V → f_215_19 x 4 y more 0 V = if (n : Int) ≤ (U.1 (5 + 5 * t) 5).toInt then f_215_282 x 4 y more 0 (Int32.ofNat n) V else (f_174 (-6) V).bind fun q => some (q.1, q.2) := by
      intro V hV
      rw [mdl V hV]
      unfold f_215_214 f_215_259
      rw [if_neg (by decide), if_pos rfl, if_pos ix, xc, hV.1 291 _ (by omega), q3.1]
      by_cases z : (n : Int) ≤ (U.1 (5 + 5 * t) 5).toInt
      · rw [if_pos (by rw [i32_le, ofNat_int (by omega)]; omega), if_pos z]
      · rw [if_neg (by rw [i32_le, ofNat_int (by omega)]; omega), if_neg z]
    by_cases z : (n : Int) ≤ (U.1 (5 + 5 * t) 5).toInt
    · refine ⟨0, 2 ^ (n - 1) - 1, Or.inl rfl, ?_, ?_, fun _ => ⟨by omega, fun q => absurd q (by decide), fun i hi => by unfold mWd; rw [allows_all n1 n12 i hi]; rfl, low _ cb (zi.mpr z)⟩⟩
      · rw [c47, cls, fc, if_pos ⟨cb, zi.mpr z⟩, if_pos rfl]
      · intro V hV; rw [mz V hV, if_pos z, if_pos rfl]
    · refine ⟨6, 0, Or.inr (by decide), ?_, ?_, fun q => absurd q (by decide)⟩
      · rw [c47, cls, fc, if_neg (fun q => z (zi.mp q.2)), c_bad (by decide), if_neg (by decide)]
      · intro V hV; rw [mz V hV, if_neg z, if_neg (by decide)]
theorem st_meaning {U : sU} (h : Inv U) (x k y more : Int32) : Two (f_127 x k y more U) (f_215 x k y more) := by
  have h0 := h
  have e5 : (5 : Int32).toInt = 5 := rfl
  obtain ⟨nT, nM, h⟩ := h
  have n1 : U.1 280 0 = Int32.ofNat nT := h.1.2.1
  have n8 := h.1.1.2.2.1
  have m19 : ∀ V, f_215 x k y more V = f_215_19 x k y more (if k = 0 ∨ k = 2 ∨ k = 5 then 1 else 0) V := by
    intro V
    unfold f_215 f_215_14
    by_cases k0 : k = 0
    · rw [if_pos k0, if_pos (Or.inl k0)]
    rw [if_neg k0]
    by_cases k2 : k = 2
    · rw [if_pos k2, if_pos (Or.inr (Or.inl k2))]
    rw [if_neg k2]
    by_cases k5 : k = 5
    · rw [if_pos k5, if_pos (Or.inr (Or.inr k5))]
    · rw [if_neg k5, if_neg (fun q => by rcases q with q | q | q; exact k0 q; exact k2 q; exact k5 q)]
  by_cases hx : 0 ≤ x.toInt ∧ x.toInt < nT
  case neg =>
    refine ref_to h0 (w := 1) (by decide) (by unfold f_127; rw [tat_no h hx]) ?_
    rw [m19]
    unfold f_215_19
    rw [if_pos (f178_no ((f157_1 (by decide) (by decide)).trans n1) n8 hx)]
  obtain ⟨e1, e2, e3, e4, _⟩ := tat_yes h hx
  by_cases hk : 0 ≤ k.toInt ∧ k.toInt ≤ 5
  case neg =>
    refine ref_to h0 (w := 1) (by decide) (by unfold f_127; rw [e1]; dsimp only; rw [if_pos (f166_iff.mpr hk)]) ?_
    rw [m19]
    unfold f_215_19
    rw [if_neg (f178_yes ((f157_1 (by decide) (by decide)).trans n1) n8 hx)]
    by_cases k0 : k < 0
    · rw [if_pos k0]
    · rw [if_neg k0, if_pos]
      rw [i32_lt0] at k0
      rw [i32_lt]
      omega
  obtain ⟨n, hT⟩ := Tk_of h e2
  have hxt : x = Int32.ofNat x.toNatClampNeg := i32_nat hx.1
  generalize x.toNatClampNeg = t at *
  have kk := i32_nat hk.1
  have kc := clamp_int k
  have c42 : f_127 x k y more U = f_127_47 x k y more (some (5 + 5 * t)) (if k = 0 ∨ k = 2 ∨ k = 5 then 1 else 0) U := by
    unfold f_127 f_127_42
    rw [e1]
    dsimp only
    rw [if_neg (fun q => f166_iff.mp q hk)]
    by_cases k0 : k = 0
    · rw [if_pos k0, if_pos (Or.inl k0)]
    rw [if_neg k0]
    by_cases k2 : k = 2
    · rw [if_pos k2, if_pos (Or.inr (Or.inl k2))]
    rw [if_neg k2]
    by_cases k5 : k = 5
    · rw [if_pos k5, if_pos (Or.inr (Or.inr k5))]
    · rw [if_neg k5, if_neg (fun q => by rcases q with q | q | q; exact k0 q; exact k2 q; exact k5 q)]
  by_cases kr : k = 0 ∨ k = 2 ∨ k = 5
  · rw [if_pos kr] at c42
    have m : ∀ V, f_215 x k y more V = f_215_19 x k y more 1 V := fun V => by rw [m19, if_pos kr]
    obtain ⟨w, w1, w2, w3, w4⟩ := flaw_row (y := y) (more := more) h e2 hxt hT kr
    by_cases hw : w = 0
    · obtain ⟨s, s1, s2, s3, s4⟩ := w4 hw
      rw [if_pos hw] at w2
      obtain ⟨r, U1, V, r1, rl, r2, r3⟩ := mean_fin (U := U) (s := s) (c := 0) (x := x) (k := k) (y := y) (more := more) (v6 := 1) (cuts := 0) (row := true) h e2 hxt hT.1 hT.2.1 hT.2.2.1 hk s4 rfl (fun _ => s1) (fun _ => s2) (fun q => by cases q) (fun i hi => by unfold mWd; rw [if_pos rfl]; exact s3 i hi)
      exact ⟨r, U1, V, by rw [c42, w2]; exact r1, by rw [m, w3 _ rl, if_pos hw]; exact r2, r3⟩
    · rw [if_neg hw] at w2
      have wr : 1 ≤ w.toInt ∧ w.toInt ≤ 7 := by rcases w1 with q | q; exact absurd q hw; exact q
      refine ref_to h0 (w := w) wr (by rw [c42, w2]) ?_
      rw [m, w3 _ (f157_2 wr), if_neg hw]
  · rw [if_neg kr] at c42
    have m : ∀ V, f_215 x k y more V = f_215_19 x k y more 0 V := fun V => by rw [m19, if_neg kr]
    obtain ⟨w, c, w1, w2, w3, w4⟩ := flaw_cut (k := k) (y := y) (more := more) h e2 hxt hT (by
      have : k.toNatClampNeg = 1 ∨ k.toNatClampNeg = 3 ∨ k.toNatClampNeg = 4 := by
        have a0 : ¬ k.toNatClampNeg = 0 := fun q => kr (Or.inl (by rw [kk, q]; rfl))
        have a2 : ¬ k.toNatClampNeg = 2 := fun q => kr (Or.inr (Or.inl (by rw [kk, q]; rfl)))
        have a5 : ¬ k.toNatClampNeg = 5 := fun q => kr (Or.inr (Or.inr (by rw [kk, q]; rfl)))
        omega
      rcases this with q | q | q
      · left; rw [kk, q]; rfl
      · right; left; rw [kk, q]; rfl
      · right; right; rw [kk, q]; rfl)
    by_cases hw : w = 0
    · obtain ⟨s1, s2, s3, s4⟩ := w4 hw
      rw [if_pos hw] at w2
      obtain ⟨r, U1, V, r1, rl, r2, r3⟩ := mean_fin (U := U) (s := 0) (c := c) (x := x) (k := k) (y := y) (more := more) (v6 := 0) (cuts := Int32.ofNat c) (row := false) h e2 hxt hT.1 hT.2.1 hT.2.2.1 hk (fun q => absurd (Or.inr (Or.inl q)) kr) rfl (fun q => by cases q) (fun q => by cases q) (fun _ => ⟨rfl, s1, s2, s3⟩) (fun i hi => by
        have := zW_le c i
        have n12 := hT.2.2.1
        rw [s3 i hi, ofNat_int (by omega)]
        exact ⟨by omega, s4 i hi⟩)
      exact ⟨r, U1, V, by rw [c42, w2]; exact r1, by rw [m, w3 _ rl, if_pos hw]; exact r2, r3⟩
    · rw [if_neg hw] at w2
      have wr : 1 ≤ w.toInt ∧ w.toInt ≤ 7 := by rcases w1 with q | q; exact absurd q hw; exact q
      refine ref_to h0 (w := w) wr (by rw [c42, w2]) ?_
      rw [m, w3 _ (f157_2 wr), if_neg hw]
