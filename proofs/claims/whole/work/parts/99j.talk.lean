/-! talk: any rule on both sides -/
theorem f22_eq {U V0 S V : sU} {s L p : Nat} (hE : zEnv U V0 s L) (h : Jp U V0 s L S V p) : f_22 215 S = if p < L ∧ rW U s p = 119 then (if p + 1 < L ∧ rW U s (p + 1) = 105 then 1001 else 1002) else if p < L ∧ rW U s p = 108 then (if p + 1 < L ∧ rW U s (p + 1) = 101 then 1003 else 1004) else 1005 := by
  have h2 : S.1 215 2 = Int32.ofNat p := h.2.2.2.1
  have hpL : p ≤ L := h.2.2.2.2.2.2.2.2.2
  have hL := hE.2.1
  have z : ∀ x : Int32, x ≠ 0 → (zT U s L (p + 1) = x ↔ p + 1 < L ∧ rW U s (p + 1) = x) := by
    intro x hx
    unfold zT
    by_cases c : p + 1 < L
    · rw [if_pos c]; exact ⟨fun q => ⟨c, q⟩, fun q => q.2⟩
    · rw [if_neg c]; exact ⟨fun q => absurd q.symm hx, fun q => absurd q.1 c⟩
  have lq : iget (215 + 1) (S.1 215 2 + 1) S = zT U s L (p + 1) := by rw [h2, ofNat_succ]; exact letter_q hE h (by omega)
  unfold f_22
  rw [f16_eq hE h (by decide), f16_eq hE h (by decide), lq]
  by_cases a : p < L ∧ rW U s p = 119
  · rw [if_pos a, if_neg n10, if_pos a]
    by_cases b : p + 1 < L ∧ rW U s (p + 1) = 105
    · rw [if_pos b, if_pos ((z 105 (by decide)).mpr b)]
    · rw [if_neg b, if_neg (fun q => b ((z 105 (by decide)).mp q))]
  · rw [if_neg a, if_pos rfl, if_neg a]
    by_cases a' : p < L ∧ rW U s p = 108
    · rw [if_pos a', if_neg n10, if_pos a']
      by_cases b : p + 1 < L ∧ rW U s (p + 1) = 101
      · rw [if_pos b, if_pos ((z 101 (by decide)).mpr b)]
      · rw [if_neg b, if_neg (fun q => b ((z 101 (by decide)).mp q))]
    · rw [if_neg a', if_pos rfl, if_neg a']
theorem rule_else {U V0 S V : sU} {s L p n : Nat} (hE : zEnv U V0 s L) (h : Jp U V0 s L S V p) (hv : f_22 215 S = 1005) (a : ¬ (p < L ∧ rW U s p = 119)) (b : ¬ (p < L ∧ rW U s p = 108)) (c : ¬ (p < L ∧ rW U s p = 116)) : Out U V0 (f_23 215 210 S) (f_202 V) (zPt U V0 s L p n) := by
  have h2 : S.1 215 2 = Int32.ofNat p := h.2.2.2.1
  have g2 : V.1 280 26 = Int32.ofNat p := h.2.2.2.2.2.2.2.1
  have hpL : p ≤ L := h.2.2.2.2.2.2.2.2.2
  have hL := hE.2.1
  have c0 : f_18 215 116 S = (0, sI S 215 3 (Int32.ofNat p)) := by
    unfold f_18
    rw [f16_eq hE h (by decide), if_neg c, if_pos rfl, h2]
    rfl
  have cc : f_23 215 210 S = some (0, sI S 215 3 (Int32.ofNat p)) := by
    obtain ⟨q, hq⟩ : ∃ q, FU = q + 1 := ⟨4999, by unfold FU; omega⟩
    have g : f_19_2 (q + 1) 215 1005 0 S = some (0, sI S 215 3 (Int32.ofNat p)) := by
      rw [f_19_2, if_neg (by decide), if_pos (by decide)]
      have e : Int32.ofNat ((sm_tx (1005 - 1000)).getD (0 : Int32).toNatClampNeg 0) = 116 := by decide
      rw [e, c0]
      rfl
    unfold f_23 f_19
    rw [hv, hq, g, Option.bind_some, if_pos rfl]
  have mm : f_202 V = some (0, sI V 280 30 (Int32.ofNat p)) := by
    have nE := (end_m hE h)
    unfold f_202 f_202_37 f_202_121
    rw [letter_m hE h, Option.bind_some]
    by_cases d : p < L
    · rw [if_neg (fun q => nE.mp q d), if_neg (fun q => nE.mp q d), if_neg (fun q => nE.mp q d), if_pos d, if_neg (fun q => c ⟨d, q⟩), if_neg (fun q => a ⟨d, q⟩), if_neg (fun q => b ⟨d, q⟩), g2]
    · rw [if_pos (nE.mpr d), if_pos (nE.mpr d), if_pos (nE.mpr d), g2]
  rw [cc, mm]
  exact Or.inl ⟨_, _, rfl, rfl, Jp_bad hE h (by omega)⟩
theorem rule_out {U V0 S V : sU} {s L p n : Nat} (hE : zEnv U V0 s L) (h : Jp U V0 s L S V p) (ht : Jt S V n) : Out U V0 (f_23 215 210 S) (f_202 V) (zPt U V0 s L p n) := by
  have f := f22_eq hE h
  by_cases a : p < L ∧ rW U s p = 119
  · rw [if_pos a] at f
    by_cases b : p + 1 < L ∧ rW U s (p + 1) = 105
    · rw [if_pos b] at f; exact rule_wish hE h ht a.1 a.2 f b.1 b.2
    · rw [if_neg b] at f; exact rule_words hE h ht a.1 a.2 f b
  rw [if_neg a] at f
  by_cases a' : p < L ∧ rW U s p = 108
  · rw [if_pos a'] at f
    by_cases b : p + 1 < L ∧ rW U s (p + 1) = 101
    · rw [if_pos b] at f; exact rule_lean hE h ht a'.1 a'.2 f b.1 b.2
    · rw [if_neg b] at f; exact rule_loss hE h ht a'.1 a'.2 f b
  rw [if_neg a'] at f
  by_cases c : p < L ∧ rW U s p = 116
  · exact rule_two hE h ht c.1 c.2 f
  · exact rule_else hE h f a a' c
