/-! talk: a rule on both sides -/
theorem two_num {U V0 S V S' V' : sU} {s L p p' n f : Nat} {lo hi : Int} (hf : 3 ≤ f ∧ f ≤ 9) (ht : Jt S V n) (k : Kp S V S' V') (hp : p ≤ p') {S2 V2 : sU} (h : Nm U V0 s L p' lo hi S' V' S2 V2) (r1 : f = 3 ∨ f = 4 ∨ f = 8 ∨ f = 9 → -500 ≤ lo ∧ hi ≤ 500) (r2 : f = 5 → 1 ≤ lo ∧ hi ≤ 12) (r3 : ¬ (f = 6 ∨ f = 7)) : zPt U V0 s L p n (sI S2 210 f (S2.1 215 4)) (sI V2 280 (29 + f) (V2.1 280 28)) := by
  obtain ⟨p2, j2, k2, l2, n2, a2, b2⟩ := h
  refine ⟨p2, Jp_set j2 hf, ?_, by omega⟩
  rw [n2]
  exact Jt_set (Jt_kp ht (k.tr k2)) hf (fun q => by have := r1 q; omega) (fun q => by have := r2 q; omega) (fun q => absurd q r3)
theorem rule_wish {U V0 S V : sU} {s L p n : Nat} (hE : zEnv U V0 s L) (h : Jp U V0 s L S V p) (ht : Jt S V n) (hp : p < L) (e : rW U s p = 119) (hv : f_22 215 S = 1001) (hp1 : p + 1 < L) (e1 : rW U s (p + 1) = 105) : Out U V0 (f_23 215 210 S) (f_202 V) (zPt U V0 s L p n) := by
  obtain ⟨j1, k1⟩ := Jp_next hE h hp
  obtain ⟨j2, k2⟩ := Jp_next hE j1 hp1
  have mm : f_202 V = Option.bind (mch [115, 104] (fun V' => Option.bind (f_191 32 V') fun q7 => if q7.1 = 0 then some (0, q7.2) else Option.bind (f_195 q7.2) fun q10 => if q10.1 = 0 then some (0, q10.2) else some (1, sI q10.2 280 32 (q10.2.1 280 28))) (sI (sI V 280 26 (V.1 280 26 + 1)) 280 26 ((sI V 280 26 (V.1 280 26 + 1)).1 280 26 + 1))) (fun q => some (q.1, q.2)) := by
    have nE := (end_m hE h)
    have nE1 := (end_m hE j1)
    unfold f_202
    rw [letter_m hE h, Option.bind_some, if_neg (fun q => nE.mp q hp), if_pos hp, e, if_neg (by decide)]
    unfold f_202_37
    rw [if_neg (fun q => nE.mp q hp), if_pos rfl, if_neg (fun q => nE1.mp q hp1), letter_m hE j1, Option.bind_some, if_pos hp1, if_pos e1]
    rfl
  rw [mm]
  refine Out.eta ?_
  obtain ⟨q, hq⟩ : ∃ q, FU = q + 1 + 1 := ⟨4998, by unfold FU; omega⟩
  have q3 : 2 < q := by unfold FU at hq; omega
  unfold f_23 f_19
  have z : f_19_2 (q + 1 + 1) 215 1001 0 S = f_19_2 (q + 1 + 1) 215 1001 (Int32.ofNat 0) S := rfl
  rw [hv, hq, z]
  rw [txt_yes (v := 1001) (k := 0) hE h (by decide) (by decide) (by decide) hp e, txt_yes (v := 1001) (k := 1) hE j1 (by decide) (by decide) (by decide) hp1 e1]
  have dr : [115, 104] = (sm_tx (1001 - 1000)).drop 2 := by decide
  rw [dr]
  refine text_out (v := 1001) hE ?_ (by decide) (by decide) 2 2 _ _ (p + 1 + 1) q (by decide) q3 j2 ?_
  · intro S; rfl
  intro S' V' j k
  have kk := (k1.tr k2).tr k
  dsimp only
  rw [if_neg n10]
  rcases one_letter hE j (x := 32) (by decide) with ⟨S2, V2, o1, o2, o3⟩ | ⟨S2, V2, o1, o2, j2, k2⟩
  · injection o1 with o1
    rw [o1, o2, Option.bind_some]
    exact Or.inl ⟨S2, V2, rfl, rfl, o3⟩
  injection o1 with o1
  rw [o1, o2, Option.bind_some]
  dsimp only
  rw [if_neg n10, if_neg n10]
  rw [if_pos (by decide : (if (1001 : Nat) = 1002 then (1 : Int32) else 0) = 0), if_pos (by decide : (if (1001 : Nat) = 1004 then (1 : Int32) else 0) = 0)]
  refine Out.bind (signed hE j2) ?_ (fun S => rfl) (fun V => rfl)
  intro S3 V3 h3
  have z3 := two_num (p := p) (p' := p + 1 + 1 + 2 + 1) (f := 3) (by omega) ht (kk.tr k2) (by omega) h3 (fun _ => ⟨by omega, by omega⟩) (fun q => by omega) (by omega)
  dsimp only
  rw [if_neg n10, if_neg n10, if_neg (by decide : ¬ (if (1001 : Nat) = 1001 then (1 : Int32) else 0) = 0)]
  exact Or.inr ⟨_, _, rfl, rfl, z3⟩
