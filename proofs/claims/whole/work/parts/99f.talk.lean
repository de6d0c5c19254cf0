/-! talk: the rule of words -/
theorem Out.eta' {U V0 : sU} {c m : Option (Int32 × sU)} {Q : sU → sU → Prop} (k : Out U V0 c m Q) : Out U V0 (Option.bind c fun q => some (q.1, q.2)) m Q := by
  rcases k with ⟨S, V, rfl, h1, hb⟩ | ⟨S, V, rfl, h1, hb⟩
  · exact Or.inl ⟨S, V, rfl, h1, hb⟩
  · exact Or.inr ⟨S, V, rfl, h1, hb⟩
theorem rule_words {U V0 S V : sU} {s L p n : Nat} (hE : zEnv U V0 s L) (h : Jp U V0 s L S V p) (ht : Jt S V n) (hp : p < L) (e : rW U s p = 119) (hv : f_22 215 S = 1002) (e1 : ¬ (p + 1 < L ∧ rW U s (p + 1) = 105)) : Out U V0 (f_23 215 210 S) (f_202 V) (zPt U V0 s L p n) := by
  obtain ⟨j1, k1⟩ := Jp_next hE h hp
  have mm : f_202 V = f_202_99 (sI V 280 26 (V.1 280 26 + 1)) := by
    have nE := (end_m hE h)
    have nE1 := (end_m hE j1)
    unfold f_202
    rw [letter_m hE h, Option.bind_some, if_neg (fun q => nE.mp q hp), if_pos hp, e, if_neg (by decide)]
    unfold f_202_37
    rw [if_neg (fun q => nE.mp q hp), if_pos rfl]
    by_cases d : p + 1 < L
    · rw [if_neg (fun q => nE1.mp q d), letter_m hE j1, Option.bind_some, if_pos d, if_neg (fun q => e1 ⟨d, q⟩)]
    · rw [if_pos (nE1.mpr d)]
  rw [mm]
  obtain ⟨q, hq⟩ : ∃ q, FU = q + 1 + 1 := ⟨4998, by unfold FU; omega⟩
  have q3 : 3 < q := by unfold FU at hq; omega
  unfold f_23 f_19
  have z : f_19_2 (q + 1 + 1) 215 1002 0 S = f_19_2 (q + 1 + 1) 215 1002 (Int32.ofNat 0) S := rfl
  rw [hv, hq, z]
  rw [txt_yes (v := 1002) (k := 0) hE h (by decide) (by decide) (by decide) hp e]
  unfold f_202_99
  have d1 : (111 : Int32) = Int32.ofNat ((sm_tx (1002 - 1000)).getD (0 + 1) 0) := by decide
  rw [d1]
  refine txt_step (v := 1002) (k := 0 + 1) (H := fun V' => Option.bind (f_198 V') fun q4 => if q4.1 = 0 then some (0, q4.2) else some (1, q4.2)) hE j1 (by decide) (by decide) (by decide) ?_ ?_
  · intro S; rfl
  intro S1 V1 j2 k2
  refine Out.wrap ?_
  have m198 : f_198 V1 = mch [114, 100, 115] (fun V' => Option.bind (f_191 32 V') fun q10 => if q10.1 = 0 then some (0, q10.2) else Option.bind (f_194 1 12 q10.2) fun q13 => if q13.1 = 0 then some (0, q13.2) else some (1, sI q13.2 280 34 (q13.2.1 280 28))) V1 := rfl
  have dr : [114, 100, 115] = (sm_tx (1002 - 1000)).drop (0 + 1 + 1) := by decide
  rw [m198, dr]
  refine text_out (v := 1002) hE ?_ (by decide) (by decide) 3 (0 + 1 + 1) _ _ (p + 1 + 1) q (by decide) q3 j2 ?_
  · intro S; rfl
  intro S' V' j k
  have kk := (k1.tr k2).tr k
  dsimp only
  rw [if_neg n10]
  rcases one_letter hE j (x := 32) (by decide) with ⟨S2, V2, o1, o2, o3⟩ | ⟨S2, V2, o1, o2, j2, k2⟩
  · injection o1 with o1
    rw [o1, o2, Option.bind_some]
    exact Or.inl ⟨S2, V2, rfl, rfl, o3⟩
  injection o1 with o1
  rw [o1, o2, Option.bind_some]
  dsimp only
  rw [if_neg n10, if_neg n10]
  rw [if_neg (by decide : ¬ (if (1002 : Nat) = 1002 then (1 : Int32) else 0) = 0)]
  refine Out.eta' ?_
  unfold f_24
  refine Out.bind (bounded (lo := 1) (hi := 12) hE j2) ?_ (fun S => rfl) (fun V => rfl)
  intro S3 V3 h3
  have z3 := two_num (p := p) (p' := p + 1 + 1 + 3 + 1) (f := 5) (by omega) ht (kk.tr k2) (by omega) h3 (fun q => by omega) (fun _ => ⟨by decide, by decide⟩) (by omega)
  dsimp only
  rw [if_neg n10, if_neg n10]
  exact Or.inr ⟨_, _, rfl, rfl, z3⟩
