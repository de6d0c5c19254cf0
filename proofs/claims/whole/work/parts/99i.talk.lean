/-! talk: the rule of two -/
theorem rule_two {U V0 S V : sU} {s L p n : Nat} (hE : zEnv U V0 s L) (h : Jp U V0 s L S V p) (ht : Jt S V n) (hp : p < L) (e : rW U s p = 116) (hv : f_22 215 S = 1005) : Out U V0 (f_23 215 210 S) (f_202 V) (zPt U V0 s L p n) := by
  obtain ⟨j1, k1⟩ := Jp_next hE h hp
  have mm : f_202 V = Option.bind (mch [119, 111] (fun V' => Option.bind (f_191 32 V') fun q7 => if q7.1 = 0 then some (0, q7.2) else Option.bind (f_195 q7.2) fun q10 => if q10.1 = 0 then some (0, q10.2) else Option.bind (f_191 32 q10.2) fun q13 => if q13.1 = 0 then some (0, q13.2) else Option.bind (f_195 q13.2) fun q16 => if q16.1 = 0 then some (0, q16.2) else some (1, sI (sI (sI q16.2 280 36 1) 280 37 (q10.2.1 280 28)) 280 38 ((sI (sI q16.2 280 36 1) 280 37 (q10.2.1 280 28)).1 280 28))) (sI V 280 26 (V.1 280 26 + 1))) (fun q => some (q.1, q.2)) := by
    have nE := (end_m hE h)
    unfold f_202
    rw [letter_m hE h, Option.bind_some, if_neg (fun q => nE.mp q hp), if_pos hp, if_pos e]
    rfl
  rw [mm]
  refine Out.eta ?_
  obtain ⟨q, hq⟩ : ∃ q, FU = q + 1 := ⟨4999, by unfold FU; omega⟩
  have q3 : 2 < q := by unfold FU at hq; omega
  unfold f_23 f_19
  have z : f_19_2 (q + 1) 215 1005 0 S = f_19_2 (q + 1) 215 1005 (Int32.ofNat 0) S := rfl
  rw [hv, hq, z]
  rw [txt_yes (v := 1005) (k := 0) hE h (by decide) (by decide) (by decide) hp e]
  have dr : [119, 111] = (sm_tx (1005 - 1000)).drop (0 + 1) := by decide
  rw [dr]
  refine text_out (v := 1005) hE ?_ (by decide) (by decide) 2 (0 + 1) _ _ (p + 1) q (by decide) q3 j1 ?_
  · intro S; rfl
  intro S' V' j k
  have kk := k1.tr k
  dsimp only
  rw [if_neg n10]
  rcases one_letter hE j (x := 32) (by decide) with ⟨S2, V2, o1, o2, o3⟩ | ⟨S2, V2, o1, o2, j2, k2⟩
  · injection o1 with o1
    rw [o1, o2, Option.bind_some]
    exact Or.inl ⟨S2, V2, rfl, rfl, o3⟩
  injection o1 with o1
  rw [o1, o2, Option.bind_some]
  dsimp only
  rw [if_neg n10, if_neg n10]
  rw [if_pos (by decide : (if (1005 : Nat) = 1002 then (1 : Int32) else 0) = 0), if_pos (by decide : (if (1005 : Nat) = 1004 then (1 : Int32) else 0) = 0)]
  refine Out.bind (signed hE j2) ?_ (fun S => rfl) (fun V => rfl)
  rintro S3 V3 ⟨p3, j3, k3, l3, n3, a3, b3⟩
  dsimp only
  rw [if_neg n10, if_neg n10, if_pos (by decide : (if (1005 : Nat) = 1001 then (1 : Int32) else 0) = 0), if_pos (by decide : (if (1005 : Nat) = 1003 then (1 : Int32) else 0) = 0)]
  refine Out.eta' ?_
  unfold f_26
  rcases one_letter hE j3 (x := 32) (by decide) with ⟨S4, V4, o1, o2, o3⟩ | ⟨S4, V4, o1, o2, j4, k4⟩
  · injection o1 with o1
    rw [o1, o2, Option.bind_some]
    exact Or.inl ⟨S4, V4, rfl, rfl, o3⟩
  injection o1 with o1
  rw [o1, o2, Option.bind_some]
  dsimp only
  rw [if_neg n10, if_neg n10]
  refine Out.bind (signed hE j4) ?_ (fun S => rfl) (fun V => rfl)
  rintro S5 V5 ⟨p5, j5, k5, l5, n5, a5, b5⟩
  dsimp only
  rw [if_neg n10, if_neg n10]
  have t5 : Jt S5 V5 n := Jt_kp ht ((((kk.tr k2).tr k3).tr k4).tr k5)
  have t6 := Jt_set (f := 7) (v := 1) t5 (by omega) (fun q => by omega) (fun q => by omega) (fun _ => Or.inr rfl)
  have t7 := Jt_set (f := 8) (v := V3.1 280 28) t6 (by omega) (fun _ => ⟨a3, b3⟩) (fun q => by omega) (fun q => by omega)
  have t8 := Jt_set (f := 9) (v := V5.1 280 28) t7 (by omega) (fun _ => ⟨a5, b5⟩) (fun q => by omega) (fun q => by omega)
  have j8 := Jp_set (f := 9) (v := V5.1 280 28) (w := V5.1 280 28) (Jp_set (f := 8) (v := V3.1 280 28) (w := V3.1 280 28) (Jp_set (f := 7) (v := 1) (w := 1) j5 (by omega)) (by omega)) (by omega)
  have c9 : (sI (sI S5 210 7 1) 210 8 (S3.1 215 4)).1 215 4 = V5.1 280 28 := by rw [sI_ne (by omega), sI_ne (by omega), n5]
  have m9 : (sI (sI V5 280 36 1) 280 37 (V3.1 280 28)).1 280 28 = V5.1 280 28 := by rw [sI_nj (by omega), sI_nj (by omega)]
  rw [c9, m9, n3]
  exact Or.inr ⟨_, _, rfl, rfl, p5, j8, t8, by omega⟩
