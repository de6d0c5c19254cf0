/-! talk: a text on both sides -/
theorem parse {U V0 : sU} {s L : Nat} (hE : zEnv U V0 s L) (h3 : U.1 (264 + 2 * s) 3 = Int32.ofNat L) (g1 : V0.1 280 25 = Int32.ofNat (64 * s)) (g2 : V0.1 280 26 = 0) (g3 : V0.1 280 27 = Int32.ofNat L) : zEnd U V0 s L (f_14 215 (264 + 2 * s) 210 U) (f_203 V0) := by
  obtain ⟨S, c0, ⟨c1, c1'⟩, c2, c3, c4, c5⟩ := letters_c hE.1 h3 hE.2.1
  obtain ⟨d1, d2, d⟩ := cleared S
  obtain ⟨m1, m2, m⟩ := zM_fr V0
  unfold f_14 f_203
  rw [c0, Option.bind_some]
  show zEnd U V0 s L _ (Option.bind (f_191 115 (zM V0)) _)
  generalize f_99 210 S = S0 at d1 d2 d ⊢
  generalize zM V0 = M0 at m1 m2 m ⊢
  have hJ : Jp U V0 s L S0 M0 0 := by
    refine ⟨⟨d1.trans c1, fun b j q => ?_⟩, ⟨m1, fun b j q r t => m2 b j (by omega)⟩, ?_, ?_, ?_, fun j hj => ?_, ?_, ?_, ?_, Nat.zero_le _⟩
    · rw [d2 b j (by omega) (by omega) (by omega)]; exact c1' b j q
    · rw [d2 _ _ (by omega) (by omega) (by omega)]; exact c2
    · rw [d2 _ _ (by omega) (by omega) (by omega)]; exact c3
    · rw [d2 _ _ (by omega) (by omega) (by omega)]; exact c4
    · rw [d2 _ _ (by omega) (by omega) (by omega)]; exact c5 j hj
    · rw [m2 _ _ (by omega)]; exact g1
    · rw [m2 _ _ (by omega)]; exact g2
    · rw [m2 _ _ (by omega)]; exact g3
  have hT : Jt S0 M0 0 := by
    obtain ⟨a2, a3, a4, a5, a6, a7, a8, a9⟩ := d
    obtain ⟨b2, b3, b4, b5, b6, b7, b8, b9⟩ := m
    refine ⟨a2, b2, by omega, fun i hi => by omega, fun i hi => by omega, ⟨?_, ?_, ?_⟩, ⟨?_, ?_, ?_⟩, ⟨?_, ?_, ?_⟩, ⟨?_, ?_⟩, ⟨?_, ?_⟩, ⟨?_, ?_, ?_⟩, ⟨?_, ?_, ?_⟩⟩
    · rw [b3, a3]
    · rw [a3]; decide
    · rw [a3]; decide
    · rw [b4, a4]
    · rw [a4]; decide
    · rw [a4]; decide
    · rw [b5, a5]
    · rw [a5]; decide
    · rw [a5]; decide
    · rw [b6, a6]
    · exact Or.inl a6
    · rw [b7, a7]
    · exact Or.inl a7
    · rw [b8, a8]
    · rw [a8]; decide
    · rw [a8]; decide
    · rw [b9, a9]
    · rw [a9]; decide
    · rw [a9]; decide
  clear d1 d2 d m1 m2 m c0 c1 c1' c2 c3 c4 c5
  rcases one_letter hE hJ (x := 115) (by decide) with ⟨S1, V1, o1, o2, o3⟩ | ⟨S1, V1, o1, o2, j1, k1⟩
  · injection o1 with o1
    rw [so_0 o1, o2, Option.bind_some, Option.bind_some]
    dsimp only
    rw [if_pos rfl, if_pos rfl, stop_c fu0]
    exact Or.inl ⟨S1, V1, rfl, rfl, o3⟩
  injection o1 with o1
  rw [o2, Option.bind_some]
  dsimp only
  rw [if_neg n10]
  rcases one_letter hE j1 (x := 111) (by decide) with ⟨S2, V2, p1, p2, p3⟩ | ⟨S2, V2, p1, p2, j2, k2⟩
  · injection p1 with p1
    rw [so_1 o1 p1, p2, Option.bind_some, Option.bind_some]
    dsimp only
    rw [if_pos rfl, if_pos rfl, stop_c fu0]
    exact Or.inl ⟨S2, V2, rfl, rfl, p3⟩
  injection p1 with p1
  rw [p2, Option.bind_some]
  dsimp only
  rw [if_neg n10]
  rcases one_letter hE j2 (x := 32) (by decide) with ⟨S3, V3, q1, q2, q3⟩ | ⟨S3, V3, q1, q2, j3, k3⟩
  · injection q1 with q1
    rw [so_2 o1 p1 q1, q2, Option.bind_some, Option.bind_some]
    dsimp only
    rw [if_pos rfl, if_pos rfl, stop_c fu0]
    exact Or.inl ⟨S3, V3, rfl, rfl, q3⟩
  injection q1 with q1
  rw [so_3 o1 p1 q1, q2, Option.bind_some, Option.bind_some]
  dsimp only
  rw [if_neg n10, if_neg n10]
  have t3 := Jt_kp hT ((k1.tr k2).tr k3)
  unfold f_20
  rcases point hE j3 t3 (by omega) with ⟨S4, V4, r1, r2, r3⟩ | ⟨S4, V4, r1, r2, p4, j4, t4, l4⟩
  · rw [r1, r2, Option.bind_some, Option.bind_some]
    dsimp only
    rw [f208_0 fu0, Option.bind_some, if_pos rfl]
    dsimp only
    rw [if_pos rfl, stop_c fu0]
    exact Or.inl ⟨S4, V4, rfl, rfl, r3⟩
  · rw [r1, r2, Option.bind_some, Option.bind_some]
    dsimp only
    rw [if_neg n10]
    exact points hE 11 1 S4 V4 p4 FU FU (by omega) (by omega) (by have := fu66; omega) (by have := fu66; omega) j4 t4
