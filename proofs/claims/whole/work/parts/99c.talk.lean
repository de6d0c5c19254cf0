/-! talk: the rules behind the points -/
theorem Jt_set {S V : sU} {n f : Nat} {v : Int32} (h : Jt S V n) (hf : 3 ≤ f ∧ f ≤ 9) (r1 : f = 3 ∨ f = 4 ∨ f = 8 ∨ f = 9 → -500 ≤ v.toInt ∧ v.toInt ≤ 500) (r2 : f = 5 → 1 ≤ v.toInt ∧ v.toInt ≤ 12) (r3 : f = 6 ∨ f = 7 → v = 0 ∨ v = 1) : Jt (sI S 210 f v) (sI V 280 (29 + f) v) n := by
  obtain ⟨h1, h2, h3, h4, h5, f3, f4, f5, f6, f7, f8, f9⟩ := h
  have F : ∀ j, (sI S 210 f v).1 210 j = if j = f then v else S.1 210 j := fun j => by
    by_cases e : j = f
    · subst e; rw [sI_at, if_pos rfl]
    · rw [sI_nj e, if_neg e]
  have G : ∀ j k, k = 29 + j → (sI V 280 (29 + f) v).1 280 k = if j = f then v else V.1 280 k := fun j k hk => by
    subst hk
    by_cases e : j = f
    · subst e; rw [sI_at, if_pos rfl]
    · rw [sI_nj (by omega), if_neg e]
  have X : ∀ b j, b ≠ 210 → (sI S 210 f v).1 b j = S.1 b j := fun b j hb => sI_ne hb
  have Y : ∀ b j, b ≠ 280 → (sI V 280 (29 + f) v).1 b j = V.1 b j := fun b j hb => sI_ne hb
  refine ⟨?_, ?_, h3, fun i hi => ?_, fun i hi => ?_, ?_, ?_, ?_, ?_, ?_, ?_, ?_⟩
  · rw [F, if_neg (by omega)]; exact h1
  · rw [sI_nj (by omega)]; exact h2
  · rw [X _ _ (by omega), X _ _ (by omega), Y _ _ (by omega), Y _ _ (by omega)]; exact h4 i hi
  · rw [X _ _ (by omega), X _ _ (by omega)]; exact h5 i hi
  · rw [F 3, G 3 32 rfl]
    by_cases e : 3 = f
    · rw [if_pos e, if_pos e]; exact ⟨rfl, r1 (by omega)⟩
    · rw [if_neg e, if_neg e]; exact f3
  · rw [F 4, G 4 33 rfl]
    by_cases e : 4 = f
    · rw [if_pos e, if_pos e]; exact ⟨rfl, r1 (by omega)⟩
    · rw [if_neg e, if_neg e]; exact f4
  · rw [F 5, G 5 34 rfl]
    by_cases e : 5 = f
    · rw [if_pos e, if_pos e]; exact ⟨rfl, r2 (by omega)⟩
    · rw [if_neg e, if_neg e]; exact f5
  · rw [F 6, G 6 35 rfl]
    by_cases e : 6 = f
    · rw [if_pos e, if_pos e]; exact ⟨rfl, r3 (by omega)⟩
    · rw [if_neg e, if_neg e]; exact f6
  · rw [F 7, G 7 36 rfl]
    by_cases e : 7 = f
    · rw [if_pos e, if_pos e]; exact ⟨rfl, r3 (by omega)⟩
    · rw [if_neg e, if_neg e]; exact f7
  · rw [F 8, G 8 37 rfl]
    by_cases e : 8 = f
    · rw [if_pos e, if_pos e]; exact ⟨rfl, r1 (by omega)⟩
    · rw [if_neg e, if_neg e]; exact f8
  · rw [F 9, G 9 38 rfl]
    by_cases e : 9 = f
    · rw [if_pos e, if_pos e]; exact ⟨rfl, r1 (by omega)⟩
    · rw [if_neg e, if_neg e]; exact f9
theorem Jp_set {U V0 S V : sU} {s L p f : Nat} {v w : Int32} (h : Jp U V0 s L S V p) (hf : 3 ≤ f ∧ f ≤ 9) : Jp U V0 s L (sI S 210 f v) (sI V 280 (29 + f) w) p := by
  refine Jp_in h rfl (fun b j q => sI_ne (by omega)) rfl (fun b j q r t => ?_)
  by_cases e : b = 280
  · subst e; exact sI_nj (by omega)
  · exact sI_ne e
theorem letter_q {U V0 S V : sU} {s L p q : Nat} (hE : zEnv U V0 s L) (h : Jp U V0 s L S V p) (hq : q < 1000) : iget 216 (Int32.ofNat q) S = zT U s L q := by
  obtain ⟨_, hL, _⟩ := hE
  obtain ⟨_, _, _, h2, _, h4, _, _, _, hp⟩ := h
  unfold iget
  rw [ln_217]
  by_cases c : q < 64
  · rw [if_pos (ib_ofNat (by omega) c), ofNat_clamp (by omega)]; exact h4 q c
  · rw [if_neg (fun r => by have := ib_int.mp r; rw [ofNat_int (by omega)] at this; omega)]
    unfold zT
    rw [if_neg (by omega)]
theorem yes_c {U V0 S V : sU} {s L p : Nat} {x : Int32} (hE : zEnv U V0 s L) (h : Jp U V0 s L S V p) (hx : x ≠ 0) (hp : p < L) (e : rW U s p = x) : f_18 215 x S = (1, sI S 215 2 (S.1 215 2 + 1)) := by
  unfold f_18
  rw [f16_eq hE h hx, if_pos (⟨hp, e⟩ : p < L ∧ rW U s p = x), if_neg n10]
theorem txt_yes {U V0 S V : sU} {s L p v k n : Nat} {G : Int32 × sU → Option (Int32 × sU)} (hE : zEnv U V0 s L) (h : Jp U V0 s L S V p) (hl : (sm_tx (v - 1000)).length < 1000) (hk : k < (sm_tx (v - 1000)).length) (hx : Int32.ofNat ((sm_tx (v - 1000)).getD k 0) ≠ 0) (hp : p < L) (e : rW U s p = Int32.ofNat ((sm_tx (v - 1000)).getD k 0)) : Option.bind (f_19_2 (n + 1) 215 v (Int32.ofNat k) S) G = Option.bind (f_19_2 n 215 v (Int32.ofNat (k + 1)) (sI S 215 2 (S.1 215 2 + 1))) G := by
  rw [f_19_2, if_neg (fun q => by have := (ofNat_le (by omega) (by omega)).mp q; omega), if_pos (ib_ofNat (by omega) hk), ofNat_clamp (by omega), yes_c hE h hx hp e, ofNat_succ]
  dsimp only
  rw [if_neg n10]
theorem Out.wrap {U V0 : sU} {c m : Option (Int32 × sU)} {Q : sU → sU → Prop} (k : Out U V0 c m Q) : Out U V0 c (Option.bind m fun q => if q.1 = 0 then some (0, q.2) else some (1, q.2)) Q := by
  rcases k with ⟨S, V, h1, rfl, hb⟩ | ⟨S, V, h1, rfl, hb⟩
  · exact Or.inl ⟨S, V, h1, rfl, hb⟩
  · exact Or.inr ⟨S, V, h1, rfl, hb⟩
theorem Out.eta {U V0 : sU} {c m : Option (Int32 × sU)} {Q : sU → sU → Prop} (k : Out U V0 c m Q) : Out U V0 c (Option.bind m fun q => some (q.1, q.2)) Q := by
  rcases k with ⟨S, V, h1, rfl, hb⟩ | ⟨S, V, h1, rfl, hb⟩
  · exact Or.inl ⟨S, V, h1, rfl, hb⟩
  · exact Or.inr ⟨S, V, h1, rfl, hb⟩
/-- one letter, and on with what follows, where the class matches on a pair -/
theorem then_out {U V0 S V : sU} {s L p : Nat} {x : Int32} {g h' : sU → Option (Int32 × sU)} {R : sU → sU → Prop} (hE : zEnv U V0 s L) (h : Jp U V0 s L S V p) (hx : x ≠ 0) (k : ∀ S' V', Jp U V0 s L S' V' (p + 1) → Kp S V S' V' → Out U V0 (g S') (h' V') R) : Out U V0 (match f_18 215 x S with | (q4, W5) => if q4 = 0 then some (0, W5) else g W5) (Option.bind (f_191 x V) fun q => if q.1 = 0 then some (0, q.2) else h' q.2) R := by
  rcases one_letter hE h hx with ⟨S1, V1, o1, o2, o3⟩ | ⟨S1, V1, o1, o2, o3, o4⟩
  · injection o1 with o1
    rw [o1, o2]
    exact Or.inl ⟨S1, V1, rfl, rfl, o3⟩
  · injection o1 with o1
    rw [o1, o2]
    exact k S1 V1 o3 o4
