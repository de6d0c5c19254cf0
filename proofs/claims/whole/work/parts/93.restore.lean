/-! restore: the shelves that show what is no more, on both sides -/
theorem ln_1 : ln 1 = 8 := by decide +kernel
def zgone (V : sU) (n : Int32) (s : Nat) : Prop := V.1 (264 + 2 * s) 1 = 2 ∧ ¬ V.1 (264 + 2 * s) 4 < n
theorem drop_c {V : sU} : ∃ W, f_155_35 FU 1 8 0 V = some (V.1 2 3, W) ∧ W.2 = V.2 ∧ (∀ b j, ¬ (264 ≤ b ∧ b < 280) → W.1 b j = V.1 b j) ∧ ∀ s, s < 8 → (zgone V (V.1 2 3) s → W.1 (264 + 2 * s) 1 = 0 ∧ W.1 (264 + 2 * s) 3 = 0) ∧ (¬ zgone V (V.1 2 3) s → ∀ j, W.1 (264 + 2 * s) j = V.1 (264 + 2 * s) j) ∧ ∀ j, W.1 (265 + 2 * s) j = V.1 (265 + 2 * s) j := by
  have e8 : (8 : Int32).toInt = 8 := rfl
  refine loop_ex (fun f (z : Int32 × sU) => f_155_35 f 1 8 z.1 z.2) (fun k z => z.1 = Int32.ofNat k ∧ z.2.2 = V.2 ∧ (∀ b j, ¬ (264 ≤ b ∧ b < 280) → z.2.1 b j = V.1 b j) ∧ ∀ s, s < 8 → (s < k → zgone V (V.1 2 3) s → z.2.1 (264 + 2 * s) 1 = 0 ∧ z.2.1 (264 + 2 * s) 3 = 0) ∧ ((¬ s < k ∨ ¬ zgone V (V.1 2 3) s) → ∀ j, z.2.1 (264 + 2 * s) j = V.1 (264 + 2 * s) j) ∧ ∀ j, z.2.1 (265 + 2 * s) j = V.1 (265 + 2 * s) j) (fun o => ∃ W, o = some (V.1 2 3, W) ∧ W.2 = V.2 ∧ (∀ b j, ¬ (264 ≤ b ∧ b < 280) → W.1 b j = V.1 b j) ∧ ∀ s, s < 8 → (zgone V (V.1 2 3) s → W.1 (264 + 2 * s) 1 = 0 ∧ W.1 (264 + 2 * s) 3 = 0) ∧ (¬ zgone V (V.1 2 3) s → ∀ j, W.1 (264 + 2 * s) j = V.1 (264 + 2 * s) j) ∧ ∀ j, W.1 (265 + 2 * s) j = V.1 (265 + 2 * s) j) 8 ?_ ?_ 8 0 FU (0, V) (by omega) (by unfold FU; omega) ⟨rfl, rfl, fun _ _ _ => rfl, fun s hs => ⟨fun q => by omega, fun _ _ => rfl, fun _ => rfl⟩⟩
  · rintro k ⟨c, Z⟩ f hk ⟨rfl, z1, z2, z3⟩
    dsimp only at z1 z2 z3 ⊢
    refine Or.inr ?_
    obtain ⟨p1, p2, p3⟩ := z3 k hk
    have pk := p2 (Or.inl (by omega))
    have r1 : rfA 1 14 k = 264 + 2 * k := rfl
    have e1 : f_81 (264 + 2 * k) Z = if V.1 (264 + 2 * k) 1 = 2 then 1 else 0 := by unfold f_81; rw [pk]
    have keep : ∀ (hn : ¬ zgone V (V.1 2 3) k), ∃ s' : Int32 × sU, (s'.1 = Int32.ofNat (k + 1) ∧ s'.2.2 = V.2 ∧ (∀ b j, ¬ (264 ≤ b ∧ b < 280) → s'.2.1 b j = V.1 b j) ∧ ∀ s, s < 8 → (s < k + 1 → zgone V (V.1 2 3) s → s'.2.1 (264 + 2 * s) 1 = 0 ∧ s'.2.1 (264 + 2 * s) 3 = 0) ∧ ((¬ s < k + 1 ∨ ¬ zgone V (V.1 2 3) s) → ∀ j, s'.2.1 (264 + 2 * s) j = V.1 (264 + 2 * s) j) ∧ ∀ j, s'.2.1 (265 + 2 * s) j = V.1 (265 + 2 * s) j) ∧ f_155_35 f 1 8 (Int32.ofNat (k + 1)) Z = f_155_35 f 1 8 s'.1 s'.2 := by
      intro hn
      refine ⟨(Int32.ofNat (k + 1), Z), ⟨rfl, z1, z2, fun s hs => ?_⟩, rfl⟩
      obtain ⟨g1, g2, g3⟩ := z3 s hs
      refine ⟨fun h1 h2 => ?_, fun h1 => ?_, g3⟩
      · by_cases e : s = k
        · subst e; exact absurd h2 hn
        · exact g1 (by omega) h2
      · by_cases e : s = k
        · subst e; exact g2 (Or.inr hn)
        · refine g2 ?_
          rcases h1 with h1 | h1
          · exact Or.inl (by omega)
          · exact Or.inr h1
    rw [f_155_35, if_neg (by rw [i32_le, e8, ofNat_int (by omega)]; omega), if_pos (ib_int.mpr (by rw [ofNat_int (by omega), ln_1]; omega) : ib (Int32.ofNat k) (ln 1)), ofNat_clamp (by omega), r1, ofNat_succ, e1, pk, z2 2 3 (by omega)]
    by_cases c1 : V.1 (264 + 2 * k) 1 = 2
    · rw [if_pos c1, if_neg (by decide)]
      by_cases c2 : V.1 (264 + 2 * k) 4 < V.1 2 3
      · rw [if_pos c2]
        exact keep (fun q => q.2 c2)
      · rw [if_neg c2]
        unfold f_83
        refine ⟨(Int32.ofNat (k + 1), sI (sI (sI Z (264 + 2 * k) 1 0) (264 + 2 * k) 3 0) (264 + 2 * k) 4 (-1)), ⟨rfl, z1, fun b j hb => ?_, fun s hs => ?_⟩, rfl⟩
        · dsimp only
          rw [sI_ne (by omega), sI_ne (by omega), sI_ne (by omega)]; exact z2 b j hb
        · dsimp only
          obtain ⟨g1, g2, g3⟩ := z3 s hs
          by_cases e : s = k
          · subst e
            refine ⟨fun _ _ => ⟨?_, ?_⟩, fun h1 => ?_, fun j => ?_⟩
            · rw [sI_nj (by omega), sI_nj (by omega), sI_at]
            · rw [sI_nj (by omega), sI_at]
            · rcases h1 with h1 | h1
              · exact absurd (by omega) h1
              · exact absurd ⟨c1, c2⟩ h1
            · rw [sI_ne (by omega), sI_ne (by omega), sI_ne (by omega)]; exact g3 j
          · refine ⟨fun h1 h2 => ?_, fun h1 j => ?_, fun j => ?_⟩
            · rw [sI_ne (by omega), sI_ne (by omega), sI_ne (by omega), sI_ne (by omega), sI_ne (by omega), sI_ne (by omega)]
              exact g1 (by omega) h2
            · rw [sI_ne (by omega), sI_ne (by omega), sI_ne (by omega)]
              refine g2 ?_ j
              rcases h1 with h1 | h1
              · exact Or.inl (by omega)
              · exact Or.inr h1
            · rw [sI_ne (by omega), sI_ne (by omega), sI_ne (by omega)]; exact g3 j
    · rw [if_neg c1, if_pos rfl]
      exact keep (fun q => c1 q.1)
  · rintro ⟨c, Z⟩ f ⟨rfl, z1, z2, z3⟩
    dsimp only at z1 z2 z3 ⊢
    rw [f_155_35, if_pos (by rw [i32_le]; exact Int.le_refl _), z2 2 3 (by omega)]
    refine ⟨Z, rfl, z1, z2, fun s hs => ?_⟩
    obtain ⟨g1, g2, g3⟩ := z3 s hs
    exact ⟨fun h => g1 hs h, fun h => g2 (Or.inr h), g3⟩
theorem drop_m {V : sU} : ∃ W, f_280_38 FU 0 V = some (V.1 280 1, W) ∧ W.2 = V.2 ∧ (∀ b j, b ≠ 282 → W.1 b j = V.1 b j) ∧ ∀ s, s < 8 → W.1 282 s = if V.1 282 s = 2 ∧ ¬ V.1 285 s < V.1 280 1 then 0 else V.1 282 s := by
  have e8 : (8 : Int32).toInt = 8 := rfl
  refine loop_ex (fun f (z : Int32 × sU) => f_280_38 f z.1 z.2) (fun k z => z.1 = Int32.ofNat k ∧ z.2.2 = V.2 ∧ (∀ b j, b ≠ 282 → z.2.1 b j = V.1 b j) ∧ ∀ s, s < 8 → z.2.1 282 s = if s < k ∧ V.1 282 s = 2 ∧ ¬ V.1 285 s < V.1 280 1 then 0 else V.1 282 s) (fun o => ∃ W, o = some (V.1 280 1, W) ∧ W.2 = V.2 ∧ (∀ b j, b ≠ 282 → W.1 b j = V.1 b j) ∧ ∀ s, s < 8 → W.1 282 s = if V.1 282 s = 2 ∧ ¬ V.1 285 s < V.1 280 1 then 0 else V.1 282 s) 8 ?_ ?_ 8 0 FU (0, V) (by omega) (by unfold FU; omega) ⟨rfl, rfl, fun _ _ _ => rfl, fun s hs => by rw [if_neg (fun q => by omega)]⟩
  · rintro k ⟨c, Z⟩ f hk ⟨rfl, z1, z2, z3⟩
    dsimp only at z1 z2 z3 ⊢
    refine Or.inr ?_
    have pk := z3 k hk
    rw [if_neg (fun q => by omega)] at pk
    have i8 : ib (Int32.ofNat k) 8 := ib_ofNat (by omega) hk
    have ck : (Int32.ofNat k).toNatClampNeg = k := ofNat_clamp (by omega)
    rw [f_280_38, if_neg (by rw [i32_le, e8, ofNat_int (by omega)]; omega)]
    simp only [if_pos i8, ck, ofNat_succ, pk, z2 285 _ (by omega : 285 ≠ 282), z2 280 _ (by omega : 280 ≠ 282)]
    have keep : ∀ (hn : ¬ (V.1 282 k = 2 ∧ ¬ V.1 285 k < V.1 280 1)), ∃ s' : Int32 × sU, (s'.1 = Int32.ofNat (k + 1) ∧ s'.2.2 = V.2 ∧ (∀ b j, b ≠ 282 → s'.2.1 b j = V.1 b j) ∧ ∀ s, s < 8 → s'.2.1 282 s = if s < k + 1 ∧ V.1 282 s = 2 ∧ ¬ V.1 285 s < V.1 280 1 then 0 else V.1 282 s) ∧ f_280_38 f (Int32.ofNat (k + 1)) Z = f_280_38 f s'.1 s'.2 := by
      intro hn
      refine ⟨(Int32.ofNat (k + 1), Z), ⟨rfl, z1, z2, fun s hs => ?_⟩, rfl⟩
      dsimp only
      rw [z3 s hs]
      by_cases e : s = k
      · subst e; rw [if_neg (fun q => by omega), if_neg (fun q => hn q.2)]
      · by_cases q : s < k ∧ V.1 282 s = 2 ∧ ¬ V.1 285 s < V.1 280 1
        · rw [if_pos q, if_pos ⟨by omega, q.2⟩]
        · rw [if_neg q, if_neg (fun r => q ⟨by omega, r.2⟩)]
    by_cases c1 : V.1 282 k = 2
    · rw [if_pos c1]
      by_cases c2 : V.1 285 k < V.1 280 1
      · rw [if_pos c2]
        exact keep (fun q => q.2 c2)
      · rw [if_neg c2]
        refine ⟨(Int32.ofNat (k + 1), sI Z 282 k 0), ⟨rfl, z1, fun b j hb => ?_, fun s hs => ?_⟩, rfl⟩
        · dsimp only
          rw [sI_ne hb]; exact z2 b j hb
        · dsimp only
          by_cases e : s = k
          · subst e; rw [sI_at, if_pos ⟨by omega, c1, c2⟩]
          · rw [sI_nj e, z3 s hs]
            by_cases q : s < k ∧ V.1 282 s = 2 ∧ ¬ V.1 285 s < V.1 280 1
            · rw [if_pos q, if_pos ⟨by omega, q.2⟩]
            · rw [if_neg q, if_neg (fun r => q ⟨by omega, r.2⟩)]
    · rw [if_neg c1]
      exact keep (fun q => c1 q.1)
  · rintro ⟨c, Z⟩ f ⟨rfl, z1, z2, z3⟩
    dsimp only at z1 z2 z3 ⊢
    rw [f_280_38, if_pos (by rw [i32_le]; exact Int.le_refl _), z2 280 1 (by omega)]
    refine ⟨Z, rfl, z1, z2, fun s hs => ?_⟩
    rw [z3 s hs]
    by_cases q : V.1 282 s = 2 ∧ ¬ V.1 285 s < V.1 280 1
    · rw [if_pos q, if_pos ⟨hs, q⟩]
    · rw [if_neg q, if_neg (fun r => q r.2)]
