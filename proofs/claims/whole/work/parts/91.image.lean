/-! image and restore: the tables copied, on the reference's side -/
def zL : List (Nat × Nat) := [(288, 8), (289, 8), (290, 8), (291, 8), (292, 8), (293, 8), (294, 8), (295, 8), (296, 96), (297, 96), (298, 12), (299, 12), (300, 12), (301, 144), (302, 144)]
def zcp (m : Int32) : List (Nat × Nat) → Int32 → sU → Option sU
  | [], _, U => some U
  | (a, n) :: l, o, U => (f_277 a (Int32.ofNat n) o m U).bind fun q => zcp m l q.1 q.2
theorem f278_eq (m : Int32) (U : sU) : f_278 m U = zcp m zL 0 U := by
  unfold f_278 zL
  rfl
def zsum : List (Nat × Nat) → Nat
  | [] => 0
  | (_, n) :: l => n + zsum l
/-- the tables of the list stand in V's 313 from o on, as they were in U -/
def zin (U V : sU) : List (Nat × Nat) → Nat → Prop
  | [], _ => True
  | (a, n) :: l, o => (∀ i, i < n → V.1 313 (o + i) = U.1 a i) ∧ zin U V l (o + n)
def zout (U V : sU) : List (Nat × Nat) → Nat → Prop
  | [], _ => True
  | (a, n) :: l, o => (∀ i, i < n → V.1 a i = U.1 313 (o + i)) ∧ zout U V l (o + n)
theorem t277 {a n o : Nat} {U : sU} (ha : a ≠ 313) (hn : n ≤ ln a) (h : o + n ≤ 580) (hm : n ≤ 144) : ∃ V, f_277 a (Int32.ofNat n) (Int32.ofNat o) 0 U = some (Int32.ofNat (o + n), V) ∧ V.2 = U.2 ∧ (∀ i, i < n → V.1 313 (o + i) = U.1 a i) ∧ ∀ b j, ¬ (b = 313 ∧ o ≤ j ∧ j < o + n) → V.1 b j = U.1 b j := by
  have on : ∀ i : Nat, i ≤ 144 → (Int32.ofNat o + Int32.ofNat i).toInt = o + i := fun i hi => by rw [a32 (by rw [ofNat_int (by omega), ofNat_int (by omega)]; omega) (by rw [ofNat_int (by omega), ofNat_int (by omega)]; omega), ofNat_int (by omega), ofNat_int (by omega)]
  unfold f_277
  refine loop_ex (fun f (z : Int32 × sU) => f_277_3 f a (Int32.ofNat n) (Int32.ofNat o) 0 z.1 z.2) (fun k z => z.1 = Int32.ofNat k ∧ z.2.2 = U.2 ∧ (∀ i, i < k → z.2.1 313 (o + i) = U.1 a i) ∧ ∀ b j, ¬ (b = 313 ∧ o ≤ j ∧ j < o + k) → z.2.1 b j = U.1 b j) (fun r => ∃ V, r = some (Int32.ofNat (o + n), V) ∧ V.2 = U.2 ∧ (∀ i, i < n → V.1 313 (o + i) = U.1 a i) ∧ ∀ b j, ¬ (b = 313 ∧ o ≤ j ∧ j < o + n) → V.1 b j = U.1 b j) n ?_ ?_ n 0 FU (0, U) (by omega) (by unfold FU; omega) ⟨rfl, rfl, fun i hi => by omega, fun _ _ _ => rfl⟩
  · rintro k ⟨c, Z⟩ f hk ⟨rfl, z1, z2, z3⟩
    dsimp only at z1 z2 z3 ⊢
    refine Or.inr ?_
    have oc : (Int32.ofNat o + Int32.ofNat k).toNatClampNeg = o + k := by have := on k (by omega); rw [clamp_int, this]; omega
    rw [f_277_3, if_neg (fun q => by have := (ofNat_le (by omega) (by omega)).mp q; omega), if_pos rfl, if_pos (ib_int.mpr (by rw [ofNat_int (by omega)]; omega) : ib (Int32.ofNat k) (ln a)), if_pos (ib_int.mpr (by rw [on k (by omega)]; omega)), oc, ofNat_clamp (by omega), ofNat_succ]
    refine ⟨(Int32.ofNat (k + 1), sI Z 313 (o + k) (Z.1 a k)), ⟨rfl, z1, fun i hi => ?_, fun b j hb => ?_⟩, rfl⟩
    · dsimp only
      by_cases e : i = k
      · subst e; rw [sI_at]; exact z3 _ _ (by omega)
      · rw [sI_nj (by omega)]; exact z2 i (by omega)
    · dsimp only
      by_cases e : b = 313
      · subst e; rw [sI_nj (by omega)]; exact z3 _ _ (by omega)
      · rw [sI_ne e]; exact z3 _ _ (by omega)
  · rintro ⟨c, Z⟩ f ⟨rfl, z1, z2, z3⟩
    dsimp only at z1 z2 z3 ⊢
    rw [f_277_3, if_pos ((ofNat_le (by omega) (by omega)).mpr (Nat.le_refl _))]
    refine ⟨Z, ?_, z1, z2, z3⟩
    congr 2
    apply Int32.toInt_inj.mp
    rw [on n hm, ofNat_int (by omega)]
    omega
theorem u277 {a n o : Nat} {U : sU} (ha : a ≠ 313) (hn : n ≤ ln a) (h : o + n ≤ 580) (hm : n ≤ 144) : ∃ V, f_277 a (Int32.ofNat n) (Int32.ofNat o) 1 U = some (Int32.ofNat (o + n), V) ∧ V.2 = U.2 ∧ (∀ i, i < n → V.1 a i = U.1 313 (o + i)) ∧ ∀ b j, b ≠ a → V.1 b j = U.1 b j := by
  have on : ∀ i : Nat, i ≤ 144 → (Int32.ofNat o + Int32.ofNat i).toInt = o + i := fun i hi => by rw [a32 (by rw [ofNat_int (by omega), ofNat_int (by omega)]; omega) (by rw [ofNat_int (by omega), ofNat_int (by omega)]; omega), ofNat_int (by omega), ofNat_int (by omega)]
  unfold f_277
  refine loop_ex (fun f (z : Int32 × sU) => f_277_3 f a (Int32.ofNat n) (Int32.ofNat o) 1 z.1 z.2) (fun k z => z.1 = Int32.ofNat k ∧ z.2.2 = U.2 ∧ (∀ i, i < k → z.2.1 a i = U.1 313 (o + i)) ∧ ∀ b j, b ≠ a → z.2.1 b j = U.1 b j) (fun r => ∃ V, r = some (Int32.ofNat (o + n), V) ∧ V.2 = U.2 ∧ (∀ i, i < n → V.1 a i = U.1 313 (o + i)) ∧ ∀ b j, b ≠ a → V.1 b j = U.1 b j) n ?_ ?_ n 0 FU (0, U) (by omega) (by unfold FU; omega) ⟨rfl, rfl, fun i hi => by omega, fun _ _ _ => rfl⟩
  · rintro k ⟨c, Z⟩ f hk ⟨rfl, z1, z2, z3⟩
    dsimp only at z1 z2 z3 ⊢
    refine Or.inr ?_
    have oc : (Int32.ofNat o + Int32.ofNat k).toNatClampNeg = o + k := by have := on k (by omega); rw [clamp_int, this]; omega
    rw [f_277_3, if_neg (fun q => by have := (ofNat_le (by omega) (by omega)).mp q; omega), if_neg (by decide), if_pos (ib_int.mpr (by rw [on k (by omega)]; omega)), if_pos (ib_int.mpr (by rw [ofNat_int (by omega)]; omega) : ib (Int32.ofNat k) (ln a)), oc, ofNat_clamp (by omega), ofNat_succ]
    refine ⟨(Int32.ofNat (k + 1), sI Z a k (Z.1 313 (o + k))), ⟨rfl, z1, fun i hi => ?_, fun b j hb => ?_⟩, rfl⟩
    · dsimp only
      by_cases e : i = k
      · subst e; rw [sI_at]; exact z3 _ _ (fun q => ha q.symm)
      · rw [sI_nj (by omega)]; exact z2 i (by omega)
    · dsimp only
      rw [sI_ne hb]; exact z3 _ _ hb
  · rintro ⟨c, Z⟩ f ⟨rfl, z1, z2, z3⟩
    dsimp only at z1 z2 z3 ⊢
    rw [f_277_3, if_pos ((ofNat_le (by omega) (by omega)).mpr (Nat.le_refl _))]
    refine ⟨Z, ?_, z1, z2, z3⟩
    congr 2
    apply Int32.toInt_inj.mp
    rw [on n hm, ofNat_int (by omega)]
    omega
theorem zin_src {U V W : sU} : ∀ (l : List (Nat × Nat)) (o : Nat), (∀ p, p ∈ l → ∀ j, U.1 p.1 j = W.1 p.1 j) → zin U V l o → zin W V l o := by
  intro l
  induction l with
  | nil => intro o _ _; exact trivial
  | cons p l ih =>
    obtain ⟨a, n⟩ := p
    intro o h k
    exact ⟨fun i hi => (k.1 i hi).trans (h (a, n) (List.mem_cons_self) i), ih (o + n) (fun p hp => h p (List.mem_cons_of_mem _ hp)) k.2⟩
theorem zcp_in : ∀ (l : List (Nat × Nat)) (o : Nat) (U : sU), (∀ p, p ∈ l → p.1 ≠ 313 ∧ p.2 ≤ ln p.1 ∧ p.2 ≤ 144) → o + zsum l ≤ 580 → ∃ V, zcp 0 l (Int32.ofNat o) U = some V ∧ V.2 = U.2 ∧ zin U V l o ∧ ∀ b j, ¬ (b = 313 ∧ o ≤ j) → V.1 b j = U.1 b j := by
  intro l
  induction l with
  | nil => intro o U _ _; exact ⟨U, rfl, rfl, trivial, fun _ _ _ => rfl⟩
  | cons p l ih =>
    obtain ⟨a, n⟩ := p
    intro o U h hs
    have hs' : o + (n + zsum l) ≤ 580 := hs
    obtain ⟨h1, h2, h3⟩ := h (a, n) List.mem_cons_self
    obtain ⟨W, w1, w2, w3, w4⟩ := t277 (a := a) (n := n) (o := o) (U := U) h1 h2 (by omega) h3
    obtain ⟨V, v1, v2, v3, v4⟩ := ih (o + n) W (fun p hp => h p (List.mem_cons_of_mem _ hp)) (by omega)
    refine ⟨V, ?_, v2.trans w2, ⟨fun i hi => ?_, ?_⟩, fun b j hb => ?_⟩
    · show (f_277 a (Int32.ofNat n) (Int32.ofNat o) 0 U).bind (fun q => zcp 0 l q.1 q.2) = _
      rw [w1, Option.bind_some]; exact v1
    · rw [v4 _ _ (by omega)]; exact w3 i hi
    · exact zin_src l (o + n) (fun p hp j => w4 _ _ (fun q => (h p (List.mem_cons_of_mem _ hp)).1 q.1)) v3
    · rw [v4 _ _ (by omega)]; exact w4 _ _ (by omega)
theorem zout_src {U V W : sU} : ∀ (l : List (Nat × Nat)) (o : Nat), (∀ j, U.1 313 j = W.1 313 j) → zout U V l o → zout W V l o := by
  intro l
  induction l with
  | nil => intro o _ _; exact trivial
  | cons p l ih =>
    obtain ⟨a, n⟩ := p
    intro o h k
    exact ⟨fun i hi => (k.1 i hi).trans (h _), ih (o + n) h k.2⟩
theorem zcp_out : ∀ (l : List (Nat × Nat)) (o : Nat) (U : sU), (∀ p, p ∈ l → p.1 ≠ 313 ∧ p.2 ≤ ln p.1 ∧ p.2 ≤ 144) → l.Pairwise (fun p q => p.1 ≠ q.1) → o + zsum l ≤ 580 → ∃ V, zcp 1 l (Int32.ofNat o) U = some V ∧ V.2 = U.2 ∧ zout U V l o ∧ ∀ b j, (∀ p, p ∈ l → b ≠ p.1) → V.1 b j = U.1 b j := by
  intro l
  induction l with
  | nil => intro o U _ _ _; exact ⟨U, rfl, rfl, trivial, fun _ _ _ => rfl⟩
  | cons p l ih =>
    obtain ⟨a, n⟩ := p
    intro o U h hp hs
    have hs' : o + (n + zsum l) ≤ 580 := hs
    obtain ⟨h1, h2, h3⟩ := h (a, n) List.mem_cons_self
    obtain ⟨p1, p2⟩ := List.pairwise_cons.mp hp
    obtain ⟨W, w1, w2, w3, w4⟩ := u277 (a := a) (n := n) (o := o) (U := U) h1 h2 (by omega) h3
    obtain ⟨V, v1, v2, v3, v4⟩ := ih (o + n) W (fun p hp => h p (List.mem_cons_of_mem _ hp)) p2 (by omega)
    refine ⟨V, ?_, v2.trans w2, ⟨fun i hi => ?_, ?_⟩, fun b j hb => ?_⟩
    · show (f_277 a (Int32.ofNat n) (Int32.ofNat o) 1 U).bind (fun q => zcp 1 l q.1 q.2) = _
      rw [w1, Option.bind_some]; exact v1
    · rw [v4 a i (fun p hp => p1 p hp)]; exact w3 i hi
    · exact zout_src l (o + n) (fun j => w4 _ _ (fun q => h1 q.symm)) v3
    · rw [v4 b j (fun p hp => hb p (List.mem_cons_of_mem _ hp))]; exact w4 _ _ (hb (a, n) List.mem_cons_self)
theorem zL_ok : (∀ p, p ∈ zL → p.1 ≠ 313 ∧ p.2 ≤ ln p.1 ∧ p.2 ≤ 144) ∧ zL.Pairwise (fun p q => p.1 ≠ q.1) ∧ zsum zL = 580 ∧ ∀ p, p ∈ zL → 288 ≤ p.1 ∧ p.1 ≤ 302 := by decide +kernel
