/-! what class and reference have in common between two calls -/
def vTalk (n : Nat) (F : Nat → Int32) (X C : Nat → Int32) : Prop :=
  F 0 = Int32.ofNat n ∧ 1 ≤ n ∧ n ≤ 12 ∧ (-500 ≤ (F 1).toInt ∧ (F 1).toInt ≤ 500) ∧ (-500 ≤ (F 2).toInt ∧ (F 2).toInt ≤ 500) ∧ (1 ≤ (F 3).toInt ∧ (F 3).toInt ≤ 12) ∧ (F 4 = 0 ∨ F 4 = 1) ∧ (F 5 = 0 ∨ F 5 = 1) ∧ (-500 ≤ (F 6).toInt ∧ (F 6).toInt ≤ 500) ∧ (-500 ≤ (F 7).toInt ∧ (F 7).toInt ≤ 500) ∧
  (∀ i, i < n → 0 ≤ (X i).toInt ∧ (X i).toInt ≤ 999 ∧ 1 ≤ (C i).toInt ∧ (C i).toInt ≤ 99) ∧ (∀ i, i + 1 < n → (X i).toInt < (X (i + 1)).toInt)
def rTalk (F X C F' X' C' : Nat → Int32) : Prop := ∃ n, vTalk n F X C ∧ (∀ f, f < 8 → F' f = F f) ∧ (∀ i, i < n → X' i = X i ∧ C' i = C i)
/-- a meaning: FT is the fields of its talk -/
def rMean (nT : Nat) (FT : Nat → Nat → Int32) (k tk cl : Int32) (W D : Nat → Int32) (k' tk' cl' : Int32) (W' D' : Nat → Int32) : Prop :=
  k' = k ∧ tk' = tk ∧ (0 ≤ k.toInt ∧ k.toInt ≤ 5) ∧ (k = 2 → cl' = cl ∧ 0 ≤ cl.toInt ∧ cl.toInt ≤ 100) ∧ (∃ t, t < nT ∧ tk = Int32.ofNat t ∧ ∀ i : Nat, i < (FT t 0).toNatClampNeg → W' i = W i ∧ 0 ≤ (W i).toInt ∧ (W i).toInt < (FT t 3).toInt) ∧ (∀ i : Nat, i < 12 → D' i = D i ∧ 0 ≤ (D i).toInt ∧ (D i).toInt ≤ 999)
/-- a store of the class against its likeness in the reference: what that holds as fields, xs, chances, talk, kind, clear, words, told -/
def rStore (U : sU) (B nT nM : Nat) (F : Nat → Nat → Int32) (X C MT MK ML MW MD : Nat → Int32) : Prop :=
  U.1 B 2 = Int32.ofNat nT ∧ U.1 B 3 = Int32.ofNat nM ∧ nT ≤ 8 ∧ nM ≤ 12 ∧
  (∀ t, t < nT → rTalk (fun f => U.1 (B + 3 + 5 * t) (2 + f)) (U.1 (B + 5 + 5 * t)) (U.1 (B + 7 + 5 * t)) (fun f => F f t) (fun i => X (12 * t + i)) (fun i => C (12 * t + i))) ∧
  (∀ m, m < nM → rMean nT (fun t f => U.1 (B + 3 + 5 * t) (2 + f)) (U.1 (B + 43 + 5 * m) 2) (U.1 (B + 43 + 5 * m) 3) (U.1 (B + 43 + 5 * m) 4) (U.1 (B + 45 + 5 * m)) (U.1 (B + 47 + 5 * m)) (MK m) (MT m) (ML m) (fun i => MW (12 * m + i)) (fun i => MD (12 * m + i)))
def rNow (U : sU) (nT nM : Nat) : Prop := rStore U 2 nT nM (fun f t => U.1 (288 + f) t) (U.1 296) (U.1 297) (U.1 298) (U.1 299) (U.1 300) (U.1 301) (U.1 302) ∧ U.1 280 0 = Int32.ofNat nT ∧ U.1 280 1 = Int32.ofNat nM
def rKept (U : sU) (nT nM : Nat) : Prop := rStore U 105 nT nM (fun f t => U.1 313 (8 * f + t)) (fun i => U.1 313 (64 + i)) (fun i => U.1 313 (160 + i)) (fun i => U.1 313 (256 + i)) (fun i => U.1 313 (268 + i)) (fun i => U.1 313 (280 + i)) (fun i => U.1 313 (292 + i)) (fun i => U.1 313 (436 + i)) ∧ U.1 280 54 = Int32.ofNat nT ∧ U.1 280 55 = Int32.ofNat nM
def rShelf (U : sU) (nM s : Nat) : Prop :=
  (U.1 (264 + 2 * s) 1 = 0 ∧ U.1 282 s = 0 ∧ U.1 (264 + 2 * s) 3 = 0) ∨
  (U.1 (264 + 2 * s) 1 = 1 ∧ U.1 282 s = 1 ∧ ∃ o n, o < 4 ∧ n ≤ 64 ∧ U.1 (264 + 2 * s) 2 = Int32.ofNat o ∧ U.1 283 s = Int32.ofNat o ∧ U.1 (264 + 2 * s) 3 = Int32.ofNat n ∧ U.1 284 s = Int32.ofNat n ∧ ∀ i, i < 64 → U.2.1 286 (64 * s + i) = U.2.1 (265 + 2 * s) i) ∨
  (U.1 (264 + 2 * s) 1 = 2 ∧ U.1 282 s = 2 ∧ U.1 (264 + 2 * s) 3 = 0 ∧ ∃ m, m < nM ∧ U.1 (264 + 2 * s) 4 = Int32.ofNat m ∧ U.1 285 s = Int32.ofNat m)
def rShelves (U : sU) (nM : Nat) : Prop := ∀ s, s < 8 → rShelf U nM s
def rRefs (U : sU) : Prop := ∀ i, i < 8 → U.1 281 i = U.1 209 i
def rBody (U : sU) : Prop := U.1 280 53 = U.1 261 4 ∧ (0 ≤ (U.1 261 4).toInt ∧ (U.1 261 4).toInt ≤ 20) ∧ ∀ i, i < 20 → U.1 312 i = U.1 263 i
def rImg (U : sU) : Prop := ((U.1 0 3 = 0 ∧ U.1 280 54 = -1) ∨ (U.1 0 3 = 1 ∧ ∃ nT nM, rKept U nT nM)) ∧ (∀ t, t < 8 → U.1 (5 + 5 * t) 7 = 0 ∨ U.1 (5 + 5 * t) 7 = 1) ∧ (∀ t, t < 8 → U.1 (108 + 5 * t) 7 = 0 ∨ U.1 (108 + 5 * t) 7 = 1)
def InvN (nT nM : Nat) (U : sU) : Prop := rNow U nT nM ∧ rShelves U nM ∧ rRefs U ∧ U.1 280 2 = U.1 0 5 ∧ rBody U ∧ rImg U
def Inv (U : sU) : Prop := ∃ nT nM, InvN nT nM U
/-- places that no call's answer hangs on, between two calls -/
def scr (a j : Nat) : Prop := (210 ≤ a ∧ a < 261) ∨ a = 287 ∨ (303 ≤ a ∧ a < 312) ∨ (a = 280 ∧ 25 ≤ j ∧ j < 53)
def Same (U V : sU) : Prop := (∀ a j, ¬ scr a j → V.1 a j = U.1 a j) ∧ (∀ a j, ¬ scr a j → V.2.1 a j = U.2.1 a j)
theorem Same.rf (U : sU) : Same U U := ⟨fun _ _ _ => rfl, fun _ _ _ => rfl⟩
theorem Same.tr {U V W : sU} (h : Same U V) (k : Same V W) : Same U W := ⟨fun a j q => (k.1 a j q).trans (h.1 a j q), fun a j q => (k.2 a j q).trans (h.2 a j q)⟩
theorem Same.sI {U V : sU} (h : Same U V) {a i : Nat} (v : Int32) (q : scr a i) : Same U (sI V a i v) := by
  refine ⟨fun b j hb => ?_, fun b j hb => h.2 b j hb⟩
  show (if b = a then (if j = i then v else V.1 b j) else V.1 b j) = _
  by_cases h1 : b = a
  · rw [if_pos h1]
    by_cases h2 : j = i
    · subst h1 h2; exact absurd q hb
    · rw [if_neg h2]; exact h.1 b j hb
  · rw [if_neg h1]; exact h.1 b j hb
theorem Same.sJ {U V : sU} (h : Same U V) {a i : Nat} (v : Int64) (q : scr a i) : Same U (sJ V a i v) := by
  refine ⟨fun b j hb => h.1 b j hb, fun b j hb => ?_⟩
  show (if b = a then (if j = i then v else V.2.1 b j) else V.2.1 b j) = _
  by_cases h1 : b = a
  · rw [if_pos h1]
    by_cases h2 : j = i
    · subst h1 h2; exact absurd q hb
    · rw [if_neg h2]; exact h.2 b j hb
  · rw [if_neg h1]; exact h.2 b j hb
theorem Same.sK {U V : sU} (h : Same U V) (a t : Nat) : Same U (sK V a t) := ⟨h.1, h.2⟩
theorem rTalk_congr {F X C F' X' C' G Y E G' Y' E' : Nat → Int32} (h1 : ∀ f, f < 8 → G f = F f) (h2 : ∀ i, i < 12 → Y i = X i) (h3 : ∀ i, i < 12 → E i = C i) (h4 : ∀ f, f < 8 → G' f = F' f) (h5 : ∀ i, i < 12 → Y' i = X' i) (h6 : ∀ i, i < 12 → E' i = C' i) (h : rTalk F X C F' X' C') : rTalk G Y E G' Y' E' := by
  obtain ⟨n, hv, hf, hx⟩ := h
  unfold vTalk at hv
  obtain ⟨v1, v2, v3, v4, v5, v6, v7, v8, v9, v10, v11, v12⟩ := hv
  refine ⟨n, ⟨?_, v2, v3, ?_, ?_, ?_, ?_, ?_, ?_, ?_, ?_, ?_⟩, ?_, ?_⟩
  · rw [h1 0 (by omega)]; exact v1
  · rw [h1 1 (by omega)]; exact v4
  · rw [h1 2 (by omega)]; exact v5
  · rw [h1 3 (by omega)]; exact v6
  · rw [h1 4 (by omega)]; exact v7
  · rw [h1 5 (by omega)]; exact v8
  · rw [h1 6 (by omega)]; exact v9
  · rw [h1 7 (by omega)]; exact v10
  · intro i hi
    rw [h2 i (by omega), h3 i (by omega)]; exact v11 i hi
  · intro i hi
    rw [h2 i (by omega), h2 (i + 1) (by omega)]; exact v12 i hi
  · intro f hf'
    rw [h4 f hf', h1 f hf']; exact hf f hf'
  · intro i hi
    rw [h5 i (by omega), h6 i (by omega), h2 i (by omega), h3 i (by omega)]; exact hx i hi
/-- a store whose places are the same is a store as before -/
theorem rStore_congr {U V : sU} {B nT nM : Nat} {F G : Nat → Nat → Int32} {X C MT MK ML MW MD Y E NT NK NL NW ND : Nat → Int32} (hB : ∀ a j, B ≤ a → a < B + 103 → V.1 a j = U.1 a j) (hF : ∀ f t, f < 8 → t < 8 → G f t = F f t) (hX : ∀ i, i < 96 → Y i = X i) (hC : ∀ i, i < 96 → E i = C i) (h1 : ∀ i, i < 12 → NT i = MT i) (h2 : ∀ i, i < 12 → NK i = MK i) (h3 : ∀ i, i < 12 → NL i = ML i) (h4 : ∀ i, i < 144 → NW i = MW i) (h5 : ∀ i, i < 144 → ND i = MD i)
    (h : rStore U B nT nM F X C MT MK ML MW MD) : rStore V B nT nM G Y E NT NK NL NW ND := by
  obtain ⟨c1, c2, c3, c4, ht, hm⟩ := h
  refine ⟨by rw [hB B 2 (by omega) (by omega)]; exact c1, by rw [hB B 3 (by omega) (by omega)]; exact c2, c3, c4, ?_, ?_⟩
  · intro t hlt
    refine rTalk_congr ?_ ?_ ?_ ?_ ?_ ?_ (ht t hlt)
    · intro f hf; exact hB _ _ (by omega) (by omega)
    · intro i hi; exact hB _ _ (by omega) (by omega)
    · intro i hi; exact hB _ _ (by omega) (by omega)
    · intro f hf; exact hF f t hf (by omega)
    · intro i hi; exact hX _ (by omega)
    · intro i hi; exact hC _ (by omega)
  · intro m hlt
    have q := hm m hlt
    unfold rMean at q ⊢
    obtain ⟨q1, q2, q3, q4, ⟨t, q5, q6, q7⟩, q8⟩ := q
    rw [hB (B + 43 + 5 * m) 2 (by omega) (by omega), hB (B + 43 + 5 * m) 3 (by omega) (by omega), hB (B + 43 + 5 * m) 4 (by omega) (by omega), h1 m (by omega), h2 m (by omega), h3 m (by omega)]
    have hn : (U.1 (B + 3 + 5 * t) (2 + 0)).toNatClampNeg ≤ 12 := by
      obtain ⟨n, hv, _⟩ := ht t q5
      have e : U.1 (B + 3 + 5 * t) (2 + 0) = Int32.ofNat n := hv.1
      rw [e, ofNat_clamp (by have := hv.2.2.1; omega)]
      exact hv.2.2.1
    refine ⟨q1, q2, q3, q4, ⟨t, q5, q6, ?_⟩, ?_⟩
    · intro i hi
      dsimp only at hi ⊢
      rw [hB (B + 3 + 5 * t) (2 + 0) (by omega) (by omega)] at hi
      rw [hB (B + 3 + 5 * t) (2 + 3) (by omega) (by omega), h4 (12 * m + i) (by omega), hB (B + 45 + 5 * m) i (by omega) (by omega)]
      exact q7 i hi
    · intro i hi
      dsimp only
      rw [h5 (12 * m + i) (by omega), hB (B + 47 + 5 * m) i (by omega) (by omega)]
      exact q8 i hi
theorem rShelf_congr {U V : sU} {nM s : Nat} (h1 : ∀ j, V.1 (264 + 2 * s) j = U.1 (264 + 2 * s) j) (h2 : ∀ a, 282 ≤ a → a < 286 → V.1 a s = U.1 a s) (h3 : ∀ i, i < 64 → V.2.1 286 (64 * s + i) = U.2.1 286 (64 * s + i)) (h4 : ∀ i, i < 64 → V.2.1 (265 + 2 * s) i = U.2.1 (265 + 2 * s) i) (h : rShelf U nM s) : rShelf V nM s := by
  unfold rShelf at h ⊢
  rw [h1 1, h1 2, h1 3, h1 4, h2 282 (by omega) (by omega), h2 283 (by omega) (by omega), h2 284 (by omega) (by omega), h2 285 (by omega) (by omega)]
  rcases h with h | h | h
  · exact Or.inl h
  · obtain ⟨a1, a2, o, n, a3, a4, a5, a6, a7, a8, a9⟩ := h
    refine Or.inr (Or.inl ⟨a1, a2, o, n, a3, a4, a5, a6, a7, a8, ?_⟩)
    intro i hi
    rw [h3 i hi, h4 i hi]
    exact a9 i hi
  · exact Or.inr (Or.inr h)
theorem rNow_congr {U V : sU} {nT nM : Nat} (h1 : ∀ a j, 2 ≤ a → a < 105 → V.1 a j = U.1 a j) (h2 : ∀ a j, 288 ≤ a → a < 303 → V.1 a j = U.1 a j) (h3 : V.1 280 0 = U.1 280 0) (h4 : V.1 280 1 = U.1 280 1) (h : rNow U nT nM) : rNow V nT nM := by
  refine ⟨rStore_congr (fun a j q r => h1 a j (by omega) (by omega)) ?_ ?_ ?_ ?_ ?_ ?_ ?_ ?_ h.1, by rw [h3]; exact h.2.1, by rw [h4]; exact h.2.2⟩
  · intro f t hf ht; exact h2 _ _ (by omega) (by omega)
  all_goals (intro i hi; exact h2 _ _ (by omega) (by omega))
theorem rKept_congr {U V : sU} {nT nM : Nat} (h1 : ∀ a j, 105 ≤ a → a < 208 → V.1 a j = U.1 a j) (h2 : ∀ j, V.1 313 j = U.1 313 j) (h3 : V.1 280 54 = U.1 280 54) (h4 : V.1 280 55 = U.1 280 55) (h : rKept U nT nM) : rKept V nT nM := by
  refine ⟨rStore_congr (fun a j q r => h1 a j (by omega) (by omega)) ?_ ?_ ?_ ?_ ?_ ?_ ?_ ?_ h.1, by rw [h3]; exact h.2.1, by rw [h4]; exact h.2.2⟩
  · intro f t hf ht; exact h2 _
  all_goals (intro i hi; exact h2 _)
theorem rImg_congr {U V : sU} (h0 : V.1 0 3 = U.1 0 3) (h1 : ∀ a j, 105 ≤ a → a < 208 → V.1 a j = U.1 a j) (h2 : ∀ j, V.1 313 j = U.1 313 j) (h3 : V.1 280 54 = U.1 280 54) (h4 : V.1 280 55 = U.1 280 55) (h5 : ∀ t, t < 8 → V.1 (5 + 5 * t) 7 = U.1 (5 + 5 * t) 7 ∨ V.1 (5 + 5 * t) 7 = 0 ∨ V.1 (5 + 5 * t) 7 = 1) (h : rImg U) : rImg V := by
  unfold rImg at h ⊢
  rw [h0, h3]
  obtain ⟨h, hn, hk⟩ := h
  refine ⟨?_, ?_, ?_⟩
  · rcases h with h | ⟨a, nT, nM, h⟩
    · exact Or.inl h
    · exact Or.inr ⟨a, nT, nM, rKept_congr h1 h2 h3 h4 h⟩
  · intro t ht
    rcases h5 t ht with q | q
    · rw [q]; exact hn t ht
    · exact q
  · intro t ht
    rw [h1 (108 + 5 * t) 7 (by omega) (by omega)]
    exact hk t ht
theorem InvN_same {U V : sU} {nT nM : Nat} (h : Same U V) (k : InvN nT nM U) : InvN nT nM V := by
  obtain ⟨k1, k2, k3, k4, k5, k6⟩ := k
  have e : ∀ a j, ¬ scr a j → V.1 a j = U.1 a j := h.1
  have e2 : ∀ a j, ¬ scr a j → V.2.1 a j = U.2.1 a j := h.2
  refine ⟨rNow_congr (fun a j q r => e a j (by unfold scr; omega)) (fun a j q r => e a j (by unfold scr; omega)) (e 280 0 (by unfold scr; omega)) (e 280 1 (by unfold scr; omega)) k1, ?_, ?_, ?_, ?_, ?_⟩
  · intro s hs
    exact rShelf_congr (fun j => e _ _ (by unfold scr; omega)) (fun a q r => e _ _ (by unfold scr; omega)) (fun i hi => e2 _ _ (by unfold scr; omega)) (fun i hi => e2 _ _ (by unfold scr; omega)) (k2 s hs)
  · intro i hi
    rw [e 281 i (by unfold scr; omega), e 209 i (by unfold scr; omega)]
    exact k3 i hi
  · rw [e 280 2 (by unfold scr; omega), e 0 5 (by unfold scr; omega)]
    exact k4
  · refine ⟨?_, ?_, ?_⟩
    · rw [e 280 53 (by unfold scr; omega), e 261 4 (by unfold scr; omega)]; exact k5.1
    · rw [e 261 4 (by unfold scr; omega)]; exact k5.2.1
    · intro i hi
      rw [e 312 i (by unfold scr; omega), e 263 i (by unfold scr; omega)]; exact k5.2.2 i hi
  · exact rImg_congr (e 0 3 (by unfold scr; omega)) (fun a j q r => e a j (by unfold scr; omega)) (fun j => e _ _ (by unfold scr; omega)) (e 280 54 (by unfold scr; omega)) (e 280 55 (by unfold scr; omega)) (fun t ht => Or.inl (e _ _ (by unfold scr; omega))) k6
