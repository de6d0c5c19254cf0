/-! the tables are the machine's: a check that the kernel runs -/
def sm_ch (k : Nat) : List Cond := match k with
  | 0 => k2_sels lw_privs
  | 1 => tables_1_1
  | 2 => tables_1_2
  | 3 => tables_1_3
  | 4 => tables_1_4
  | 5 => tables_1_5
  | 6 => tables_1_6
  | 7 => tables_1_7
  | 8 => tables_1_8
  | _ => []
theorem sm_ch_in {w : Cond} : ∀ (k : Nat), w ∈ sm_ch k → w ∈ lw_tbl := by
  intro k h
  unfold lw_tbl tables_1
  simp only [List.mem_append]
  match k, h with
  | 0, h => exact Or.inl h
  | 1, h => exact Or.inr (Or.inl h)
  | 2, h => exact Or.inr (Or.inr (Or.inl h))
  | 3, h => exact Or.inr (Or.inr (Or.inr (Or.inl h)))
  | 4, h => exact Or.inr (Or.inr (Or.inr (Or.inr (Or.inl h))))
  | 5, h => exact Or.inr (Or.inr (Or.inr (Or.inr (Or.inr (Or.inl h)))))
  | 6, h => exact Or.inr (Or.inr (Or.inr (Or.inr (Or.inr (Or.inr (Or.inl h))))))
  | 7, h => exact Or.inr (Or.inr (Or.inr (Or.inr (Or.inr (Or.inr (Or.inr (Or.inl h)))))))
  | 8, h => exact Or.inr (Or.inr (Or.inr (Or.inr (Or.inr (Or.inr (Or.inr (Or.inr h)))))))
  | k + 9, h => exact absurd h List.not_mem_nil
def sm_w (i : Nat) (w : Cond) : Bool := decide ((sm_ch (i / 1000))[i % 1000]? = some w)
theorem sm_w_in {i : Nat} {w : Cond} (h : sm_w i w = true) : w ∈ lw_tbl := sm_ch_in _ (List.mem_of_getElem? (of_decide_eq_true h))
def sm_ckl (own : String) (idx : Nat) (y : MethodName) (i : Nat) : Bool := sm_w i (.methodLink own idx y) || sm_w i (.methodLinkNest own idx y "SaidForNothing")
theorem sm_ckl_ok {own : String} {idx : Nat} {y : MethodName} {i : Nat} (h : sm_ckl own idx y i = true) : sm_link own idx y := by
  rcases (Bool.or_eq_true _ _).mp h with h | h
  · exact Or.inl (sm_w_in h)
  · exact Or.inr ⟨_, sm_w_in h⟩
def sm_ckd (bytes : ByteArray) (pc : Nat) (w : sm_E) : Bool := match decode bytes pc with
  | .ok q => decide (q.1 = w.1) && (sm_sw w.1 || decide (q.2 = sm_len w.1))
  | .error _ => false
theorem sm_ckd_ok {bytes : ByteArray} {pc : Nat} {w : sm_E} (h : sm_ckd bytes pc w = true) : sm_dc bytes pc w := by
  unfold sm_ckd at h
  split at h
  · rename_i q hq
    obtain ⟨i, n⟩ := q
    simp only [Bool.and_eq_true, Bool.or_eq_true, decide_eq_true_eq] at h
    obtain ⟨h1, h2⟩ := h
    subst h1
    exact ⟨n, hq, h2⟩
  · cases h
def sm_cke (own : String) (init : Bool) (w : sm_E) (hi : Nat) : Bool := match w.1 with
  | .getfield idx => match vwCl[w.2.1]? with
    | some q => decide (w.2.2.1 < q.2.2) && sm_w hi (.fieldLink own idx (q.2.1 w.2.2.1).1 (q.2.1 w.2.2.1).2.1 (q.2.1 w.2.2.1).2.2.1)
    | none => false
  | .putfield idx => match vwCl[w.2.1]? with
    | some q => decide (w.2.2.1 < q.2.2) && sm_w hi (.fieldLink own idx (q.2.1 w.2.2.1).1 (q.2.1 w.2.2.1).2.1 (q.2.1 w.2.2.1).2.2.1) && (match parseFieldDescriptor (q.2.1 w.2.2.1).2.2.1 with
        | some ty => decide (w.2.2.2 % 10 = sm_fk ty)
        | none => false) && (decide ((q.2.1 w.2.2.1).2.2.2 = false) || (decide ((q.2.1 w.2.2.1).2.2.2 = true) && init && decide ((q.2.1 w.2.2.1).1 = own)))
    | none => false
  | .new idx => match vwCl[w.2.1]? with
    | some q => sm_w hi (.classLink own idx q.1) && decide (Cond.instantiable q.1 q.2.2 ∈ tables_1_1 ++ tables_1_2) && decide (Cond.initialized q.1 ∈ tables_1_1)
    | none => false
  | .newarray .int => sm_w hi (.arrayClass .int)
  | .newarray .long => sm_w hi (.arrayClass .long)
  | .anewarray idx => match vwCl[sm_ek w.2.1]? with
    | some q => sm_w hi (.classLink own idx q.1) && decide (Cond.arrayOver (.object q.1) ∈ tables_1_1)
    | none => false
  | .ldc idx => (decide (w.2.2.2 = 0) && sm_w hi (.constant own idx (Int32.ofNat w.2.1))) || (decide (w.2.2.2 = 1) && decide (own = RX2) && decide ([42, 106, 108, 110, 112, 114][w.2.1]? = some idx))
  | .ldc_w idx => sm_w hi (.constant own idx (Int32.ofNat w.2.1))
  | .ldc2_w idx => sm_w hi (.constantLong own idx (Int64.ofNat w.2.1))
  | _ => true
theorem sm_cke_ok {own : String} {init : Bool} {w : sm_E} {hi : Nat} (h : sm_cke own init w hi = true) : sm_lk own init w := by
  obtain ⟨ins, a, b, c⟩ := w
  cases ins <;> first | exact trivial | skip
  case getfield idx =>
    unfold sm_cke at h
    dsimp only at h
    split at h
    · rename_i q hq
      simp only [Bool.and_eq_true, decide_eq_true_eq] at h
      exact ⟨q, hq, h.1, sm_w_in h.2⟩
    · cases h
  case putfield idx =>
    unfold sm_cke at h
    dsimp only at h
    split at h
    · rename_i q hq
      simp only [Bool.and_eq_true, Bool.or_eq_true, decide_eq_true_eq] at h
      obtain ⟨⟨⟨h1, h2⟩, h3⟩, h4⟩ := h
      split at h3
      · rename_i ty hty
        refine ⟨q, ty, hq, h1, sm_w_in h2, hty, of_decide_eq_true h3, ?_⟩
        rcases h4 with h4 | ⟨⟨h4, h5⟩, h6⟩
        · exact Or.inl h4
        · exact Or.inr ⟨h4, h5, h6⟩
      · cases h3
    · cases h
  case new idx =>
    unfold sm_cke at h
    dsimp only at h
    split at h
    · rename_i q hq
      simp only [Bool.and_eq_true, decide_eq_true_eq] at h
      exact ⟨q, hq, sm_w_in h.1.1, (List.mem_append.mp h.1.2).elim (sm_ch_in 1) (sm_ch_in 2), sm_ch_in 1 h.2⟩
    · cases h
  case newarray aty =>
    cases aty <;> first | exact trivial | exact sm_w_in h
  case anewarray idx =>
    unfold sm_cke at h
    dsimp only at h
    split at h
    · rename_i q hq
      simp only [Bool.and_eq_true, decide_eq_true_eq] at h
      exact ⟨q, hq, sm_w_in h.1, sm_ch_in 1 h.2⟩
    · cases h
  case ldc idx =>
    unfold sm_cke at h
    simp only [Bool.and_eq_true, Bool.or_eq_true, decide_eq_true_eq] at h
    rcases h with ⟨h1, h2⟩ | ⟨⟨h1, h2⟩, h3⟩
    · exact Or.inl ⟨h1, sm_w_in h2⟩
    · exact Or.inr ⟨h1, h2, h3⟩
  case ldc_w idx => exact sm_w_in h
  case ldc2_w idx => exact sm_w_in h
abbrev sm_h4 : Type := Nat × Nat × Nat × Nat
def sm_ckc (own : String) (w : sm_E) (hi : Nat) : Bool := match w.1 with
  | .invokevirtual idx => if w.2.1 = 900 then sm_w hi (.methodLink own idx yJ0_length_8abf5) else if w.2.1 = 901 then sm_w hi (.methodLink own idx yJ0_charAt_5068e) else if w.2.1 = 902 then sm_w hi (.methodLink own idx yJ0_equals_9ea2d) else match sm_M w.2.1 with
    | some K => (match vwCl[w.2.2.2]? with
      | some q => decide (q.1 = K.1.cls)
      | none => false) && decide (sm_par K.1 = some w.2.2.1) && sm_w (sm_Hs.getD w.2.1 (0, 0, 0, 0)).2.2.1 (.instanceMethod K.1) && sm_w (sm_Hs.getD w.2.1 (0, 0, 0, 0)).2.2.2 (.selects K.1.cls K.1 K.1) && sm_ckl own idx K.1 hi
    | none => false
  | .invokespecial idx => if w.2.1 = 999 then sm_w hi (.methodLink own idx objectInit) else match sm_M w.2.1 with
    | some K => decide (sm_par K.1 = some w.2.2.1) && sm_w (sm_Hs.getD w.2.1 (0, 0, 0, 0)).2.2.1 (.instanceMethod K.1) && decide (K.1.name = "<init>") && decide (K.2.2.2.1 = none) && sm_ckl own idx K.1 hi
    | none => false
  | .invokestatic idx => if w.2.1 = 998 then sm_w hi (.methodLink own idx arraycopyName) else match sm_M w.2.1 with
    | some K => decide (sm_par K.1 = some w.2.2.1) && sm_w (sm_Hs.getD w.2.1 (0, 0, 0, 0)).2.2.1 (.static K.1) && sm_ckl own idx K.1 hi
    | none => false
  | _ => true
theorem sm_M_none : sm_M 900 = none ∧ sm_M 901 = none ∧ sm_M 902 = none ∧ sm_M 998 = none ∧ sm_M 999 = none := ⟨rfl, rfl, rfl, rfl, rfl⟩
theorem sm_ckc_ok {own : String} {w : sm_E} {hi : Nat} (h : sm_ckc own w hi = true) : sm_ck sm_M own w := by
  obtain ⟨m0, m1, m2, m8, m9⟩ := sm_M_none
  obtain ⟨ins, a, b, c⟩ := w
  cases ins <;> first | exact trivial | skip
  case invokevirtual idx =>
    unfold sm_ckc at h
    dsimp only at h
    split at h
    · rename_i e
      subst e
      exact ⟨fun _ => sm_w_in h, fun e => by dsimp only at e; omega, fun e => by dsimp only at e; omega, fun K hK => by rw [m0] at hK; cases hK⟩
    split at h
    · rename_i e
      subst e
      exact ⟨fun e => by dsimp only at e; omega, fun _ => sm_w_in h, fun e => by dsimp only at e; omega, fun K hK => by rw [m1] at hK; cases hK⟩
    split at h
    · rename_i e
      subst e
      exact ⟨fun e => by dsimp only at e; omega, fun e => by dsimp only at e; omega, fun _ => sm_w_in h, fun K hK => by rw [m2] at hK; cases hK⟩
    rename_i n0 n1 n2
    refine ⟨fun e => absurd e n0, fun e => absurd e n1, fun e => absurd e n2, fun K hK => ?_⟩
    dsimp only at hK
    rw [hK] at h
    simp only [Bool.and_eq_true, decide_eq_true_eq] at h
    obtain ⟨⟨⟨⟨h1, h2⟩, h3⟩, h4⟩, h5⟩ := h
    split at h1
    · rename_i q hq
      exact ⟨⟨q, hq, of_decide_eq_true h1⟩, h2, sm_w_in h3, sm_w_in h4, sm_ckl_ok h5⟩
    · cases h1
  case invokespecial idx =>
    unfold sm_ckc at h
    dsimp only at h
    split at h
    · rename_i e
      subst e
      exact ⟨fun _ => sm_w_in h, fun K hK => by rw [m9] at hK; cases hK⟩
    rename_i n0
    refine ⟨fun e => absurd e n0, fun K hK => ?_⟩
    dsimp only at hK
    rw [hK] at h
    simp only [Bool.and_eq_true, decide_eq_true_eq] at h
    obtain ⟨⟨⟨⟨h1, h2⟩, h3⟩, h4⟩, h5⟩ := h
    exact ⟨h1, sm_w_in h2, h3, h4, sm_ckl_ok h5⟩
  case invokestatic idx =>
    unfold sm_ckc at h
    dsimp only at h
    split at h
    · rename_i e
      subst e
      exact ⟨fun _ => sm_w_in h, fun K hK => by rw [m8] at hK; cases hK⟩
    rename_i n0
    refine ⟨fun e => absurd e n0, fun K hK => ?_⟩
    dsimp only at hK
    rw [hK] at h
    simp only [Bool.and_eq_true, decide_eq_true_eq] at h
    obtain ⟨⟨h1, h2⟩, h3⟩ := h
    exact ⟨h1, sm_w_in h2, sm_ckl_ok h3⟩
noncomputable def sm_ckT (own : String) (init : Bool) (bytes : ByteArray) (T : sm_T) : Nat → List UInt8 → List Nat → Bool :=
  List.rec (motive := fun _ => Nat → List UInt8 → List Nat → Bool) (fun _ _ _ => true) (fun x _ ih pc bs hs => match x with
    | none => ih (pc + 1) bs.tail hs
    | some w => match hs with
      | hi :: hs => (if sm_sw w.1 = true then sm_ckd bytes pc w else sm_fb w.1 bs) && sm_jok pc w && sm_cke own init w hi && sm_ckc own w hi && ih (pc + 1) bs.tail hs
      | [] => false) T
theorem sm_ckT_ok {own : String} {init : Bool} {bytes : ByteArray} : ∀ (T : sm_T) (pc : Nat) (hs : List Nat), sm_ckT own init bytes T pc (bytes.data.toList.drop pc) hs = true → ∀ (k : Nat) (w : sm_E), T[k]? = some (some w) → sm_dc bytes (pc + k) w ∧ sm_jok (pc + k) w = true ∧ sm_lk own init w ∧ sm_ck sm_M own w := by
  intro T
  induction T with
  | nil => intro pc hs _ k w hw; simp at hw
  | cons x r ih =>
    intro pc hs h k w hw
    cases x with
    | none =>
      cases k with
      | zero => simp at hw
      | succ k =>
        have h : sm_ckT own init bytes r (pc + 1) (bytes.data.toList.drop pc).tail hs = true := h
        rw [List.tail_drop] at h
        have := ih (pc + 1) hs h k w (by simpa using hw)
        rw [show pc + 1 + k = pc + (k + 1) by omega] at this
        exact this
    | some v =>
      cases hs with
      | nil => cases h
      | cons hi hs =>
        have h : ((if sm_sw v.1 = true then sm_ckd bytes pc v else sm_fb v.1 (bytes.data.toList.drop pc)) && sm_jok pc v && sm_cke own init v hi && sm_ckc own v hi && sm_ckT own init bytes r (pc + 1) (bytes.data.toList.drop pc).tail hs) = true := h
        rw [List.tail_drop] at h
        simp only [Bool.and_eq_true] at h
        obtain ⟨⟨⟨⟨h1, h2⟩, h3⟩, h4⟩, h5⟩ := h
        cases k with
        | zero =>
          have : v = w := by simpa using hw
          subst this
          refine ⟨?_, h2, sm_cke_ok h3, sm_ckc_ok h4⟩
          split at h1
          · exact sm_ckd_ok h1
          · exact ⟨_, sm_fb_ok (fun k b hb => by rw [← hb, List.getElem?_drop]; rfl) h1, Or.inr rfl⟩
        | succ k =>
          have := ih (pc + 1) hs h5 k w (by simpa using hw)
          rw [show pc + 1 + k = pc + (k + 1) by omega] at this
          exact this
noncomputable def sm_ckM (J : sm_I) (hs : List Nat) (hm : sm_h4) : Bool :=
  plainFor J.1 && sm_w hm.2.1 (.initialized J.1.cls) && decide (J.1.cls ≠ "java/lang/invoke/MethodHandle") && decide (J.1.cls ≠ "java/lang/invoke/VarHandle") && decide (J.2.2.1 ≤ 14) && sm_ckT J.1.cls (J.1.name == "<init>") J.2.1 J.2.2.2.2 0 (J.2.1.data.toList.drop 0) hs
theorem sm_ckM_ok {J : sm_I} {hs : List Nat} {hm : sm_h4} (h : sm_ckM J hs hm = true) (hcode : Cond.code J.1 J.2.1 J.2.2.1 J.2.2.2.1 ∈ lw_tbl) : sm_mok sm_M J := by
  unfold sm_ckM at h
  simp only [Bool.and_eq_true, decide_eq_true_eq] at h
  obtain ⟨⟨⟨⟨⟨h1, h3⟩, h4⟩, h5⟩, h6⟩, h7⟩ := h
  refine ⟨h1, hcode, sm_w_in h3, ⟨h4, h5⟩, h6, fun pc w hw => ?_⟩
  have := sm_ckT_ok _ _ _ h7 pc w hw
  rw [Nat.zero_add] at this
  exact this
