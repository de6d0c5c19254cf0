/-! the two constructors, run by the kernel -/
def cH0 : sm_H := [.inr (9, sm_df 9)]
def cR1 : Option (Option Value × sm_H) := sm_run sm_M 4000 9 sm_I112 0 (lv_args 0 [.ref 0]) [] cH0
def cH1 : sm_H := (cR1.getD (none, [])).2
def cH2 : sm_H := cH1 ++ [.inr (10, sm_df 10)]
def cR2 : Option (Option Value × sm_H) := sm_run sm_M 1000 9 sm_I173 0 (lv_args 0 [.ref 280]) [] cH2
def cHE : sm_H := (cR2.getD (none, [])).2
/-- what lies behind the end of an array of references is null -/
def WFc : va_E → Prop
  | .inl (_, n, .inr (.inr (.inr (.inr f)))) => ∀ i, n ≤ i → f i = none
  | _ => True
def WFr (h : sm_H) : Prop := ∀ e ∈ h, WFc e
theorem WFr_set {h : sm_H} {a : Nat} {e : va_E} (H : WFr h) (he : WFc e) : WFr (h.set a e) := by
  intro x hx
  rcases List.mem_or_eq_of_mem_set hx with hx | rfl
  · exact H x hx
  · exact he
theorem WFr_app {h : sm_H} {e : va_E} (H : WFr h) (he : WFc e) : WFr (h ++ [e]) := by
  intro x hx
  rcases List.mem_append.mp hx with hx | hx
  · exact H x hx
  · rcases List.mem_singleton.mp hx with rfl
    exact he
theorem sm_h_wf {e : sm_E} {st : List Value} {h : sm_H} {g : Nat × List Value × sm_H} (H : WFr h) (hg : sm_h e st h = some g) : WFr g.2.2 := by
  unfold sm_h at hg
  repeat' split at hg
  all_goals first
    | (cases hg; done)
    | (cases hg; exact H)
    | (cases hg; exact WFr_set H (by trivial))
theorem sm_k_wf {e : sm_E} {d : Nat} {st : List Value} {h : sm_H} {g : Nat × List Value × sm_H} (H : WFr h) (hg : sm_k e d st h = some g) : WFr g.2.2 := by
  unfold sm_k at hg
  repeat' split at hg
  all_goals first
    | (cases hg; done)
    | (cases hg; exact H)
    | (cases hg; exact WFr_app H (by trivial))
    | (cases hg; exact WFr_app H (fun i _ => rfl))
    | (cases hg; exact WFr_set H (by trivial))
    | (rename_i f hf _ hc; cases hg
       refine WFr_set H (fun i hi => ?_)
       have hw := H _ (List.mem_of_getElem? hf) i hi
       have hlt := Nat.not_le.mp (fun q => hc.2.2 (Or.inr q))
       unfold va_up
       rw [if_neg (by omega)]
       exact hw)
    | skip
theorem sm_run_wf (M : Nat → Option sm_I) : ∀ (n d : Nat) (I : sm_I) (pc : Nat) (lv : sm_L) (st : List Value) (h : sm_H) (r : Option Value × sm_H), WFr h → sm_run M n d I pc lv st h = some r → WFr r.2 := by
  intro n
  induction n with
  | zero => intro d I pc lv st h r H hr; cases hr
  | succ n ih =>
    intro d I pc lv st h r H hr
    unfold sm_run at hr
    split at hr
    · split at hr
      · exact ih _ _ _ _ _ _ _ H hr
      · split at hr
        · rename_i g hg
          exact ih _ _ _ _ _ _ _ (sm_h_wf H hg) hr
        · split at hr
          · rename_i g hg
            exact ih _ _ _ _ _ _ _ (sm_k_wf H hg) hr
          · split at hr
            · exact ih _ _ _ _ _ _ _ H hr
            · split at hr
              · cases hr; exact H
              · split at hr
                · split at hr
                  · cases hr
                  · split at hr
                    · split at hr
                      · split at hr
                        · rename_i q hq
                          exact ih _ _ _ _ _ _ _ (ih _ _ _ _ _ _ _ H hq) hr
                        · cases hr
                      · cases hr
                    · cases hr
                · cases hr
    · cases hr
def cVi (fs : List Value) (j : Nat) : Int32 := match fs[j]? with
  | some (.int x) => x
  | _ => 0
def cVj (fs : List Value) (j : Nat) : Int64 := match fs[j]? with
  | some (.long x) => x
  | _ => 0
def cVo : Value → Nat
  | .ref t => t
  | _ => 0
def cVk (fs : List Value) : Nat := match fs[6]? with
  | some v => cVo v
  | none => 0
def cAi (h : sm_H) (a j : Nat) : Int32 := match h[a]? with
  | some (.inl (_, _, .inl f)) => f j
  | some (.inr (_, fs)) => cVi fs j
  | _ => 0
def cAj (h : sm_H) (a j : Nat) : Int64 := match h[a]? with
  | some (.inl (_, _, .inr (.inl f))) => f j
  | some (.inr (_, fs)) => cVj fs j
  | _ => 0
def cAk (h : sm_H) (a : Nat) : Nat := match h[a]? with
  | some (.inr (_, fs)) => cVk fs
  | _ => 0
/-- the store after the constructors -/
def U0 : sU := (cAi cHE, cAj cHE, cAk cHE)
def veq : Value → Value → Bool
  | .int x, .int y => x == y
  | .long x, .long y => x == y
  | .ref x, .ref y => Nat.beq x y
  | _, _ => false
theorem veq_eq {x y : Value} (h : veq x y = true) : x = y := by
  unfold veq at h
  split at h
  · rw [eq_of_beq h]
  · rw [eq_of_beq h]
  · rw [Nat.eq_of_beq_eq_true h]
  · cases h
def veqs : List Value → List Value → Bool
  | [], [] => true
  | x :: r, y :: s => veq x y && veqs r s
  | _, _ => false
theorem veqs_eq : ∀ {x y : List Value}, veqs x y = true → x = y := by
  intro x
  induction x with
  | nil => intro y h; cases y with
    | nil => rfl
    | cons b s => cases h
  | cons a r ih => intro y h; cases y with
    | nil => cases h
    | cons b s =>
      unfold veqs at h
      rw [Bool.and_eq_true] at h
      rw [veq_eq h.1, ih h.2]
def oeq : Option Nat → Nat → Bool
  | some x, y => Nat.beq x y
  | none, _ => false
theorem oeq_eq {x : Option Nat} {y : Nat} (h : oeq x y = true) : x = some y := by
  cases x with
  | none => cases h
  | some x => rw [Nat.eq_of_beq_eq_true h]
theorem nbq (a b : Nat) : (Nat.beq a b = true) = (a = b) := propext ⟨Nat.eq_of_beq_eq_true, fun h => by subst h; exact Nat.beq_refl a⟩
/-- one cell against its place's kind -/
def chC (a : Nat) (q : Nat × Nat) : va_E → Bool
  | .inl (t, n, .inl _) => Nat.beq q.1 11 && (Nat.beq t 0 && Nat.beq n q.2)
  | .inl (t, n, .inr (.inl _)) => Nat.beq q.1 12 && (Nat.beq t 1 && Nat.beq n q.2)
  | .inl (t, n, .inr (.inr (.inr (.inr f)))) => (Nat.beq q.1 13 || (Nat.beq q.1 14 || Nat.beq q.1 15)) && (Nat.beq t (q.1 - 11) && (Nat.beq n q.2 && (List.range n).all (fun i => oeq (f i) (rfA a q.1 i))))
  | .inr (c, fs) => Nat.blt q.1 11 && (Nat.beq c q.1 && veqs fs (fdU (fun _ => cVi fs, fun _ => cVj fs, fun _ => cVk fs) a c))
  | _ => false
def chL : Nat → List (Nat × Nat) → sm_H → Bool
  | _, [], [] => true
  | a, q :: r, e :: h => chC a q e && chL (a + 1) r h
  | _, _, _ => false
theorem chC_eq {h : sm_H} {a : Nat} {q : Nat × Nat} {e : va_E} (he : h[a]? = some e) (H : WFc e) (hc : chC a q e = true) : e = ceU (cAi h, cAj h, cAk h) a q := by
  obtain ⟨k, m⟩ := q
  unfold chC at hc
  split at hc
  · rename_i t n f
    simp only [Bool.and_eq_true, nbq] at hc
    obtain ⟨h1, h2, h3⟩ := hc
    subst h1 h2 h3
    have : cAi h a = f := by funext j; unfold cAi; rw [he]
    unfold ceU
    dsimp only
    rw [this]
    rfl
  · rename_i t n f
    simp only [Bool.and_eq_true, nbq] at hc
    obtain ⟨h1, h2, h3⟩ := hc
    subst h1 h2 h3
    have : cAj h a = f := by funext j; unfold cAj; rw [he]
    unfold ceU
    dsimp only
    rw [this]
    rfl
  · rename_i t n f
    simp only [Bool.and_eq_true, Bool.or_eq_true, nbq] at hc
    obtain ⟨h1, h2, h3, h4⟩ := hc
    subst h3
    have ef : f = fun i => if i < n then some (rfA a k i) else none := by
      funext i
      by_cases hi : i < n
      · rw [if_pos hi]
        exact oeq_eq (List.all_eq_true.mp h4 i (List.mem_range.mpr hi))
      · rw [if_neg hi]
        exact H i (by omega)
    subst h2
    rw [ef]
    rcases h1 with rfl | rfl | rfl <;> rfl
  · rename_i c fs
    simp only [Bool.and_eq_true, nbq] at hc
    obtain ⟨h1, h2, h3⟩ := hc
    subst h2
    have hlt : c < 11 := by
      have : c ≤ 10 := by simpa [Nat.blt] using h1
      omega
    have e1 : cAi h a = cVi fs := by funext j; unfold cAi; rw [he]
    have e2 : cAj h a = cVj fs := by funext j; unfold cAj; rw [he]
    have e3 : cAk h a = cVk fs := by unfold cAk; rw [he]
    have ef := veqs_eq h3
    have eg : fdU (fun _ => cVi fs, fun _ => cVj fs, fun _ => cVk fs) a c = fdU (cAi h, cAj h, cAk h) a c := by
      simp only [fdU, tk, e1, e2, e3]
    rw [eg] at ef
    unfold ceU
    dsimp only
    rw [ef]
    split <;> first | omega | rfl
  · cases hc
theorem chL_eq (h : sm_H) : ∀ (a : Nat) (l : List (Nat × Nat)) (g : sm_H), (∀ i, g[i]? = h[a + i]?) → (∀ e ∈ g, WFc e) → chL a l g = true → g.length = l.length ∧ ∀ i q e, l[i]? = some q → g[i]? = some e → e = ceU (cAi h, cAj h, cAk h) (a + i) q := by
  intro a l
  induction l generalizing a with
  | nil =>
    intro g hg hw hc
    cases g with
    | nil => exact ⟨rfl, fun i q e h1 => by cases h1⟩
    | cons e g => cases hc
  | cons q l ih =>
    intro g hg hw hc
    cases g with
    | nil => cases hc
    | cons e g =>
      unfold chL at hc
      rw [Bool.and_eq_true] at hc
      obtain ⟨l1, l2⟩ := ih (a + 1) g (fun i => by have := hg (i + 1); rw [List.getElem?_cons_succ] at this; rw [this]; congr 1; omega) (fun x hx => hw x (List.mem_cons_of_mem _ hx)) hc.2
      refine ⟨by simp only [List.length_cons]; omega, ?_⟩
      intro i q' e' h1 h2
      cases i with
      | zero =>
        cases h1
        cases h2
        have := hg 0
        exact chC_eq this.symm (hw _ (List.mem_cons_self)) hc.1
      | succ i =>
        have := l2 i q' e' h1 h2
        rw [this]
        congr 1
        omega
theorem lay_of_check {h : sm_H} (hw : WFr h) (hc : chL 0 sm_shape h = true) : h = lay (cAi h, cAj h, cAk h) := by
  obtain ⟨l1, l2⟩ := chL_eq h 0 sm_shape h (fun i => by rw [Nat.zero_add]) hw hc
  apply List.ext_getElem?
  intro i
  unfold lay
  rw [List.getElem?_mapIdx]
  cases hs : sm_shape[i]? with
  | none =>
    have := List.getElem?_eq_none_iff.mp hs
    exact List.getElem?_eq_none (by omega)
  | some q =>
    have hi := (List.getElem?_eq_some_iff.mp hs).1
    have hg : h[i]? = some (h[i]'(by omega)) := List.getElem?_eq_getElem (by omega)
    rw [hg]
    have := l2 i q _ hs hg
    rw [Nat.zero_add] at this
    exact congrArg some this
def isN : Option (Option Value × sm_H) → Bool
  | some (none, _) => true
  | _ => false
theorem isN_eq {x : Option (Option Value × sm_H)} (h : isN x = true) : x = some (none, (x.getD (none, [])).2) := by
  unfold isN at h
  split at h
  · rfl
  · cases h
theorem cH0_wf : WFr cH0 := by
  intro e he
  rcases List.mem_singleton.mp he with rfl
  trivial
