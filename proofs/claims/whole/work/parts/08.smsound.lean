theorem sm_hobj : Cond.instanceMethod objectInit ∈ lw_tbl ∧ Cond.code objectInit ⟨#[0xb1]⟩ 1 none ∈ lw_tbl := by decide +kernel
theorem sm_hcpy : Cond.native arraycopyName ∈ lw_tbl ∧ Cond.static arraycopyName ∈ lw_tbl ∧ Cond.initialized "java/lang/System" ∈ lw_tbl := by decide +kernel
abbrev sm_par (y : MethodName) : Option Nat := (parseMethodDescriptor y.desc).map (fun d => d.parameters.length)
abbrev sm_link (own : String) (idx : Nat) (y : MethodName) : Prop := Cond.methodLink own idx y ∈ lw_tbl ∨ ∃ host, Cond.methodLinkNest own idx y host ∈ lw_tbl
/-- what the tables must say of a call -/
def sm_ck (M : Nat → Option sm_I) (own : String) (w : sm_E) : Prop := match w.1 with
  | .invokevirtual idx => (w.2.1 = 900 → Cond.methodLink own idx yJ0_length_8abf5 ∈ lw_tbl) ∧ (w.2.1 = 901 → Cond.methodLink own idx yJ0_charAt_5068e ∈ lw_tbl) ∧ (w.2.1 = 902 → Cond.methodLink own idx yJ0_equals_9ea2d ∈ lw_tbl) ∧ ∀ K, M w.2.1 = some K → (∃ q, vwCl[w.2.2.2]? = some q ∧ q.1 = K.1.cls) ∧ sm_par K.1 = some w.2.2.1 ∧ Cond.instanceMethod K.1 ∈ lw_tbl ∧ Cond.selects K.1.cls K.1 K.1 ∈ lw_tbl ∧ sm_link own idx K.1
  | .invokespecial idx => (w.2.1 = 999 → Cond.methodLink own idx objectInit ∈ lw_tbl) ∧ ∀ K, M w.2.1 = some K → sm_par K.1 = some w.2.2.1 ∧ Cond.instanceMethod K.1 ∈ lw_tbl ∧ K.1.name = "<init>" ∧ K.2.2.2.1 = none ∧ sm_link own idx K.1
  | .invokestatic idx => (w.2.1 = 998 → Cond.methodLink own idx arraycopyName ∈ lw_tbl) ∧ ∀ K, M w.2.1 = some K → sm_par K.1 = some w.2.2.1 ∧ Cond.static K.1 ∈ lw_tbl ∧ sm_link own idx K.1
  | _ => True
/-- a method of the table is the tables' one -/
def sm_mok (M : Nat → Option sm_I) (J : sm_I) : Prop :=
  plainFor J.1 = true ∧ Cond.code J.1 J.2.1 J.2.2.1 J.2.2.2.1 ∈ lw_tbl ∧ Cond.initialized J.1.cls ∈ lw_tbl ∧ (J.1.cls ≠ "java/lang/invoke/MethodHandle" ∧ J.1.cls ≠ "java/lang/invoke/VarHandle") ∧ J.2.2.1 ≤ 14 ∧
  ∀ (pc : Nat) (w : sm_E), J.2.2.2.2[pc]? = some (some w) → sm_dc J.2.1 pc w ∧ sm_jok pc w = true ∧ sm_lk J.1.cls (J.1.name == "<init>") w ∧ sm_ck M J.1.cls w
/-- what stays true of the machine while a run goes on: nest mates' links, arrays of references, texts -/
def sm_Ev (B : Nat → Nat) (X : State → Prop) (U : State) : Prop :=
  (∀ C, Cond.arrayOver (.object C) ∈ lw_tbl → va_AO C U) ∧ (∀ own idx y host, Cond.methodLinkNest own idx y host ∈ lw_tbl → va_Nw (.methodLinkNest own idx y host) U) ∧ (∀ i idx, [42, 106, 108, 110, 112, 114][i]? = some idx → ∃ tx, vk_R RX2 idx tx (B (1000 + i)) U) ∧ X U
/-- what is asked of the texts' own methods -/
def sm_rx : Room := { frames := 5, cells := 0, slots := 0, locals := 165 }
def sm_wx (y : MethodName) (b : ByteArray) (n : Nat) (t : FieldType) : List Cond := .code y b n (some t) :: sm_G
def sm_Qx (v : Int32) : Array Value → State → Outcome → State → Prop := fun _ st oc t => oc = .returned (some (.int v)) ∧ t.heap = st.heap
/-- a text's method begins in such a state -/
def sm_Px (base : Nat) (X : State → Prop) (U : State) : Prop := base ≤ U.heap.size ∧ X U
def sm_Xk (l : Launch) (B : Nat → Nat) (base : Nat) (X : State → Prop) : Prop :=
  (∀ u U : State, X u → u.WarmedH U.vm → base ≤ u.heap.size → (∀ q, q < u.heap.size → ¬ base ≤ q → U.heap[q]? = u.heap[q]?) → X U) ∧
  (∀ U : State, X U → ∀ i, i < 6 → B (1000 + i) < base ∧ ∃ cell : Cell, U.heap[B (1000 + i)]? = some cell ∧ cell.vm.isStatics = false ∧ U.vm.findClass "java/lang/String" = some cell.cls) ∧
  (∀ i, i < 6 → Met l yJ0_length_8abf5 (sm_wx yJ0_length_8abf5 cJ0_length_8abf5 1 .int) sm_rx (va_Pc [.ref (B (1000 + i))] (sm_Px base X)) (sm_Qx (Int32.ofNat (sm_tx i).length)) 0 0 (fun _ => False)) ∧
  (∀ i, i < 6 → ∀ k : Int32, ¬ (k < 0 ∨ (sm_tx i).length ≤ k.toNatClampNeg) → Met l yJ0_charAt_5068e (sm_wx yJ0_charAt_5068e cJ0_charAt_5068e 2 .char) sm_rx (va_Pc [.ref (B (1000 + i)), .int k] (sm_Px base X)) (sm_Qx (Int32.ofNat ((sm_tx i).getD k.toNatClampNeg 0))) 0 0 (fun _ => False)) ∧
  (∀ i j, i < 6 → j < 6 → Met l yJ0_equals_9ea2d (sm_wx yJ0_equals_9ea2d cJ0_equals_9ea2d 3 .boolean) sm_rx (va_Pc [.ref (B (1000 + i)), .ref (B (1000 + j))] (sm_Px base X)) (sm_Qx (if i = j then 1 else 0)) 0 0 (fun _ => False))
theorem sm_Ev.warm {l : Launch} {B : Nat → Nat} {base : Nat} {X : State → Prop} {u U : State} (hX : sm_Xk l B base X) (h : sm_Ev B X u) (hW : u.WarmedH U.vm) (hb : base ≤ u.heap.size) (hh : ∀ q, q < u.heap.size → ¬ base ≤ q → U.heap[q]? = u.heap[q]?) : sm_Ev B X U :=
  ⟨fun C hC => va_AO.moved hW.alike (h.1 C hC), fun own idx y host hw => va_Nw.warmM hW (h.2.1 own idx y host hw), fun i idx hi => (h.2.2.1 i idx hi).elim fun tx q => ⟨tx, vk_R.warm hW q⟩, hX.1 u U h.2.2.2 hW hb hh⟩
/-- a method's end, in words of the small machine -/
def sm_Qc (D : va_G) (B : Nat → Nat) (dA : Nat → ClassId) (base : Nat) (r : Option Value × sm_H) : Array Value → State → Outcome → State → Prop := fun _ st oc t =>
  oc = .returned (r.1.map (sm_cv B)) ∧ va_P D vwCl (sm_ws B dA 0 r.2) t.heap ∧ va_D (fun q => base ≤ q) (sm_ws B dA 0 r.2) ∧ va_F (fun q => base ≤ q) st t
/-- a method's start, in words of the small machine -/
def sm_Pc (D : va_G) (B : Nat → Nat) (dA : Nat → ClassId) (base : Nat) (X : State → Prop) (av : List Value) (h : sm_H) : Array Value → State → Prop :=
  va_Pc (av.map (sm_cv B)) (fun U => U.heap.size = base + h.length ∧ va_P D vwCl (sm_ws B dA 0 h) U.heap ∧ va_D (fun q => base ≤ q) (sm_ws B dA 0 h) ∧ va_K D vwCl (sm_TY dA) U ∧ sm_Ev B X U)
def sm_WS (J : sm_I) : List Cond := .code J.1 J.2.1 J.2.2.1 J.2.2.2.1 :: sm_G
def sm_rm (d : Nat) (h : sm_H) (r : Option Value × sm_H) : Room := { frames := d, cells := r.2.length - h.length, slots := sm_sl r.2 - sm_sl h, locals := 33 * d }
theorem sm_blind {l : Launch} {D : va_G} {B : Nat → Nat} {dA : Nat → ClassId} {base : Nat} {X : State → Prop} (hX : sm_Xk l B base X) (av : List Value) (h : sm_H) : FrameBlind (sm_Pc D B dA base X av h) := by
  intro a U g mk q
  obtain ⟨q0, q1, qP, qD, qK, qE⟩ := q
  exact ⟨q0, q1, qP, qD, va_K.moved (u := U) (U := U.calling g mk a) (Vm.Alike.refl U.vm) qK, sm_Ev.warm (U := U.calling g mk a) hX qE (State.WarmedH.refl U) (by rw [q1]; exact Nat.le_add_right _ _) (fun _ _ _ => rfl)⟩
theorem sm_lv_args (B : Nat → Nat) : ∀ (vs : List Value) (i : Nat), lv_args i (vs.map (sm_cv B)) = sm_cL B (lv_args i vs) := by
  intro vs
  induction vs with
  | nil => intro i; rfl
  | cons v vs ih =>
    intro i
    show (i, sm_cv B v) :: lv_args (if (sm_cv B v).category = 2 then i + 2 else i + 1) (vs.map (sm_cv B)) = _
    rw [sm_cv_cat, ih]
    rfl
theorem sm_sl_len (vs : List Value) : (lg_sl vs).length = sm_cat vs := by
  induction vs with
  | nil => rfl
  | cons v vs ih =>
    unfold lg_sl sm_cat at ih ⊢
    rw [List.flatMap_cons, List.length_append, ih, List.map_cons, List.sum_cons]
    cases v <;> rfl
section SMSND
variable {p : Program} {l : Launch} {e : Env} {R : Room} {s : State} {m : MethodId} {args : Array Value} {below : List Frame} {meth : Method} {c : Code} {H : Heap} {locs : List Loc} {cells slots : Nat} {Q : State → Prop}
variable {cc : ByteArray} {pc : Nat} {ls : Array Slot} {dC : Nat → ClassId} {dI : Nat → Nat → Nat} {dA : Nat → ClassId} {B : Nat → Nat} {base : Nat} {X : State → Prop} {M : Nat → Option sm_I}
/-- what the proof goes by, for runs of at most n steps -/
def sm_OK (M : Nat → Option sm_I) (l : Launch) (dC : Nat → ClassId) (dI : Nat → Nat → Nat) (dA : Nat → ClassId) (B : Nat → Nat) (base : Nat) (X : State → Prop) (n : Nat) : Prop :=
  ∀ (d : Nat) (I : sm_I) (pc : Nat) (lv : sm_L) (st : List Value) (h : sm_H) (r : Option Value × sm_H), sm_run M n d I pc lv st h = some r → sm_mok M I → r.2.length ≤ 999 →
  ∀ (p : Program) (e : Env) (R : Room) (s : State) (m : MethodId) (args : Array Value) (below : List Frame) (meth : Method) (c : Code) (H : Heap) (locs : List Loc) (cells slots mc ms : Nat) (ls : Array Slot),
  p.tables.exec = Jvm.exec → c.code = I.2.1 → meth.sig.returnType = I.2.2.2.1 → c.maxLocals = I.2.2.1 → (∀ w ∈ sm_G, w.before args s = true) → s.vm.findClass I.1.cls = some m.cls → meth.locks = false → meth.name = I.1.name →
  va_K (dC, dI) vwCl (sm_TY dA) s → base ≤ s.heap.size → sm_Ev B X s →
  va_P (dC, dI) vwCl (sm_ws B dA 0 h) H → va_D (fun q => base ≤ q) (sm_ws B dA 0 h) → va_S (fun q => base ≤ q) s.heap H locs → lv_has ls I.2.2.1 (sm_cL B lv) →
  s.heap.size + cells = base + h.length → cells + r.2.length = mc + h.length → slots + sm_sl r.2 = ms + sm_sl h → mc ≤ R.cells → ms ≤ R.slots → d ≤ R.frames → 33 * d ≤ R.locals →
  W p l e R s m args below meth c H locs cells slots (MQ below (sm_Qc (dC, dI) B dA base r) args s mc ms (fun q => base ≤ q)) (F0 m pc ls (sm_cS B st))
theorem sm_met {n d : Nat} {J : sm_I} {as : List Value} {h : sm_H} {r : Option Value × sm_H} (hOK : sm_OK M l dC dI dA B base X n) (hX : sm_Xk l B base X) (hr : sm_run M n d J 0 (lv_args 0 as) [] h = some r) (hmok : sm_mok M J) (hcat : sm_cat as ≤ J.2.2.1) (hfin : r.2.length ≤ 999) :
    Met l J.1 (sm_WS J) (sm_rm d h r) (sm_Pc (dC, dI) B dA base X as h) (sm_Qc (dC, dI) B dA base r) (r.2.length - h.length) (sm_sl r.2 - sm_sl h) (fun q => base ≤ q) := by
  obtain ⟨z1, z2⟩ := sm_run_size M _ _ _ _ _ _ _ _ hr
  refine va_MetF (cc := J.2.1) (maxL := J.2.2.1) (ret := J.2.2.2.1) hmok.1 rfl ?_
  intro p e s m args below meth c s₁ Bd hml hv
  obtain ⟨rfl, hsz, hP, hD, hK, hE⟩ := hv
  have hts0 := atoms_spec (ws := sm_WS J) Bd.pre
  have hcat' : (lg_sl (as.map (sm_cv B))).length ≤ J.2.2.1 := by rw [sm_sl_len]; rw [show as.map (sm_cv B) = sm_cS B as from rfl, sm_cS_cat]; exact hcat
  have hl := lv_entry (as.map (sm_cv B)) (n := J.2.2.1) hcat'
  rw [sm_lv_args] at hl
  rw [lg_entry_eq]
  exact hOK d J 0 (lv_args 0 as) [] h r hr hmok hfin p e _ s m _ below meth c s.heap [] 0 0 _ _ _ Bd.exec Bd.bytes Bd.returns hml (fun w hw => hts0 w (List.mem_cons_of_mem _ hw)) (findClass_of_methodNamed Bd.named) Bd.notSynchronized (name_of_methodNamed Bd.named Bd.method).1 hK (by omega) hE hP hD va_S.rf hl (by omega) (by omega) (by omega) (Nat.le_refl _) (Nat.le_refl _) (Nat.le_refl _) (Nat.le_refl _)
theorem sm_callW {st0 rest : List Value} {mc ms : Nat} {Qa : State → Outcome → State → Prop} {free : Addr → Prop} (hr : va_Run p l e R s m args below meth c H locs cells slots mc ms (F0 m pc ls st0) rest Qa free)
    (kk : ∀ (v : Option Value) (st₀ t : State) (H1 : Heap) (L : List Loc), st₀.heap = H → t.heap = H1 → Qa st₀ (.returned v) t → (∀ q ∈ L, free q.base) → W p l e R s m args below meth c H1 (locs ++ L) (cells + mc) (slots + ms) Q (F0 m (pc + 3) ls (v.toList ++ rest))) : W p l e R s m args below meth c H locs cells slots Q (F0 m pc ls st0) := by
  intro T hT X
  obtain ⟨v, st₀, t, T', L, h0, X', hL, e1, e2, hq, st⟩ := hr T hT X
  obtain ⟨t2, a1, b1⟩ := kk v st₀ t T'.heap L h0 e1.symm hq hL T' rfl X'
  exact ⟨t2, st t2 a1, b1⟩
theorem sm_goodIn {ws : List Cond} (h : ∀ w ∈ ws, w ∈ sm_G) : GoodIn sm_G ws := fun w hw => ⟨h w hw, good_of_word (List.mem_filter.mp (h w hw)).2⟩
theorem sm_WS_in {J : sm_I} (h : sm_mok M J) : ∀ w ∈ sm_WS J, w ∈ sm_G := by
  intro w hw
  rcases List.mem_cons.mp hw with rfl | hw
  · exact sm_Gin h.2.1 rfl
  · exact hw
end SMSND
