/-! texts: what is known of the six, and calls of their own methods -/
def xk_len : List Nat := [3, 4, 5, 4, 4, 3]
def xk_byt : List (List Int32) := [[115, 111, 32], [119, 105, 115, 104], [119, 111, 114, 100, 115], [108, 101, 97, 110], [108, 111, 115, 115], [116, 119, 111]]
def xk_X (base : Nat) (adK adV : Nat → Nat) (U : State) : Prop := vk_S 6 xk_len xk_byt adK adV (fun q => base ≤ q) U U.heap ∧ va_Z "java/lang/String" "COMPACT_STRINGS" "Z" (.int 1) (fun q => base ≤ q) U U.heap ∧ va_Zq "jdk/internal/util/Preconditions" "SIOOBE_FORMATTER" "Ljava/util/function/BiFunction;" (fun q => base ≤ q) U U.heap
theorem xk_warm {base : Nat} {adK adV : Nat → Nat} {u U : State} (h : xk_X base adK adV u) (hW : u.WarmedH U.vm) (hq : ∀ q, q < u.heap.size → ¬ base ≤ q → U.heap[q]? = u.heap[q]?) : xk_X base adK adV U :=
  ⟨(vk_S.moved hW.alike h.1).kept hq, (va_Z.moved hW.alike h.2.1).kept hq, (va_Zq.moved hW.alike h.2.2).kept hq⟩
def xk_r (d : Nat) : Room := { frames := d, cells := 0, slots := 0, locals := 33 * d }
def xk_Q (v : Option Value) : Array Value → State → Outcome → State → Prop := fun _ st oc t => oc = .returned v ∧ t.heap = st.heap
abbrev xk_P (base : Nat) (adK adV : Nat → Nat) (As : List Value) : Array Value → State → Prop := va_Pc As (sm_Px base (xk_X base adK adV))
theorem xk_blind {base : Nat} {adK adV : Nat → Nat} (As : List Value) : FrameBlind (xk_P base adK adV As) := fun _ U _ _ q => ⟨q.1, q.2.1, xk_warm (u := U) q.2.2 (State.WarmedH.refl U) (fun _ _ _ => rfl)⟩
section XKC
variable {p : Program} {l : Launch} {e : Env} {R : Room} {s : State} {m : MethodId} {args : Array Value} {below : List Frame} {meth : Method} {c : Code} {locs : List Loc} {cells slots : Nat} {Q : State → Prop}
variable {cc : ByteArray} {pc : Nat} {ls : Array Slot} {base : Nat} {adK adV : Nat → Nat}
theorem xk_s (hn : ∀ q ∈ locs, False) : va_S (fun q => base ≤ q) s.heap s.heap locs := ⟨Nat.le_refl _, fun _ _ _ => rfl, fun q h => (hn q h).elim⟩
theorem xk_stat {own : String} {y : MethodName} {b : ByteArray} {nL n idx d : Nat} {t : Option FieldType} {As rest : List Value} {v : Option Value} (hx : p.tables.exec = Jvm.exec) (hb : c.code = cc) (hml : c.maxLocals = nL) (hls : ls.size = nL) (hts : ∀ w ∈ sm_G, w.before args s = true) (hown : s.vm.findClass own = some m.cls)
    (hX : xk_X base adK adV s) (hbase : base ≤ s.heap.size) (hn : ∀ q ∈ locs, False) (hcat : (rest.map fun v => v.category).sum ≤ 8) (hR : d + 1 ≤ R.frames ∧ 33 * (d + 1) ≤ R.locals) (hRc : cells ≤ R.cells) (hRs : slots ≤ R.slots)
    (hy : y.cls ≠ "java/lang/invoke/MethodHandle" ∧ y.cls ≠ "java/lang/invoke/VarHandle") (hw : Cond.code y b n t ∈ lw_tbl ∧ Cond.static y ∈ lw_tbl ∧ Cond.initialized y.cls ∈ lw_tbl) (hn14 : n ≤ 14) (hpar : sm_par y = some As.length) (hlink : Cond.methodLink own idx y ∈ lw_tbl)
    (hM : Met l y (.code y b n t :: sm_G) (xk_r d) (xk_P base adK adV As) (xk_Q v) 0 0 (fun _ => False)) (hdg : decode cc pc = .ok (.invokestatic idx, 3))
    (k : ∀ locs' : List Loc, (∀ q ∈ locs', False) → W p l e R s m args below meth c s.heap locs' cells slots Q (F0 m (pc + 3) ls (v.toList ++ rest))) :
    W p l e R s m args below meth c s.heap locs cells slots Q (F0 m pc ls (As.reverse ++ rest)) := by
  obtain ⟨w1, w2, w3⟩ := hw
  have hG : GoodIn sm_G (va_wsS own idx y (.code y b n t :: sm_G)) := sm_goodIn fun w hw => by
    rcases List.mem_append.mp hw with hw | hw
    · simp only [List.mem_cons, List.not_mem_nil, or_false] at hw
      rcases hw with rfl | rfl | rfl
      · exact sm_Gin hlink rfl
      · exact sm_Gin w2 rfl
      · exact sm_Gin w3 rfl
    · rcases List.mem_cons.mp hw with rfl | hw
      · exact sm_Gin w1 rfl
      · exact hw
  refine sm_callW (va_runS (As := As) (rest := rest) (nL := nL) (n := As.length) (index := idx) ⟨hx, hb, hml, hown, hts⟩ hM
    (va_cwS As.length hts hG rfl rfl rfl ⟨hy.1, hy.2, hpar⟩ ⟨hR.1, by show 8 + (n + 11) + 33 * d ≤ R.locals; omega⟩)
    ⟨xk_blind As, fun U hU hW => ⟨rfl, by rw [hU]; exact hbase, xk_warm (u := s) hX hW (fun q h1 h2 => by rw [hU])⟩⟩
    rfl rfl hls rfl (lv_room hcat) hdg ⟨hRc, hRs⟩) (fun v' st₀ t' H1 L h0 h1 hq hL => ?_)
  obtain ⟨hv, hh⟩ := hq
  cases hv
  have : H1 = s.heap := by rw [← h1, hh, h0]
  subst this
  exact k (locs ++ L) (fun q hq => (List.mem_append.mp hq).elim (hn q) (fun h => hL q h))
theorem xk_virt {own : String} {y : MethodName} {b : ByteArray} {nL n idx d i : Nat} {t : Option FieldType} {As rest : List Value} {v : Option Value} (hx : p.tables.exec = Jvm.exec) (hb : c.code = cc) (hml : c.maxLocals = nL) (hls : ls.size = nL) (hts : ∀ w ∈ sm_G, w.before args s = true) (hown : s.vm.findClass own = some m.cls)
    (hX : xk_X base adK adV s) (hbase : base ≤ s.heap.size) (hn : ∀ q ∈ locs, False) (hcat : (rest.map fun v => v.category).sum ≤ 8) (hR : d + 1 ≤ R.frames ∧ 33 * (d + 1) ≤ R.locals) (hRc : cells ≤ R.cells) (hRs : slots ≤ R.slots) (hi : i < 6)
    (hyc : y.cls = "java/lang/String") (hw : Cond.code y b n t ∈ lw_tbl ∧ Cond.instanceMethod y ∈ lw_tbl ∧ Cond.selects "java/lang/String" y y ∈ lw_tbl ∧ Cond.initialized "java/lang/String" ∈ lw_tbl) (hn14 : n ≤ 14) (hpar : sm_par y = some As.length) (hlink : Cond.methodLink own idx y ∈ lw_tbl)
    (hM : Met l y (.code y b n t :: sm_G) (xk_r d) (xk_P base adK adV (.ref (adK i) :: As)) (xk_Q v) 0 0 (fun _ => False)) (hdg : decode cc pc = .ok (.invokevirtual idx, 3))
    (k : ∀ locs' : List Loc, (∀ q ∈ locs', False) → W p l e R s m args below meth c s.heap locs' cells slots Q (F0 m (pc + 3) ls (v.toList ++ rest))) :
    W p l e R s m args below meth c s.heap locs cells slots Q (F0 m pc ls (As.reverse ++ .ref (adK i) :: rest)) := by
  obtain ⟨w1, w2, w3, w4⟩ := hw
  have hG : GoodIn sm_G (wsV own idx "java/lang/String" y (.code y b n t :: sm_G)) := sm_goodIn fun w hw => by
    rcases List.mem_append.mp hw with hw | hw
    · simp only [List.mem_cons, List.not_mem_nil, or_false] at hw
      rcases hw with rfl | rfl | rfl | rfl
      · exact sm_Gin hlink rfl
      · exact sm_Gin w2 rfl
      · exact sm_Gin w3 rfl
      · exact sm_Gin w4 rfl
    · rcases List.mem_cons.mp hw with rfl | hw
      · exact sm_Gin w1 rfl
      · exact hw
  refine sm_callW (va_runV (As := As) (rest := rest) (C := "java/lang/String") (nL := nL) (n := As.length) (index := idx) ⟨hx, hb, hml, hown, hts⟩ hM
    (cwV As.length hts hG rfl rfl rfl ⟨hyc, by rw [hyc]; decide, by rw [hyc]; decide, hpar⟩ ⟨hR.1, by show 8 + (n + 11) + 33 * d ≤ R.locals; omega⟩)
    ⟨xk_blind _, vk_recv hX.1 hi (xk_s hn), fun U hU hW => ⟨rfl, by rw [hU]; exact hbase, xk_warm (u := s) hX hW (fun q h1 h2 => by rw [hU])⟩⟩
    rfl rfl hls rfl (lv_room hcat) hdg ⟨hRc, hRs⟩) (fun v' st₀ t' H1 L h0 h1 hq hL => ?_)
  obtain ⟨hv, hh⟩ := hq
  cases hv
  have : H1 = s.heap := by rw [← h1, hh, h0]
  subst this
  exact k (locs ++ L) (fun q hq => (List.mem_append.mp hq).elim (hn q) (fun h => hL q h))
end XKC
