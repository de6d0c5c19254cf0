theorem sm_xw0 : Cond.code yJ0_length_8abf5 cJ0_length_8abf5 1 (some .int) ∈ lw_tbl ∧ Cond.instanceMethod yJ0_length_8abf5 ∈ lw_tbl ∧ Cond.selects RJ0 yJ0_length_8abf5 yJ0_length_8abf5 ∈ lw_tbl ∧ Cond.initialized RJ0 ∈ lw_tbl := by decide +kernel
theorem sm_xw1 : Cond.code yJ0_charAt_5068e cJ0_charAt_5068e 2 (some .char) ∈ lw_tbl ∧ Cond.instanceMethod yJ0_charAt_5068e ∈ lw_tbl ∧ Cond.selects RJ0 yJ0_charAt_5068e yJ0_charAt_5068e ∈ lw_tbl ∧ Cond.initialized RJ0 ∈ lw_tbl := by decide +kernel
theorem sm_xw2 : Cond.code yJ0_equals_9ea2d cJ0_equals_9ea2d 3 (some .boolean) ∈ lw_tbl ∧ Cond.instanceMethod yJ0_equals_9ea2d ∈ lw_tbl ∧ Cond.selects RJ0 yJ0_equals_9ea2d yJ0_equals_9ea2d ∈ lw_tbl ∧ Cond.initialized RJ0 ∈ lw_tbl := by decide +kernel
theorem sm_xp0 : sm_par yJ0_length_8abf5 = some 0 := by decide +kernel
theorem sm_xp1 : sm_par yJ0_charAt_5068e = some 1 := by decide +kernel
theorem sm_xp2 : sm_par yJ0_equals_9ea2d = some 1 := by decide +kernel
theorem sm_1000 (a : Nat) (h1 : 1000 ≤ a) (h2 : a < 1006) : 1000 + (a - 1000) = a ∧ a - 1000 < 6 := by omega
theorem sm_1000eq (a b : Nat) (h1 : 1000 ≤ a) (h3 : 1000 ≤ b) : (if a - 1000 = b - 1000 then (1 : Int32) else 0) = if a = b then 1 else 0 := by
  by_cases hab : a = b
  · subst hab; simp
  · rw [if_neg hab, if_neg (by omega)]
section SMMAIN
variable {p : Program} {l : Launch} {e : Env} {R : Room} {s : State} {m : MethodId} {args : Array Value} {below : List Frame} {meth : Method} {c : Code} {H : Heap} {locs : List Loc} {cells slots : Nat} {Q : State → Prop}
variable {cc : ByteArray} {pc : Nat} {ls : Array Slot} {dC : Nat → ClassId} {dI : Nat → Nat → Nat} {dA : Nat → ClassId} {B : Nat → Nat} {base : Nat} {X : State → Prop} {M : Nat → Option sm_I}
theorem sm_size {D : va_G} {cl : List vw_C} {h : sm_H} {g : JFrame} (hP : va_P D cl (sm_ws B dA 0 h) H) (hB : ∀ k, k < 1000 → B k = base + k) (hlen : h.length ≤ 999) (hS : va_S (fun q => base ≤ q) s.heap H locs) (hbase : base ≤ s.heap.size) (hsz : s.heap.size + cells = base + h.length)
    (kk : H.size = base + h.length → W p l e R s m args below meth c H locs cells slots Q g) : W p l e R s m args below meth c H locs cells slots Q g := by
  intro T hT X
  refine kk ?_ T hT X
  have h1 := X.heapSize
  rw [hT] at h1
  have h2 : base + h.length ≤ H.size := by
    rcases Nat.eq_zero_or_pos h.length with h0 | h0
    · have := hS.1
      omega
    · have hk : h.length - 1 < h.length := by omega
      have := (hP _ _ (sm_ws_at (B := B) (dA := dA) (List.getElem?_eq_getElem hk))).lt
      dsimp only at this
      rw [hB _ (by omega)] at this
      omega
  omega
/-- a call of one of the texts' own methods -/
theorem sm_x_ok {own : String} {y : MethodName} {b : ByteArray} {nL n idx d : Nat} {t : FieldType} {i : Nat} {As : List Value} {v : Int32} {rest : List Value} (hX : sm_Xk l B base X) (hx : p.tables.exec = Jvm.exec) (hb : c.code = cc) (hml : c.maxLocals = nL) (hls : ls.size = nL) (hts : ∀ w ∈ sm_G, w.before args s = true) (hown : s.vm.findClass own = some m.cls)
    (hE : X s) (hbase : base ≤ s.heap.size) (hS : va_S (fun q => base ≤ q) s.heap H locs) (hcat : sm_cat rest ≤ 8) (hRf : d ≤ R.frames) (hRl : 33 * d ≤ R.locals) (hd6 : 6 ≤ d) (hRc : cells ≤ R.cells) (hRs : slots ≤ R.slots) (hi : i < 6)
    (hyc : y.cls = RJ0) (hw : Cond.code y b n (some t) ∈ lw_tbl ∧ Cond.instanceMethod y ∈ lw_tbl ∧ Cond.selects RJ0 y y ∈ lw_tbl ∧ Cond.initialized RJ0 ∈ lw_tbl) (hn : n ≤ 14) (hpar : sm_par y = some As.length) (hlink : Cond.methodLink own idx y ∈ lw_tbl)
    (hM : Met l y (sm_wx y b n t) sm_rx (va_Pc (.ref (B (1000 + i)) :: As) (sm_Px base X)) (sm_Qx v) 0 0 (fun _ => False)) (hdg : decode cc pc = .ok (.invokevirtual idx, 3))
    (k : ∀ locs' : List Loc, va_S (fun q => base ≤ q) s.heap H locs' → W p l e R s m args below meth c H locs' cells slots Q (F0 m (pc + 3) ls (.int v :: rest))) :
    W p l e R s m args below meth c H locs cells slots Q (F0 m pc ls (As.reverse ++ .ref (B (1000 + i)) :: rest)) := by
  obtain ⟨w1, w2, w3, w4⟩ := hw
  obtain ⟨hlt, cell, c1, c2, c3⟩ := hX.2.1 s hE i hi
  have hG : GoodIn sm_G (wsV own idx RJ0 y (sm_wx y b n t)) := sm_goodIn fun w hw => by
    rcases List.mem_append.mp hw with hw | hw
    · simp only [List.mem_cons, List.not_mem_nil, or_false] at hw
      rcases hw with rfl | rfl | rfl | rfl
      · exact sm_Gin hlink rfl
      · exact sm_Gin w2 rfl
      · exact sm_Gin w3 rfl
      · exact sm_Gin w4 rfl
    · rcases List.mem_cons.mp hw with rfl | hw
      · exact sm_Gin w1 rfl
      · exact hw
  have hH : ∀ q, q < s.heap.size → ¬ base ≤ q → H[q]? = s.heap[q]? := hS.2.1
  have hne : RJ0 ≠ "java/lang/invoke/MethodHandle" ∧ RJ0 ≠ "java/lang/invoke/VarHandle" := ⟨by decide, by decide⟩
  refine sm_callW (va_runV (As := As) (rest := rest) (C := RJ0) (nL := nL) (n := As.length) (index := idx) ⟨hx, hb, hml, hown, hts⟩ hM
    (cwV As.length hts hG rfl rfl rfl ⟨hyc, by rw [hyc]; exact hne.1, by rw [hyc]; exact hne.2, hpar⟩ ⟨by show 5 + 1 ≤ R.frames; omega, by show 8 + (n + 11) + 165 ≤ R.locals; omega⟩)
    ⟨fun a U g mk q => ⟨q.1, q.2.1, hX.1 U _ q.2.2 (State.WarmedH.refl U) q.2.1 (fun _ _ _ => rfl)⟩, ⟨cell, by rw [hH _ (by omega) (by omega)]; exact c1, c2, c3⟩, fun U hU hW => ⟨rfl, by rw [hU]; exact Nat.le_trans hbase hS.1, hX.1 s U hE hW hbase (fun q h1 h2 => by rw [hU]; exact hH q h1 h2)⟩⟩
    rfl rfl hls rfl (lv_room hcat) hdg ⟨hRc, hRs⟩) (fun v' st₀ t' H1 L h0 h1 hq hL => ?_)
  obtain ⟨hv, hh⟩ := hq
  cases hv
  have : H1 = H := by rw [← h1, hh, h0]
  subst this
  exact k (locs ++ L) ⟨hS.1, hS.2.1, fun q hq => (List.mem_append.mp hq).elim (hS.2.2 q) (fun h => (hL q h).elim)⟩
theorem sm_split (B : Nat → Nat) (st : List Value) (n : Nat) : sm_cS B st = (((st.take n).reverse).map (sm_cv B)).reverse ++ sm_cS B (st.drop n) := by
  unfold sm_cS
  rw [List.map_reverse, List.reverse_reverse, ← List.map_append, List.take_append_drop]
/-- behind a call of a method of the table -/
theorem sm_back {h : sm_H} {q : Option Value × sm_H} {rest st0 : List Value} {a : Array Value} (hr : va_Run p l e R s m args below meth c H locs cells slots (q.2.length - h.length) (sm_sl q.2 - sm_sl h) (F0 m pc ls st0) (sm_cS B rest) (sm_Qc (dC, dI) B dA base q a) (fun x => base ≤ x))
    (hS : va_S (fun q => base ≤ q) s.heap H locs)
    (k : ∀ (H1 : Heap) (locs1 : List Loc), va_P (dC, dI) vwCl (sm_ws B dA 0 q.2) H1 → va_D (fun q => base ≤ q) (sm_ws B dA 0 q.2) → va_S (fun q => base ≤ q) s.heap H1 locs1 → W p l e R s m args below meth c H1 locs1 (cells + (q.2.length - h.length)) (slots + (sm_sl q.2 - sm_sl h)) Q (F0 m (pc + 3) ls (sm_cS B (q.1.toList ++ rest)))) :
    W p l e R s m args below meth c H locs cells slots Q (F0 m pc ls st0) := by
  refine sm_callW hr (fun v st₀ t H1 L h0 h1 hq hL => ?_)
  obtain ⟨hv, hP, hD, hF1, hF2⟩ := hq
  have hv := Outcome.returned.inj hv
  subst hv
  rw [h0] at hF1 hF2
  have e1 : (q.1.map (sm_cv B)).toList ++ sm_cS B rest = sm_cS B (q.1.toList ++ rest) := by
    cases q.1 <;> rfl
  rw [e1]
  refine k H1 (locs ++ L) (by rw [← h1]; exact hP) hD ⟨Nat.le_trans hS.1 (by rw [← h1]; exact hF1), fun x a1 a2 => ?_, fun x hx => (List.mem_append.mp hx).elim (hS.2.2 x) (hL x)⟩
  rw [← h1, hF2 x (Nat.lt_of_lt_of_le a1 hS.1) a2]
  exact hS.2.1 x a1 a2
set_option maxHeartbeats 8000000 in
theorem sm_sound (hB : ∀ k, k < 1000 → B k = base + k) (hX : sm_Xk l B base X) (hM : ∀ a J, M a = some J → sm_mok M J) : ∀ n, sm_OK M l dC dI dA B base X n := by
  intro n
  induction n with
  | zero => intro d I pc lv st h r hr; cases hr
  | succ n ih =>
    intro d I pc lv st h r hr hmok hfin p e R s m args below meth c H locs cells slots mc ms ls hx hb hrt hml hts hown hlocks hname hK hbase hE hP hD hS hl hsz hmc hms hRc hRs hRf hRl
    have hr0 := sm_run_size M _ _ _ _ _ _ _ _ hr
    unfold sm_run at hr
    split at hr
    rotate_left
    · cases hr
    rename_i w hw
    obtain ⟨hd, hj, hlk, hck⟩ := hmok.2.2.2.2.2 pc w hw
    have hnext := fun pc' lv' st' h' (hr' : sm_run M n d I pc' lv' st' h' = some r) H' locs' cells' slots' ls' => ih d I pc' lv' st' h' r hr' hmok hfin p e R s m args below meth c H' locs' cells' slots' mc ms ls' hx hb hrt hml hts hown hlocks hname hK hbase hE
    split at hr
    · rename_i g hg
      exact sm_p_ok hx hb hd hj hg hl (fun ls' hl' => hnext _ _ _ _ hr _ _ _ _ ls' hP hD hS hl' hsz hmc hms hRc hRs hRf hRl)
    rename_i hz
    clear hz
    split at hr
    · rename_i g hg
      obtain ⟨z1, z2⟩ := sm_h_size hg
      exact sm_h_ok hx hb hts hown (fun hi => by rw [hname]; simpa using hi) hK hP hD hS hd hlk hg (fun H1 locs1 a1 a2 a3 => hnext _ _ _ _ hr _ _ _ _ ls a1 a2 a3 hl (by omega) (by omega) (by omega) hRc hRs hRf hRl)
    rename_i hz
    clear hz
    split at hr
    · rename_i g hg
      obtain ⟨z1, z2⟩ := sm_k_size hg
      obtain ⟨y1, y2⟩ := sm_run_size M _ _ _ _ _ _ _ _ hr
      refine sm_k_ok hx hb hml hl.1 hts hown hK hP hD hS hbase hB hE.2.2.1 hE.1 sm_hobj sm_hcpy ⟨fun h9 idx hi => ?_, fun h9 idx hi => ?_⟩ hsz hRf hRl hd hlk hg (by omega) (by omega) (fun H1 locs1 c1 s1 e1 e2 a1 a2 a3 => hnext _ _ _ _ hr _ _ _ _ ls a1 a2 a3 hl (by omega) (by omega) (by omega) hRc hRs hRf hRl)
      · unfold sm_ck at hck; rw [hi] at hck; exact hck.1 h9
      · unfold sm_ck at hck; rw [hi] at hck; exact hck.1 h9
    rename_i hz
    clear hz
    split at hr
    · rename_i g hg
      unfold sm_x at hg
      split at hg <;> first | (cases hg; done) | skip
      rename_i idx hi
      have hd2 := sm_dc1 hd (by rw [hi]; rfl)
      rw [hi] at hd2
      unfold sm_ck at hck
      rw [hi] at hck
      have hfinish : ∀ (v : Int32) (rest : List Value), g = .int v :: rest → ∀ locs' : List Loc, va_S (fun q => base ≤ q) s.heap H locs' → W p l e R s m args below meth c H locs' cells slots (MQ below (sm_Qc (dC, dI) B dA base r) args s mc ms (fun q => base ≤ q)) (F0 m (pc + 3) ls (.int v :: sm_cS B rest)) := by
        intro v rest hg locs' hS'
        subst hg
        exact hnext _ _ _ _ hr _ _ _ _ ls hP hD hS' hl hsz hmc hms hRc hRs hRf hRl
      split at hg
      · rename_i h9
        split at hg <;> first | (cases hg; done) | skip
        rename_i a rest
        split at hg <;> first | (cases hg; done) | skip
        rename_i hh
        obtain ⟨hd6, hcat, h1, h2⟩ := hh
        cases hg
        obtain ⟨ha, ha6⟩ := sm_1000 a h1 h2
        have := sm_x_ok (ls := ls) (i := a - 1000) (As := []) (rest := sm_cS B rest) (Q := MQ below (sm_Qc (dC, dI) B dA base r) args s mc ms (fun q => base ≤ q)) hX hx hb hml hl.1 hts hown hE.2.2.2 hbase hS (by rw [sm_cS_cat]; exact hcat) hRf hRl hd6 (by omega) (by omega) ha6 rfl sm_xw0 (by decide) sm_xp0 (hck.1 h9) (hX.2.2.1 (a - 1000) ha6) hd2 (hfinish _ _ rfl)
        rw [ha] at this
        exact this
      split at hg
      · rename_i h9
        split at hg <;> first | (cases hg; done) | skip
        rename_i i a rest
        split at hg <;> first | (cases hg; done) | skip
        rename_i hh
        obtain ⟨hd6, hcat, h1, h2, h3⟩ := hh
        cases hg
        obtain ⟨ha, ha6⟩ := sm_1000 a h1 h2
        have := sm_x_ok (ls := ls) (i := a - 1000) (As := [.int i]) (rest := sm_cS B rest) (Q := MQ below (sm_Qc (dC, dI) B dA base r) args s mc ms (fun q => base ≤ q)) hX hx hb hml hl.1 hts hown hE.2.2.2 hbase hS (by rw [sm_cS_cat]; exact hcat) hRf hRl hd6 (by omega) (by omega) ha6 rfl sm_xw1 (by decide) sm_xp1 (hck.2.1 h9) (hX.2.2.2.1 (a - 1000) ha6 i h3) hd2 (hfinish _ _ rfl)
        rw [ha] at this
        exact this
      split at hg
      · rename_i h9
        split at hg <;> first | (cases hg; done) | skip
        rename_i b a rest
        split at hg <;> first | (cases hg; done) | skip
        rename_i hh
        obtain ⟨hd6, hcat, h1, h2, h3, h4⟩ := hh
        cases hg
        obtain ⟨ha, ha6⟩ := sm_1000 a h1 h2
        obtain ⟨hb2, hb6⟩ := sm_1000 b h3 h4
        have hMet := hX.2.2.2.2 (a - 1000) (b - 1000) ha6 hb6
        rw [sm_1000eq a b h1 h3, hb2] at hMet
        have := sm_x_ok (ls := ls) (i := a - 1000) (As := [.ref (B b)]) (rest := sm_cS B rest) (Q := MQ below (sm_Qc (dC, dI) B dA base r) args s mc ms (fun q => base ≤ q)) hX hx hb hml hl.1 hts hown hE.2.2.2 hbase hS (by rw [sm_cS_cat]; exact hcat) hRf hRl hd6 (by omega) (by omega) ha6 rfl sm_xw2 (by decide) sm_xp2 (hck.2.2.1 h9) hMet hd2 (hfinish _ _ rfl)
        rw [ha] at this
        exact this
      · cases hg
    rename_i hz
    clear hz
    split at hr
    · rename_i v hg
      cases hr
      have e1 : mc = cells := by dsimp only at hmc; omega
      have e2 : ms = slots := by dsimp only at hms; omega
      subst e1
      subst e2
      have hq : ∀ (oc : Outcome) (t : State), oc = .returned (v.map (sm_cv B)) → t.heap = H → sm_Qc (dC, dI) B dA base (v, h) args s oc t := fun oc t ho ht => ⟨ho, by rw [ht]; exact hP, hD, hS.F ht⟩
      unfold sm_rt at hg
      split at hg <;> first | (cases hg; done) | skip
      · rename_i h1 h2
        cases hg
        have hd2 := sm_dc1 hd (by rw [h1]; rfl)
        rw [h1] at hd2
        exact W.vret hx hb (hrt.trans h2) (fun t ht _ => hq _ t rfl ht) hS.2.2 hd2 hlocks
      · rename_i x h1 h2
        cases hg
        have hd2 := sm_dc1 hd (by rw [h1]; rfl)
        rw [h1] at hd2
        exact W.iret hx hb (hrt.trans h2) (fun t ht _ => hq _ t rfl ht) hS.2.2 hd2 hlocks
      · rename_i x h1 h2
        split at hg <;> first | (cases hg; done) | skip
        rename_i hz
        cases hg
        have hd2 := sm_dc1 hd (by rw [h1]; rfl)
        rw [h1] at hd2
        exact W.zret hx hb (hrt.trans h2) (by rcases hz with hz | hz <;> subst hz <;> decide) (fun t ht _ => hq _ t rfl ht) hS.2.2 hd2 hlocks
      · rename_i x h1 h2
        cases hg
        have hd2 := sm_dc1 hd (by rw [h1]; rfl)
        rw [h1] at hd2
        exact W.lret hx hb (hrt.trans h2) (fun t ht _ => hq _ t rfl ht) hS.2.2 hd2 hlocks
      · rename_i nm a h1 h2
        cases hg
        have hd2 := sm_dc1 hd (by rw [h1]; rfl)
        rw [h1] at hd2
        exact W.aret hx hb (hrt.trans h2) (Or.inl ⟨_, rfl⟩) (Or.inr ⟨_, rfl⟩) (fun t ht _ => hq _ t rfl ht) hS.2.2 hd2 hlocks
      · rename_i nm h1 h2
        cases hg
        have hd2 := sm_dc1 hd (by rw [h1]; rfl)
        rw [h1] at hd2
        exact W.aret hx hb (hrt.trans h2) (Or.inl ⟨_, rfl⟩) (Or.inl rfl) (fun t ht _ => hq _ t rfl ht) hS.2.2 hd2 hlocks
    rename_i hz
    clear hz
    split at hr
    rotate_left
    · cases hr
    rename_i g hg
    split at hr
    · cases hr
    rename_i d
    split at hr
    rotate_left
    · cases hr
    rename_i J hJ
    split at hr
    rotate_left
    · cases hr
    rename_i hcat
    split at hr
    rotate_left
    · cases hr
    rename_i q hq
    have hmJ := hM _ _ hJ
    obtain ⟨y1, y2⟩ := sm_run_size M _ _ _ _ _ _ _ _ hr
    obtain ⟨x1, x2⟩ := sm_run_size M _ _ _ _ _ _ _ _ hq
    have hMet := sm_met ih hX hq hmJ hcat (by omega)
    have hGW := sm_goodIn (sm_WS_in hmJ)
    have hbl := sm_blind (D := (dC, dI)) (dA := dA) hX g.2.1 h
    have hne := hmJ.2.2.2.1
    have hini := hts _ (sm_Gin hmJ.2.2.1 rfl)
    have hroom : (sm_rm d h q).frames + 1 ≤ R.frames ∧ 8 + (J.2.2.1 + 11) + (sm_rm d h q).locals ≤ R.locals := ⟨hRf, by have := hmJ.2.2.2.2.1; show 8 + (J.2.2.1 + 11) + 33 * d ≤ R.locals; omega⟩
    have hf : cells + (q.2.length - h.length) ≤ R.cells ∧ slots + (sm_sl q.2 - sm_sl h) ≤ R.slots := ⟨by omega, by omega⟩
    refine sm_size hP hB (by omega) hS hbase hsz (fun hH => ?_)
    have hpc : ∀ U : State, U.heap = H → s.WarmedH U.vm → sm_Pc (dC, dI) B dA base X g.2.1 h (g.2.1.map (sm_cv B)).toArray U := fun U hU hW => ⟨rfl, by rw [hU]; exact hH, by rw [hU]; exact hP, hD, va_K.moved hW.alike hK, hE.warm hX hW hbase (fun z z1 z2 => by rw [hU]; exact hS.2.1 z z1 z2)⟩
    have hk := fun (rest : List Value) (hrest : g.2.2 = rest) (H1 : Heap) (locs1 : List Loc) (a1 : va_P (dC, dI) vwCl (sm_ws B dA 0 q.2) H1) (a2 : va_D (fun q => base ≤ q) (sm_ws B dA 0 q.2)) (a3 : va_S (fun q => base ≤ q) s.heap H1 locs1) => (by
      subst hrest
      exact hnext _ _ _ _ hr H1 locs1 (cells + (q.2.length - h.length)) (slots + (sm_sl q.2 - sm_sl h)) ls a1 a2 a3 hl (by omega) (by omega) (by omega) hRc hRs hRf hRl : W p l e R s m args below meth c H1 locs1 (cells + (q.2.length - h.length)) (slots + (sm_sl q.2 - sm_sl h)) (MQ below (sm_Qc (dC, dI) B dA base r) args s mc ms (fun q => base ≤ q)) (F0 m (pc + 3) ls (sm_cS B (q.1.toList ++ rest))))
    unfold sm_cl at hg
    unfold sm_ck at hck
    split at hg <;> first | (cases hg; done) | skip
    · rename_i idx hi
      have hd2 := sm_dc1 hd (by rw [hi]; rfl)
      rw [hi] at hd2 hck
      split at hg <;> first | (cases hg; done) | skip
      rename_i b rest hst
      split at hg <;> first | (cases hg; done) | skip
      rename_i ci fs hc
      split at hg <;> first | (cases hg; done) | skip
      rename_i hh
      obtain ⟨hci, hcr, hln⟩ := hh
      cases hg
      obtain ⟨⟨qc, hqc, hqn⟩, hpar, w1, w2, w3⟩ := hck.2.2.2 J hJ
      have hcs := sm_split B st w.2.2.1
      rw [hst] at hcs
      rw [hcs]
      have hlen : (((st.take w.2.2.1).reverse).map (sm_cv B)).length = w.2.2.1 := by rw [List.length_map, List.length_reverse, List.length_take]; omega
      rw [hci] at hc
      have hrv := va_recv (q := qc) hK hP hqc (sm_ws_at hc)
      rw [hqn] at hrv
      rcases w3 with w3 | ⟨host, w3⟩
      · refine sm_back (q := q) (va_runV (As := ((st.take w.2.2.1).reverse).map (sm_cv B)) (rest := sm_cS B rest) (C := J.1.cls) ⟨hx, hb, hml, hown, hts⟩ hMet (cwV w.2.2.1 hts (sm_goodIn fun z hz => ?_) rfl rfl rfl ⟨rfl, hne.1, hne.2, hpar⟩ hroom) ⟨hbl, hrv, hpc⟩ rfl hlen hl.1 rfl (lv_room (by rw [← sm_cS_cat B] at hcr; exact hcr)) hd2 hf) hS (hk rest rfl)
        rcases List.mem_append.mp hz with hz | hz
        · simp only [List.mem_cons, List.not_mem_nil, or_false] at hz
          rcases hz with rfl | rfl | rfl | rfl
          · exact sm_Gin w3 rfl
          · exact sm_Gin w1 rfl
          · exact sm_Gin w2 rfl
          · exact sm_Gin hmJ.2.2.1 rfl
        · exact sm_WS_in hmJ z hz
      · exact sm_back (q := q) (va_runVN (As := ((st.take w.2.2.1).reverse).map (sm_cv B)) (rest := sm_cS B rest) (C := J.1.cls) ⟨hx, hb, hml, hown, hts⟩ hMet ⟨va_cnB w.2.2.1 hts hGW rfl rfl rfl (hE.2.1 _ _ _ _ w3) hini ⟨hne.1, hne.2, hpar⟩ hroom, hts _ (sm_Gin w1 rfl), hts _ (sm_Gin w2 rfl)⟩ ⟨hbl, hrv, hpc⟩ rfl hlen hl.1 rfl (lv_room (by rw [← sm_cS_cat B] at hcr; exact hcr)) hd2 hf) hS (hk rest rfl)
    · rename_i idx hi
      have hd2 := sm_dc1 hd (by rw [hi]; rfl)
      rw [hi] at hd2 hck
      split at hg <;> first | (cases hg; done) | skip
      rename_i b rest hst
      split at hg <;> first | (cases hg; done) | skip
      rename_i hh
      obtain ⟨hcr, hln⟩ := hh
      cases hg
      obtain ⟨hpar, w1, w2, w4, w3⟩ := hck.2 J hJ
      have hcs := sm_split B st w.2.2.1
      rw [hst] at hcs
      rw [hcs]
      have hlen : (((st.take w.2.2.1).reverse).map (sm_cv B)).length = w.2.2.1 := by rw [List.length_map, List.length_reverse, List.length_take]; omega
      have hcode : sm_WS J = Cond.code J.1 J.2.1 J.2.2.1 none :: sm_G := by unfold sm_WS; rw [w4]
      rcases w3 with w3 | ⟨host, w3⟩
      · exact sm_back (q := q) (va_runI (As := ((st.take w.2.2.1).reverse).map (sm_cv B)) (rest := sm_cS B rest) ⟨hx, hb, hml, hown, hts⟩ hMet (cwI w.2.2.1 hts hGW hcode rfl rfl hini (hts _ (sm_Gin w3 rfl)) (hts _ (sm_Gin w1 rfl)) w2 ⟨hne.1, hne.2, hpar⟩ hroom) ⟨hbl, hpc⟩ rfl hlen hl.1 rfl (lv_room (by rw [← sm_cS_cat B] at hcr; exact hcr)) hd2 hf) hS (hk rest rfl)
      · exact sm_back (q := q) (va_runIN (As := ((st.take w.2.2.1).reverse).map (sm_cv B)) (rest := sm_cS B rest) ⟨hx, hb, hml, hown, hts⟩ hMet ⟨va_cnB w.2.2.1 hts hGW hcode rfl rfl (hE.2.1 _ _ _ _ w3) hini ⟨hne.1, hne.2, hpar⟩ hroom, w2, hts _ (sm_Gin w1 rfl)⟩ ⟨hbl, hpc⟩ rfl hlen hl.1 rfl (lv_room (by rw [← sm_cS_cat B] at hcr; exact hcr)) hd2 hf) hS (hk rest rfl)
    · rename_i idx hi
      have hd2 := sm_dc1 hd (by rw [hi]; rfl)
      rw [hi] at hd2 hck
      split at hg <;> first | (cases hg; done) | skip
      rename_i hh
      obtain ⟨hcr, hln⟩ := hh
      cases hg
      obtain ⟨hpar, w1, w3⟩ := hck.2 J hJ
      have hcs := sm_split B st w.2.2.1
      rw [hcs]
      have hlen : (((st.take w.2.2.1).reverse).map (sm_cv B)).length = w.2.2.1 := by rw [List.length_map, List.length_reverse, List.length_take]; omega
      rcases w3 with w3 | ⟨host, w3⟩
      · refine sm_back (q := q) (va_runS (As := ((st.take w.2.2.1).reverse).map (sm_cv B)) (rest := sm_cS B (st.drop w.2.2.1)) ⟨hx, hb, hml, hown, hts⟩ hMet (va_cwS w.2.2.1 hts (sm_goodIn fun z hz => ?_) rfl rfl rfl ⟨hne.1, hne.2, hpar⟩ hroom) ⟨hbl, hpc⟩ rfl hlen hl.1 rfl (lv_room (by rw [← sm_cS_cat B] at hcr; exact hcr)) hd2 hf) hS (hk _ rfl)
        rcases List.mem_append.mp hz with hz | hz
        · simp only [List.mem_cons, List.not_mem_nil, or_false] at hz
          rcases hz with rfl | rfl | rfl
          · exact sm_Gin w3 rfl
          · exact sm_Gin w1 rfl
          · exact sm_Gin hmJ.2.2.1 rfl
        · exact sm_WS_in hmJ z hz
      · exact sm_back (q := q) (va_runSN (As := ((st.take w.2.2.1).reverse).map (sm_cv B)) (rest := sm_cS B (st.drop w.2.2.1)) ⟨hx, hb, hml, hown, hts⟩ hMet ⟨va_cnB w.2.2.1 hts hGW rfl rfl rfl (hE.2.1 _ _ _ _ w3) hini ⟨hne.1, hne.2, hpar⟩ hroom, hts _ (sm_Gin w1 rfl), trivial⟩ ⟨hbl, hpc⟩ rfl hlen hl.1 rfl (lv_room (by rw [← sm_cS_cat B] at hcr; exact hcr)) hd2 hf) hS (hk _ rfl)
end SMMAIN
