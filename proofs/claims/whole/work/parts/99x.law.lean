/-! the law: its instructions, its calls -/
theorem fd_len (U V : sU) (a c : Nat) : (fdU U a c).length = (fdU V a c).length := by
  unfold fdU
  split <;> rfl
theorem sl_sz (U V : sU) (a : Nat) (q : Nat × Nat) : sm_sz (ceU U a q) = sm_sz (ceU V a q) := by
  unfold ceU
  split <;> first | rfl | exact fd_len U V a _
theorem sl_lay (U V : sU) : sm_sl (lay U) = sm_sl (lay V) := by
  have e : (lay U).map sm_sz = (lay V).map sm_sz := by
    apply List.ext_getElem?
    intro i
    unfold lay
    rw [List.getElem?_map, List.getElem?_map, List.getElem?_mapIdx, List.getElem?_mapIdx, Option.map_map, Option.map_map]
    exact congrArg (fun f => Option.map f sm_shape[i]?) (funext fun q => sl_sz U V i q)
  unfold sm_sl
  rw [e]
def lwS : Nat := sm_sl (lay Ud)
theorem lwS_le : lwS ≤ 100000 := by decide +kernel
def lw_D : Nat → List ClassFile.Instr → Prop
  | _, [] => True
  | pc, i :: l => decode code pc = .ok (i, sm_len i) ∧ lw_D (pc + sm_len i) l
def lw_sq : List ClassFile.Instr → List UInt8 → Bool
  | [], _ => true
  | i :: l, bs => sm_fb i bs && lw_sq l (bs.drop (sm_len i))
theorem lw_D_of : ∀ (l : List ClassFile.Instr) (pc : Nat), lw_sq l (code.data.toList.drop pc) = true → lw_D pc l := by
  intro l
  induction l with
  | nil => intro pc _; trivial
  | cons i l ih =>
    intro pc h
    unfold lw_sq at h
    obtain ⟨h1, h2⟩ := (Bool.and_eq_true _ _).mp h
    refine ⟨sm_fb_ok (fun k b hb => by rw [← hb, List.getElem?_drop]) h1, ih (pc + sm_len i) ?_⟩
    rw [List.drop_drop] at h2
    exact h2
def lw_pu : List Nat → List ClassFile.Instr
  | [] => []
  | k :: ks => .aload_n 0 :: .iload_n 3 :: .iconst k :: .iadd :: .iaload :: lw_pu ks
theorem lw_D_pu : ∀ (ks : List Nat) (pc : Nat) (l : List ClassFile.Instr), lw_D pc (lw_pu ks ++ l) → lw_D pc (lw_pu ks) ∧ lw_D (pc + 5 * ks.length) l := by
  intro ks
  induction ks with
  | nil => intro pc l h; exact ⟨trivial, h⟩
  | cons k ks ih =>
    intro pc l h
    obtain ⟨h0, h1, h2, h3, h4, h5⟩ := h
    obtain ⟨g1, g2⟩ := ih _ _ h5
    refine ⟨⟨h0, h1, h2, h3, h4, g1⟩, ?_⟩
    have e : pc + 5 * (k :: ks).length = pc + sm_len (ClassFile.Instr.aload_n 0) + sm_len (ClassFile.Instr.iload_n 3) + sm_len (ClassFile.Instr.iconst k) + sm_len ClassFile.Instr.iadd + sm_len ClassFile.Instr.iaload + 5 * ks.length := by
      show pc + 5 * (ks.length + 1) = pc + 1 + 1 + 1 + 1 + 1 + 5 * ks.length
      omega
    rw [e]
    exact g2
theorem lw_ic : ∀ k, k < 6 → Int32.ofInt ((k : Nat) : Int) = Int32.ofNat k := by decide +kernel
def lw_St (dC : Nat → ClassId) (dI : Nat → Nat → Nat) (dA : Nat → ClassId) (B : Nat → Nat) (s : State) (U : sU) (H : Heap) (locs : List Loc) : Prop := va_P (dC, dI) vwCl (sm_ws B dA 0 (lay U)) H ∧ va_D (fun q => s.heap.size ≤ q) (sm_ws B dA 0 (lay U)) ∧ va_S (fun q => s.heap.size ≤ q) s.heap H locs
def lw_K (s : State) (dC : Nat → ClassId) (dI : Nat → Nat → Nat) (dA : Nat → ClassId) (B : Nat → Nat) (adK adV : Nat → Nat) : Prop := va_K (dC, dI) vwCl (sm_TY dA) s ∧ (∀ k, k < 1000 → B k = s.heap.size + k) ∧ (∀ i, i < 6 → B (1000 + i) = adK i) ∧ sm_Ev B (xk_X s.heap.size adK adV) s
section LWC
variable {p : Program} {l : Launch} {e : Env} {s : State} {m : MethodId} {below : List Frame} {meth : Method} {c : Code} {H : Heap} {locs : List Loc} {Q : State → Prop} {cells slots : Nat}
variable {pc : Nat} {ls : Array Slot} {dC : Nat → ClassId} {dI : Nat → Nat → Nat} {dA : Nat → ClassId} {B : Nat → Nat} {adK adV : Nat → Nat} {b L : Nat} {xs : Nat → Int32}
theorem lw_G (C : lw_At p s m meth c b L xs) : ∀ w ∈ sm_G, w.before #[Value.ref b] s = true := fun w hw => C.2.2.2.2.2.1 w (List.mem_filter.mp hw).1
theorem lw_call0 (C : lw_At p s m meth c b L xs) (K : lw_K s dC dI dA B adK adV) {J : sm_I} {n jn idx a ci : Nat} {qc : vw_C} {as rest fs : List Value} {v : Value} {h : sm_H} {q : Option Value × sm_H} (hJ : sm_M jn = some J) (ha : h[a]? = some (.inr (ci, fs))) (hcl : vwCl[ci]? = some qc) (hqc : qc.1 = J.1.cls) (hpar : sm_par J.1 = some as.length) (hw : Cond.methodLink R_law idx J.1 ∈ lw_tbl ∧ Cond.instanceMethod J.1 ∈ lw_tbl ∧ Cond.selects J.1.cls J.1 J.1 ∈ lw_tbl) (hcat0 : sm_cat (.ref a :: as) ≤ J.2.2.1) (hrun : sm_run sm_M n 10 J 0 (lv_args 0 (.ref a :: as)) [] h = some q) (l1 : h.length = 314) (l2 : q.2.length = 314) (s1 : sm_sl h = lwS) (s2 : sm_sl q.2 = lwS) (hq : q.1 = some v) (hcat : sm_cat rest ≤ 8) (hd : decode code pc = .ok (.invokevirtual idx, 3)) (hls : ls.size = 4) (hP : va_P (dC, dI) vwCl (sm_ws B dA 0 h) H) (hD : va_D (fun q => s.heap.size ≤ q) (sm_ws B dA 0 h)) (hS : va_S (fun q => s.heap.size ≤ q) s.heap H locs)
    (k : ∀ (H1 : Heap) (locs1 : List Loc), va_P (dC, dI) vwCl (sm_ws B dA 0 q.2) H1 → va_D (fun q => s.heap.size ≤ q) (sm_ws B dA 0 q.2) → va_S (fun q => s.heap.size ≤ q) s.heap H1 locs1 → W p l e room_1 s m #[Value.ref b] below meth c H1 locs1 314 lwS Q (F0 m (pc + 3) ls (sm_cv B v :: sm_cS B rest))) :
    W p l e room_1 s m #[Value.ref b] below meth c H locs 314 lwS Q (F0 m pc ls ((as.map (sm_cv B)).reverse ++ .ref (B a) :: sm_cS B rest)) := by
  have htsG := lw_G C
  obtain ⟨hx, hb, hr, hml, hown, hts, hXs, hbl, hlocks, hgv⟩ := C
  obtain ⟨hK, hB, hBs, hE⟩ := K
  obtain ⟨w1, w2, w3⟩ := hw
  have hX := xk_all l B s.heap.size adK adV hBs
  have hmJ := sm_M_ok jn J hJ
  have hne := hmJ.2.2.2.1
  have hMet := sm_met (n := n) (d := 10) (dC := dC) (dI := dI) (dA := dA) (sm_sound hB hX sm_M_ok n) hX hrun hmJ hcat0 (by omega)
  have hrv := va_recv (q := qc) hK hP hcl (sm_ws_at ha)
  rw [hqc] at hrv
  have hbl2 := sm_blind (D := (dC, dI)) (dA := dA) hX (.ref a :: as) h
  refine sm_size hP hB (by omega) hS (Nat.le_refl _) (by omega) (fun hH => ?_)
  have hpc : ∀ U' : State, U'.heap = H → s.WarmedH U'.vm → sm_Pc (dC, dI) B dA s.heap.size (xk_X s.heap.size adK adV) (.ref a :: as) h ((Value.ref a :: as).map (sm_cv B)).toArray U' := fun U' hU hW => ⟨rfl, by rw [hU]; exact hH, by rw [hU]; exact hP, hD, va_K.moved hW.alike hK, hE.warm hX hW (Nat.le_refl _) (fun z z1 z2 => by rw [hU]; exact hS.2.1 z z1 z2)⟩
  refine sm_back (q := q) (h := h) (rest := rest) (va_runV (As := as.map (sm_cv B)) (rest := sm_cS B rest) (C := J.1.cls) ⟨hx, hb, hml, hown, htsG⟩ hMet (cwV as.length htsG (sm_goodIn fun z hz => ?_) rfl rfl rfl ⟨rfl, hne.1, hne.2, hpar⟩ ⟨?_, ?_⟩) ⟨hbl2, hrv, hpc⟩ rfl (by rw [List.length_map]) hls rfl (lv_room (by rw [← sm_cS_cat B] at hcat; exact hcat)) hd ⟨?_, ?_⟩) hS (fun H1 locs1 a1 a2 a3 => ?_)
  · rcases List.mem_append.mp hz with hz | hz
    · simp only [List.mem_cons, List.not_mem_nil, or_false] at hz
      rcases hz with rfl | rfl | rfl | rfl
      · exact sm_Gin w1 rfl
      · exact sm_Gin w2 rfl
      · exact sm_Gin w3 rfl
      · exact sm_Gin hmJ.2.2.1 rfl
    · exact sm_WS_in hmJ z hz
  · show 10 + 1 ≤ 11
    omega
  · have := hmJ.2.2.2.2.1
    show 8 + (J.2.2.1 + 11) + 33 * 10 ≤ 402
    omega
  · have e : 314 + (q.2.length - h.length) = 314 := by omega
    rw [e]
    exact Nat.le_of_ble_eq_true rfl
  · have e : lwS + (sm_sl q.2 - sm_sl h) = lwS := by omega
    rw [e]
    exact Nat.le_trans lwS_le (Nat.le_of_ble_eq_true rfl)
  · refine W.widen (k := 314) (n := lwS) (by omega) (by omega) ?_
    have := k H1 locs1 a1 a2 a3
    rw [hq]
    exact this
theorem lw_call (C : lw_At p s m meth c b L xs) (K : lw_K s dC dI dA B adK adV) {J : sm_I} {jn idx a ci : Nat} {qc : vw_C} {as rest : List Value} {v : Value} {U U1 : sU} (hJ : sm_M jn = some J) (ha : sh a = ci) (h11 : ci < 11) (hcl : vwCl[ci]? = some qc) (hqc : qc.1 = J.1.cls) (hpar : sm_par J.1 = some as.length) (hw : Cond.methodLink R_law idx J.1 ∈ lw_tbl ∧ Cond.instanceMethod J.1 ∈ lw_tbl ∧ Cond.selects J.1.cls J.1 J.1 ∈ lw_tbl) (hR : Rn 10 J (.ref a :: as) U (some v) U1) (hcat : sm_cat rest ≤ 8) (hd : decode code pc = .ok (.invokevirtual idx, 3)) (hls : ls.size = 4) (T : lw_St dC dI dA B s U H locs)
    (k : ∀ (H1 : Heap) (locs1 : List Loc), lw_St dC dI dA B s U1 H1 locs1 → W p l e room_1 s m #[Value.ref b] below meth c H1 locs1 314 lwS Q (F0 m (pc + 3) ls (sm_cv B v :: sm_cS B rest))) :
    W p l e room_1 s m #[Value.ref b] below meth c H locs 314 lwS Q (F0 m pc ls ((as.map (sm_cv B)).reverse ++ .ref (B a) :: sm_cS B rest)) := by
  obtain ⟨hP, hD, hS⟩ := T
  obtain ⟨hcat0, n, hrun⟩ := hR
  have sU0 : sm_sl (lay U) = lwS := by unfold lwS; exact sl_lay U Ud
  have sU1 : sm_sl (lay U1) = lwS := by unfold lwS; exact sl_lay U1 Ud
  have lU := lay_len U
  have lU1 := lay_len U1
  have hf := lay_o (U := U) ha h11
  have kk : ∀ (H1 : Heap) (locs1 : List Loc), va_P (dC, dI) vwCl (sm_ws B dA 0 (lay U1)) H1 → va_D (fun q => s.heap.size ≤ q) (sm_ws B dA 0 (lay U1)) → va_S (fun q => s.heap.size ≤ q) s.heap H1 locs1 → W p l e room_1 s m #[Value.ref b] below meth c H1 locs1 314 lwS Q (F0 m (pc + 3) ls (sm_cv B v :: sm_cS B rest)) := fun H1 locs1 a1 a2 a3 => k H1 locs1 ⟨a1, a2, a3⟩
  generalize fdU U a ci = fs at hf
  generalize lay U = h at hP hD hrun sU0 lU hf
  generalize lay U1 = h1 at hrun sU1 lU1 kk
  exact lw_call0 C K (q := (some v, h1)) hJ hf hcl hqc hpar hw hcat0 hrun lU lU1 sU0 sU1 rfl hcat hd hls hP hD hS kk
theorem lw_push (C : lw_At p s m meth c b L xs) {i o1 o2 : Nat} (hl : lv_has ls 4 [(0, .ref b), (1, .ref o1), (2, .ref o2), (3, .int (Int32.ofNat i))]) (hi : i + 5 < L) (hL : L ≤ 3072) (hS : va_S (fun q => s.heap.size ≤ q) s.heap H locs) : ∀ (ks : List Nat) (pc : Nat) (st : List Value), (∀ k ∈ ks, k < 6) → lw_D pc (lw_pu ks) → W p l e room_1 s m #[Value.ref b] below meth c H locs cells slots Q (F0 m (pc + 5 * ks.length) ls ((ks.map (fun k => Value.int (xs (i + k)))).reverse ++ st)) → W p l e room_1 s m #[Value.ref b] below meth c H locs cells slots Q (F0 m pc ls st) := by
  obtain ⟨hx, hb, hr, hml, hown, hts, hXs, hbl, hlocks, hgv⟩ := C
  intro ks
  induction ks with
  | nil => intro pc st _ _ kk; exact kk
  | cons k ks ih =>
    intro pc st hks D kk
    obtain ⟨d0, d1, d2, d3, d4, d5⟩ := D
    have k6 : k < 6 := hks k List.mem_cons_self
    have ei : (Int32.ofNat i + Int32.ofNat k).toInt = i + k := by
      rw [a32 (by rw [ofNat_int (by omega), ofNat_int (by omega)]; omega) (by rw [ofNat_int (by omega), ofNat_int (by omega)]; omega), ofNat_int (by omega), ofNat_int (by omega)]
    have ec : (Int32.ofNat i + Int32.ofNat k).toNatClampNeg = i + k := by rw [clamp_int, ei]; omega
    have hin : vp_in (Int32.ofNat i + Int32.ofNat k) L := fun q => q.elim (fun z => by rw [i32_lt0, ei] at z; omega) (fun z => by rw [ec] at z; omega)
    refine lv_aload_n hx hb d0 rfl (lv_at hl 0 rfl) ?_
    refine lv_iload_n hx hb d1 rfl (lv_at hl 3 rfl) ?_
    refine lv_iconst (v := Int32.ofNat k) hx hb d2 (lw_ic k k6) ?_
    refine lv_iadd hx hb d3 ?_
    refine va_sld hx hb hXs hbl (Nat.not_le.mpr hbl) hS hin d4 ?_
    rw [ec]
    refine ih _ (.int (xs (i + k)) :: st) (fun k hk => hks k (List.mem_cons_of_mem _ hk)) d5 ?_
    have e : pc + 5 * (k :: ks).length = pc + 1 + 1 + 1 + 1 + 1 + 5 * ks.length := by
      show pc + 5 * (ks.length + 1) = _
      omega
    rw [e, List.map_cons, List.reverse_cons, List.append_assoc] at kk
    exact kk
end LWC
