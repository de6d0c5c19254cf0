/-! the law: the two objects are made -/
section LWG
variable {p : Program} {l : Launch} {e : Env} {s : State} {m : MethodId} {below : List Frame} {meth : Method} {c : Code} {H : Heap} {locs : List Loc} {Q : State → Prop} {cells slots : Nat}
variable {pc : Nat} {ls : Array Slot} {dC : Nat → ClassId} {dI : Nat → Nat → Nat} {dA : Nat → ClassId} {B : Nat → Nat} {adK adV : Nat → Nat} {b L : Nat} {xs : Nat → Int32}
theorem lw_ctor (C : lw_At p s m meth c b L xs) (K : lw_K s dC dI dA B adK adV) {J : sm_I} {n jn idx a : Nat} {rest : List Value} {h : sm_H} {q : Option Value × sm_H} (hJ : sm_M jn = some J) (hret : J.2.2.2.1 = none) (hpar : sm_par J.1 = some 0) (hw : Cond.methodLink R_law idx J.1 ∈ lw_tbl ∧ Cond.instanceMethod J.1 ∈ lw_tbl ∧ J.1.name = "<init>") (hcat0 : sm_cat [.ref a] ≤ J.2.2.1) (hrun : sm_run sm_M n 9 J 0 (lv_args 0 [.ref a]) [] h = some q) (hq : q.1 = none) (l1 : h.length ≤ q.2.length) (l2 : q.2.length ≤ 999) (s1 : sm_sl h ≤ sm_sl q.2) (s2 : sm_sl q.2 ≤ 100000) (hc : cells = h.length) (hsl : slots = sm_sl h) (hcat : sm_cat rest ≤ 8) (hd : decode code pc = .ok (.invokespecial idx, 3)) (hls : ls.size = 4) (hP : va_P (dC, dI) vwCl (sm_ws B dA 0 h) H) (hD : va_D (fun q => s.heap.size ≤ q) (sm_ws B dA 0 h)) (hS : va_S (fun q => s.heap.size ≤ q) s.heap H locs)
    (k : ∀ (H1 : Heap) (locs1 : List Loc), va_P (dC, dI) vwCl (sm_ws B dA 0 q.2) H1 → va_D (fun q => s.heap.size ≤ q) (sm_ws B dA 0 q.2) → va_S (fun q => s.heap.size ≤ q) s.heap H1 locs1 → W p l e room_1 s m #[Value.ref b] below meth c H1 locs1 q.2.length (sm_sl q.2) Q (F0 m (pc + 3) ls (sm_cS B rest))) :
    W p l e room_1 s m #[Value.ref b] below meth c H locs cells slots Q (F0 m pc ls (.ref (B a) :: sm_cS B rest)) := by
  have htsG := lw_G C
  obtain ⟨hx, hb, hr, hml, hown, hts, hXs, hbl, hlocks, hgv⟩ := C
  obtain ⟨hK, hB, hBs, hE⟩ := K
  obtain ⟨w1, w2, w3⟩ := hw
  subst hc hsl
  have hX := xk_all l B s.heap.size adK adV hBs
  have hmJ := sm_M_ok jn J hJ
  have hne := hmJ.2.2.2.1
  have hMet := sm_met (n := n) (d := 9) (dC := dC) (dI := dI) (dA := dA) (sm_sound hB hX sm_M_ok n) hX hrun hmJ hcat0 l2
  have hbl2 := sm_blind (D := (dC, dI)) (dA := dA) hX [.ref a] h
  have hcode : sm_WS J = Cond.code J.1 J.2.1 J.2.2.1 none :: sm_G := by unfold sm_WS; rw [hret]
  refine sm_size hP hB (by omega) hS (Nat.le_refl _) rfl (fun hH => ?_)
  have hpc : ∀ U' : State, U'.heap = H → s.WarmedH U'.vm → sm_Pc (dC, dI) B dA s.heap.size (xk_X s.heap.size adK adV) [.ref a] h ([Value.ref a].map (sm_cv B)).toArray U' := fun U' hU hW => ⟨rfl, by rw [hU]; exact hH, by rw [hU]; exact hP, hD, va_K.moved hW.alike hK, hE.warm hX hW (Nat.le_refl _) (fun z z1 z2 => by rw [hU]; exact hS.2.1 z z1 z2)⟩
  refine sm_back (q := q) (h := h) (rest := rest) (va_runI (As := []) (rest := sm_cS B rest) ⟨hx, hb, hml, hown, htsG⟩ hMet (cwI 0 htsG (sm_goodIn (sm_WS_in hmJ)) hcode rfl rfl (htsG _ (sm_Gin hmJ.2.2.1 rfl)) (htsG _ (sm_Gin w1 rfl)) (htsG _ (sm_Gin w2 rfl)) w3 ⟨hne.1, hne.2, hpar⟩ ⟨?_, ?_⟩) ⟨hbl2, hpc⟩ rfl rfl hls rfl (lv_room (by rw [← sm_cS_cat B] at hcat; exact hcat)) hd ⟨?_, ?_⟩) hS (fun H1 locs1 a1 a2 a3 => ?_)
  · show 9 + 1 ≤ 11
    omega
  · have := hmJ.2.2.2.2.1
    show 8 + (J.2.2.1 + 11) + 33 * 9 ≤ 402
    omega
  · have e : h.length + (q.2.length - h.length) = q.2.length := by omega
    rw [e]
    exact Nat.le_trans l2 (Nat.le_of_ble_eq_true rfl)
  · have e : sm_sl h + (sm_sl q.2 - sm_sl h) = sm_sl q.2 := by omega
    rw [e]
    exact Nat.le_trans s2 (Nat.le_of_ble_eq_true rfl)
  · refine W.widen (k := q.2.length) (n := sm_sl q.2) (by omega) (by omega) ?_
    have := k H1 locs1 a1 a2 a3
    rw [hq]
    exact this
theorem lw_new (C : lw_At p s m meth c b L xs) (K : lw_K s dC dI dA B adK adV) {ci idx : Nat} {st : List Value} {h : sm_H} {qc : vw_C} (hci : vwCl[ci]? = some qc) (h11 : ci < 11) (hw : Cond.classLink R_law idx qc.1 ∈ lw_tbl ∧ Cond.instantiable qc.1 qc.2.2 ∈ lw_tbl ∧ Cond.initialized qc.1 ∈ lw_tbl) (hd : decode code pc = .ok (.new idx, 3)) (hls : ls.size = 4) (hlen : h.length < 999) (hc : cells = h.length) (hsl : slots = sm_sl h) (s2 : sm_sl (h ++ [.inr (ci, sm_df ci)]) ≤ 100000) (hP : va_P (dC, dI) vwCl (sm_ws B dA 0 h) H) (hD : va_D (fun q => s.heap.size ≤ q) (sm_ws B dA 0 h)) (hS : va_S (fun q => s.heap.size ≤ q) s.heap H locs)
    (k : ∀ (H1 : Heap) (locs1 : List Loc), va_P (dC, dI) vwCl (sm_ws B dA 0 (h ++ [.inr (ci, sm_df ci)])) H1 → va_D (fun q => s.heap.size ≤ q) (sm_ws B dA 0 (h ++ [.inr (ci, sm_df ci)])) → va_S (fun q => s.heap.size ≤ q) s.heap H1 locs1 → W p l e room_1 s m #[Value.ref b] below meth c H1 locs1 (h.length + 1) (sm_sl (h ++ [.inr (ci, sm_df ci)])) Q (F0 m (pc + 3) ls (.ref (B h.length) :: sm_cS B st))) :
    W p l e room_1 s m #[Value.ref b] below meth c H locs cells slots Q (F0 m pc ls (sm_cS B st)) := by
  have htsG := lw_G C
  obtain ⟨hx, hb, hr, hml, hown, hts, hXs, hbl, hlocks, hgv⟩ := C
  obtain ⟨hK, hB, hBs, hE⟩ := K
  subst hc hsl
  have hg : sm_k (.new idx, ci, 0, 0) 10 st h = some (3, .ref h.length :: st, h ++ [.inr (ci, sm_df ci)]) := by
    unfold sm_k
    dsimp only
    rw [if_pos ⟨h11, hlen⟩]
  refine sm_k_ok (own := R_law) (init := false) (w := (.new idx, ci, 0, 0)) (d := 10) (nL := 4) (st := st) (h := h) hx hb hml hls htsG hown hK hP hD hS (Nat.le_refl _) hB hE.2.2.1 hE.1 sm_hobj sm_hcpy ⟨fun h9 i hi => (by cases hi), fun h9 i hi => (by cases hi)⟩ rfl (by show 10 ≤ 11; omega) (by show 33 * 10 ≤ 402; omega) ⟨3, hd, Or.inr rfl⟩ ⟨qc, hci, hw.1, hw.2.1, hw.2.2⟩ hg ?_ ?_ (fun H1 locs1 c1 s1 e1 e2 a1 a2 a3 => ?_)
  · show h.length + (h ++ [Sum.inr (ci, sm_df ci)]).length ≤ 600000 + h.length
    rw [List.length_append, List.length_singleton]
    omega
  · show sm_sl h + sm_sl (h ++ [Sum.inr (ci, sm_df ci)]) ≤ 7302250 + sm_sl h
    omega
  · dsimp only at e1 e2
    rw [List.length_append, List.length_singleton] at e1
    exact W.widen (by omega) (by omega) (k H1 locs1 a1 a2 a3)
end LWG
