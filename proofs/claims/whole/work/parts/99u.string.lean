/-! texts: contracts of their own methods -/
theorem xk_w0 : (Cond.code yJ0_coder_7d493 cJ0_coder_7d493 1 (some .byte) ∈ lw_tbl ∧ Cond.instanceMethod yJ0_coder_7d493 ∈ lw_tbl ∧ Cond.selects "java/lang/String" yJ0_coder_7d493 yJ0_coder_7d493 ∈ lw_tbl ∧ Cond.initialized "java/lang/String" ∈ lw_tbl) ∧ (Cond.code yJ0_isLatin1_aae02 cJ0_isLatin1_aae02 1 (some .boolean) ∈ lw_tbl ∧ Cond.instanceMethod yJ0_isLatin1_aae02 ∈ lw_tbl ∧ Cond.selects "java/lang/String" yJ0_isLatin1_aae02 yJ0_isLatin1_aae02 ∈ lw_tbl ∧ Cond.initialized "java/lang/String" ∈ lw_tbl) := by decide +kernel
theorem xk_w1 : (Cond.code yJ3_checkIndex_8e157 cJ3_checkIndex_8e157 3 (some .int) ∈ lw_tbl ∧ Cond.static yJ3_checkIndex_8e157 ∈ lw_tbl ∧ Cond.initialized yJ3_checkIndex_8e157.cls ∈ lw_tbl) ∧ (Cond.code yJ0_checkIndex_df160 cJ0_checkIndex_df160 2 none ∈ lw_tbl ∧ Cond.static yJ0_checkIndex_df160 ∈ lw_tbl ∧ Cond.initialized yJ0_checkIndex_df160.cls ∈ lw_tbl) ∧ (Cond.code yJ1_charAt_3b067 cJ1_charAt_3b067 2 (some .char) ∈ lw_tbl ∧ Cond.static yJ1_charAt_3b067 ∈ lw_tbl ∧ Cond.initialized yJ1_charAt_3b067.cls ∈ lw_tbl) ∧ (Cond.code yJ1_equals_b5fdf cJ1_equals_b5fdf 3 (some .boolean) ∈ lw_tbl ∧ Cond.static yJ1_equals_b5fdf ∈ lw_tbl ∧ Cond.initialized yJ1_equals_b5fdf.cls ∈ lw_tbl) := by decide +kernel
theorem xk_w2 : Cond.fieldLink "java/lang/String" 38 "java/lang/String" "COMPACT_STRINGS" "Z" ∈ lw_tbl ∧ Cond.fieldLink "java/lang/String" 15 "java/lang/String" "coder" "B" ∈ lw_tbl ∧ Cond.fieldLink "java/lang/String" 9 "java/lang/String" "value" "[B" ∈ lw_tbl ∧ Cond.fieldLink "java/lang/String" 1053 "jdk/internal/util/Preconditions" "SIOOBE_FORMATTER" "Ljava/util/function/BiFunction;" ∈ lw_tbl ∧ Cond.classLink "java/lang/String" 10 "java/lang/String" ∈ lw_tbl := by decide +kernel
theorem xk_w3 : Cond.methodLink "java/lang/String" 1059 yJ3_checkIndex_8e157 ∈ lw_tbl ∧ Cond.methodLink "java/lang/StringLatin1" 9 yJ0_checkIndex_df160 ∈ lw_tbl ∧ Cond.methodLink "java/lang/String" 492 yJ0_isLatin1_aae02 ∈ lw_tbl ∧ Cond.methodLink "java/lang/String" 495 yJ1_charAt_3b067 ∈ lw_tbl ∧ Cond.methodLink "java/lang/String" 335 yJ0_coder_7d493 ∈ lw_tbl ∧ Cond.methodLink "java/lang/String" 541 yJ1_equals_b5fdf ∈ lw_tbl := by decide +kernel
theorem xk_p : sm_par yJ0_coder_7d493 = some 0 ∧ sm_par yJ0_isLatin1_aae02 = some 0 ∧ sm_par yJ3_checkIndex_8e157 = some 3 ∧ sm_par yJ0_checkIndex_df160 = some 2 ∧ sm_par yJ1_charAt_3b067 = some 2 ∧ sm_par yJ1_equals_b5fdf = some 2 := by decide +kernel
theorem xk_coder (l : Launch) (base : Nat) (adK adV : Nat → Nat) {i : Nat} (hi : i < 6) : Met l yJ0_coder_7d493 (.code yJ0_coder_7d493 cJ0_coder_7d493 1 (some .byte) :: sm_G) (xk_r 0) (xk_P base adK adV [.ref (adK i)]) (xk_Q (some (.int 0))) 0 0 (fun _ => False) := by
  refine va_MetF (cc := cJ0_coder_7d493) (maxL := 1) (ret := some .byte) (by decide) rfl ?_
  intro p e s m args below meth c s₁ Bd hml hv
  obtain ⟨rfl, hbase, hX⟩ := hv
  have hts0 := atoms_spec (ws := .code yJ0_coder_7d493 cJ0_coder_7d493 1 (some .byte) :: sm_G) Bd.pre
  have hts : ∀ w ∈ sm_G, w.before _ s = true := fun w hw => hts0 w (List.mem_cons_of_mem _ hw)
  have hx := Bd.exec
  have hb := Bd.bytes
  have hr := Bd.returns
  have hlocks := Bd.notSynchronized
  have hown : s.vm.findClass "java/lang/String" = some m.cls := findClass_of_methodNamed Bd.named
  have hn : ∀ q ∈ ([] : List Loc), False := fun q h => by cases h
  have hl := lv_entry ([.ref (adK i)]) (n := 1) (Nat.le_of_ble_eq_true rfl)
  rw [lg_entry_eq]
  generalize (lg_sl ([.ref (adK i)]) ++ List.replicate (1 - (lg_sl ([.ref (adK i)])).length) Slot.unset).toArray = ls at hl ⊢
  have hl : lv_has ls 1 [(0, .ref (adK i))] := hl
  refine va_gets hx hb hX.2.1 (xk_s hn) hown (hts _ (sm_Gin xk_w2.1 rfl)) (fun _ h => h) xd_coder_0 ?_
  refine lv_if_eq (tgt := 13) hx hb xd_coder_3 (by decide) (fun c => absurd c (by decide)) (fun _ => ?_)
  refine lv_aload_n hx hb xd_coder_6 rfl (lv_at hl 0 rfl) ?_
  refine vk_getf hx hb (hX.1.1 i hi).2.1 (xk_s hn) hown (hts _ (sm_Gin xk_w2.2.1 rfl)) (fun _ h => h) xd_coder_7 ?_
  refine lv_goto (tgt := 14) hx hb xd_coder_10 (by decide) ?_
  exact W.zret hx hb hr (by decide) (fun t ht _ => ⟨rfl, ht⟩) (fun q h => hn q h) xd_coder_14 hlocks
theorem xk_latin (l : Launch) (base : Nat) (adK adV : Nat → Nat) {i : Nat} (hi : i < 6) : Met l yJ0_isLatin1_aae02 (.code yJ0_isLatin1_aae02 cJ0_isLatin1_aae02 1 (some .boolean) :: sm_G) (xk_r 0) (xk_P base adK adV [.ref (adK i)]) (xk_Q (some (.int 1))) 0 0 (fun _ => False) := by
  refine va_MetF (cc := cJ0_isLatin1_aae02) (maxL := 1) (ret := some .boolean) (by decide) rfl ?_
  intro p e s m args below meth c s₁ Bd hml hv
  obtain ⟨rfl, hbase, hX⟩ := hv
  have hts0 := atoms_spec (ws := .code yJ0_isLatin1_aae02 cJ0_isLatin1_aae02 1 (some .boolean) :: sm_G) Bd.pre
  have hts : ∀ w ∈ sm_G, w.before _ s = true := fun w hw => hts0 w (List.mem_cons_of_mem _ hw)
  have hx := Bd.exec
  have hb := Bd.bytes
  have hr := Bd.returns
  have hlocks := Bd.notSynchronized
  have hown : s.vm.findClass "java/lang/String" = some m.cls := findClass_of_methodNamed Bd.named
  have hn : ∀ q ∈ ([] : List Loc), False := fun q h => by cases h
  have hl := lv_entry ([.ref (adK i)]) (n := 1) (Nat.le_of_ble_eq_true rfl)
  rw [lg_entry_eq]
  generalize (lg_sl ([.ref (adK i)]) ++ List.replicate (1 - (lg_sl ([.ref (adK i)])).length) Slot.unset).toArray = ls at hl ⊢
  have hl : lv_has ls 1 [(0, .ref (adK i))] := hl
  refine va_gets hx hb hX.2.1 (xk_s hn) hown (hts _ (sm_Gin xk_w2.1 rfl)) (fun _ h => h) xd_latin_0 ?_
  refine lv_if_eq (tgt := 17) hx hb xd_latin_3 (by decide) (fun c => absurd c (by decide)) (fun _ => ?_)
  refine lv_aload_n hx hb xd_latin_6 rfl (lv_at hl 0 rfl) ?_
  refine vk_getf hx hb (hX.1.1 i hi).2.1 (xk_s hn) hown (hts _ (sm_Gin xk_w2.2.1 rfl)) (fun _ h => h) xd_latin_7 ?_
  refine lv_if_ne (tgt := 17) hx hb xd_latin_10 (by decide) (fun c => absurd rfl c) (fun _ => ?_)
  refine lv_iconst (v := 1) hx hb xd_latin_13 (by decide) ?_
  refine lv_goto (tgt := 18) hx hb xd_latin_14 (by decide) ?_
  exact W.zret hx hb hr (by decide) (fun t ht _ => ⟨rfl, ht⟩) (fun q h => hn q h) xd_latin_18 hlocks
theorem xk_pre (l : Launch) (base : Nat) (adK adV : Nat → Nat) {k n : Int32} {o : Value} (ho : o.category = 1) (h0 : ¬ k < 0) (h1 : k < n) : Met l yJ3_checkIndex_8e157 (.code yJ3_checkIndex_8e157 cJ3_checkIndex_8e157 3 (some .int) :: sm_G) (xk_r 0) (xk_P base adK adV [.int k, .int n, o]) (xk_Q (some (.int k))) 0 0 (fun _ => False) := by
  refine va_MetF (cc := cJ3_checkIndex_8e157) (maxL := 3) (ret := some .int) (by decide) rfl ?_
  intro p e s m args below meth c s₁ Bd hml hv
  obtain ⟨rfl, hbase, hX⟩ := hv
  have hx := Bd.exec
  have hb := Bd.bytes
  have hr := Bd.returns
  have hlocks := Bd.notSynchronized
  have hn : ∀ q ∈ ([] : List Loc), False := fun q h => by cases h
  have hl := lv_entry ([.int k, .int n, o]) (n := 3) (by
    have : (lg_sl [.int k, .int n, o]).length = sm_cat [.int k, .int n, o] := sm_sl_len _
    rw [this]
    unfold sm_cat
    simp only [List.map_cons, List.map_nil, List.sum_cons, List.sum_nil, ho]
    exact Nat.le_of_ble_eq_true rfl)
  rw [lg_entry_eq]
  generalize (lg_sl ([.int k, .int n, o]) ++ List.replicate (3 - (lg_sl ([.int k, .int n, o])).length) Slot.unset).toArray = ls at hl ⊢
  have hl : lv_has ls 3 [(0, .int k), (1, .int n), (2, o)] := hl
  refine lv_iload_n hx hb xd_pre_0 rfl (lv_at hl 0 rfl) ?_
  refine lv_if_lt (tgt := 9) hx hb xd_pre_1 (by decide) (fun c => absurd c h0) (fun _ => ?_)
  refine lv_iload_n hx hb xd_pre_4 rfl (lv_at hl 0 rfl) ?_
  refine lv_iload_n hx hb xd_pre_5 rfl (lv_at hl 1 rfl) ?_
  refine lv_icmp_lt (tgt := 16) hx hb xd_pre_6 (by decide) (fun _ => ?_) (fun c => absurd h1 c)
  refine lv_iload_n hx hb xd_pre_16 rfl (lv_at hl 0 rfl) ?_
  exact W.zret hx hb hr (vp_nar_int _) (fun t ht _ => ⟨rfl, ht⟩) (fun q h => hn q h) xd_pre_17 hlocks
theorem xk_chk (l : Launch) (base : Nat) (adK adV : Nat → Nat) {k n : Int32} (h0 : ¬ k < 0) (h1 : k < n) : Met l yJ0_checkIndex_df160 (.code yJ0_checkIndex_df160 cJ0_checkIndex_df160 2 none :: sm_G) (xk_r 1) (xk_P base adK adV [.int k, .int n]) (xk_Q none) 0 0 (fun _ => False) := by
  refine va_MetF (cc := cJ0_checkIndex_df160) (maxL := 2) (ret := none) (by decide) rfl ?_
  intro p e s m args below meth c s₁ Bd hml hv
  obtain ⟨rfl, hbase, hX⟩ := hv
  have hts0 := atoms_spec (ws := .code yJ0_checkIndex_df160 cJ0_checkIndex_df160 2 none :: sm_G) Bd.pre
  have hts : ∀ w ∈ sm_G, w.before _ s = true := fun w hw => hts0 w (List.mem_cons_of_mem _ hw)
  have hx := Bd.exec
  have hb := Bd.bytes
  have hr := Bd.returns
  have hlocks := Bd.notSynchronized
  have hown : s.vm.findClass "java/lang/String" = some m.cls := findClass_of_methodNamed Bd.named
  have hn : ∀ q ∈ ([] : List Loc), False := fun q h => by cases h
  have hl := lv_entry ([.int k, .int n]) (n := 2) (Nat.le_of_ble_eq_true rfl)
  rw [lg_entry_eq]
  generalize (lg_sl ([.int k, .int n]) ++ List.replicate (2 - (lg_sl ([.int k, .int n])).length) Slot.unset).toArray = ls at hl ⊢
  have hl : lv_has ls 2 [(0, .int k), (1, .int n)] := hl
  refine lv_iload_n hx hb xd_chk_0 rfl (lv_at hl 0 rfl) ?_
  refine lv_iload_n hx hb xd_chk_1 rfl (lv_at hl 1 rfl) ?_
  have go : ∀ o : Value, o.category = 1 → va_Z "jdk/internal/util/Preconditions" "SIOOBE_FORMATTER" "Ljava/util/function/BiFunction;" o (fun q => base ≤ q) s s.heap → W p l e (headSpec (.code yJ0_checkIndex_df160 cJ0_checkIndex_df160 2 none :: sm_G) (xk_r 1)).room s m [.int k, .int n].toArray below meth c s.heap [] 0 0 (MQ below (xk_Q none) [.int k, .int n].toArray s 0 0 (fun _ => False)) (F0 m 2 ls [.int n, .int k]) := by
    intro o ho hZ
    refine va_gets hx hb hZ (xk_s hn) hown (hts _ (sm_Gin xk_w2.2.2.2.1 rfl)) (fun _ h => h) xd_chk_2 ?_
    refine xk_stat (As := [.int k, .int n, o]) (rest := []) (d := 0) (v := some (.int k)) hx hb hml hl.1 hts hown hX hbase hn (by decide) ⟨by decide, by decide⟩ (Nat.zero_le _) (Nat.zero_le _) ⟨by decide, by decide⟩ xk_w1.1 (by decide) xk_p.2.2.1 xk_w3.1 (xk_pre l base adK adV ho h0 h1) xd_chk_5 (fun locs' hn' => ?_)
    refine lv_pop hx hb xd_chk_8 rfl ?_
    exact W.vret hx hb hr (fun t ht _ => ⟨rfl, ht⟩) (fun q h => hn' q h) xd_chk_9 hlocks
  rcases hX.2.2 with hZ | ⟨t, hZ⟩
  · exact go _ rfl hZ
  · exact go _ rfl hZ
theorem xk_lch (l : Launch) (base : Nat) (adK adV : Nat → Nat) {i : Nat} {k r : Int32} (hi : i < 6) (h0 : ¬ k < 0) (h1 : k < Int32.ofNat (xk_len.getD i 0)) (hk : k.toNatClampNeg < xk_len.getD i 0) (hr1 : (((xk_byt.getD i []).getD k.toNatClampNeg 0 &&& 255).toUInt32 % 65536).toInt32 = r) (hr2 : narrow .char (.int r) = .int r) : Met l yJ1_charAt_3b067 (.code yJ1_charAt_3b067 cJ1_charAt_3b067 2 (some .char) :: sm_G) (xk_r 2) (xk_P base adK adV [.ref (adV i), .int k]) (xk_Q (some (.int r))) 0 0 (fun _ => False) := by
  refine va_MetF (cc := cJ1_charAt_3b067) (maxL := 2) (ret := some .char) (by decide) rfl ?_
  intro p e s m args below meth c s₁ Bd hml hv
  obtain ⟨rfl, hbase, hX⟩ := hv
  have hts0 := atoms_spec (ws := .code yJ1_charAt_3b067 cJ1_charAt_3b067 2 (some .char) :: sm_G) Bd.pre
  have hts : ∀ w ∈ sm_G, w.before _ s = true := fun w hw => hts0 w (List.mem_cons_of_mem _ hw)
  have hx := Bd.exec
  have hb := Bd.bytes
  have hr := Bd.returns
  have hlocks := Bd.notSynchronized
  have hown : s.vm.findClass "java/lang/StringLatin1" = some m.cls := findClass_of_methodNamed Bd.named
  have hn : ∀ q ∈ ([] : List Loc), False := fun q h => by cases h
  have hl := lv_entry ([.ref (adV i), .int k]) (n := 2) (Nat.le_of_ble_eq_true rfl)
  rw [lg_entry_eq]
  generalize (lg_sl ([.ref (adV i), .int k]) ++ List.replicate (2 - (lg_sl ([.ref (adV i), .int k])).length) Slot.unset).toArray = ls at hl ⊢
  have hl : lv_has ls 2 [(0, .ref (adV i)), (1, .int k)] := hl
  have hT := (hX.1.1 i hi).2.2.2
  refine lv_iload_n hx hb xd_lch_0 rfl (lv_at hl 1 rfl) ?_
  refine lv_aload_n hx hb xd_lch_1 rfl (lv_at hl 0 rfl) ?_
  refine va_tlen hx hb hT (xk_s hn) rfl xd_lch_2 ?_
  refine xk_stat (As := [.int k, .int (Int32.ofNat (xk_len.getD i 0))]) (rest := []) (d := 1) (v := none) hx hb hml hl.1 hts hown hX hbase hn (by decide) ⟨by decide, by decide⟩ (Nat.zero_le _) (Nat.zero_le _) ⟨by decide, by decide⟩ xk_w1.2.1 (by decide) xk_p.2.2.2.1 xk_w3.2.1 (xk_chk l base adK adV h0 h1) xd_lch_3 (fun locs' hn' => ?_)
  refine lv_aload_n hx hb xd_lch_6 rfl (lv_at hl 0 rfl) ?_
  refine lv_iload_n hx hb xd_lch_7 rfl (lv_at hl 1 rfl) ?_
  refine va_tb hx hb hT (xk_s hn') (fun q => q.elim h0 (fun z => absurd hk (by omega))) rfl xd_lch_8 ?_
  refine lv_sipush (v := 255) hx hb xd_lch_9 (by decide) ?_
  refine lv_iand hx hb xd_lch_12 ?_
  refine lv_i2c (v := r) hx hb xd_lch_13 hr1 ?_
  exact W.zret hx hb hr hr2 (fun t ht _ => ⟨rfl, ht⟩) (fun q h => hn' q h) xd_lch_14 hlocks
