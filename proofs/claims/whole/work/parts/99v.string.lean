/-! texts: length, charAt, equals -/
theorem xk_num : ∀ i, i < 6 → (sm_tx i).length = xk_len.getD i 0 ∧ xk_len.getD i 0 ≤ 5 ∧ 2 ≤ xk_len.getD i 0 ∧ (Int32.ofNat (xk_len.getD i 0)) >>> ((0 : Int32) &&& 31) = Int32.ofNat (sm_tx i).length ∧ ∀ k, k < 5 → k < xk_len.getD i 0 → (((xk_byt.getD i []).getD k 0 &&& 255).toUInt32 % 65536).toInt32 = Int32.ofNat ((sm_tx i).getD k 0) := by decide +kernel
theorem xk_nar : ∀ i, i < 6 → ∀ k, k < 5 → narrow .char (.int (Int32.ofNat ((sm_tx i).getD k 0))) = .int (Int32.ofNat ((sm_tx i).getD k 0)) := by decide +kernel
theorem xk_dif : ∀ i, i < 6 → ∀ j, j < 6 → i ≠ j → xk_len.getD i 0 = xk_len.getD j 0 → ¬ (xk_byt.getD i []).getD 0 0 = (xk_byt.getD j []).getD 0 0 ∨ ¬ (xk_byt.getD i []).getD 1 0 = (xk_byt.getD j []).getD 1 0 := by decide +kernel
theorem xk_w4 : Cond.code yJ0_length_8abf5 cJ0_length_8abf5 1 (some .int) ∈ lw_tbl ∧ Cond.code yJ0_charAt_5068e cJ0_charAt_5068e 2 (some .char) ∈ lw_tbl ∧ Cond.code yJ0_equals_9ea2d cJ0_equals_9ea2d 3 (some .boolean) ∈ lw_tbl := ⟨sm_xw0.1, sm_xw1.1, sm_xw2.1⟩
theorem xk_length (l : Launch) (base : Nat) (adK adV : Nat → Nat) {i : Nat} (hi : i < 6) : Met l yJ0_length_8abf5 (.code yJ0_length_8abf5 cJ0_length_8abf5 1 (some .int) :: sm_G) (xk_r 5) (xk_P base adK adV [.ref (adK i)]) (xk_Q (some (.int (Int32.ofNat (sm_tx i).length)))) 0 0 (fun _ => False) := by
  refine va_MetF (cc := cJ0_length_8abf5) (maxL := 1) (ret := some .int) (by decide) rfl ?_
  intro p e s m args below meth c s₁ Bd hml hv
  obtain ⟨rfl, hbase, hX⟩ := hv
  have hts0 := atoms_spec (ws := .code yJ0_length_8abf5 cJ0_length_8abf5 1 (some .int) :: sm_G) Bd.pre
  have hts : ∀ w ∈ sm_G, w.before _ s = true := fun w hw => hts0 w (List.mem_cons_of_mem _ hw)
  have hx := Bd.exec
  have hb := Bd.bytes
  have hr := Bd.returns
  have hlocks := Bd.notSynchronized
  have hown : s.vm.findClass "java/lang/String" = some m.cls := findClass_of_methodNamed Bd.named
  have hn : ∀ q ∈ ([] : List Loc), False := fun q h => by cases h
  have hl := lv_entry ([.ref (adK i)]) (n := 1) (Nat.le_of_ble_eq_true rfl)
  rw [lg_entry_eq]
  generalize (lg_sl ([.ref (adK i)]) ++ List.replicate (1 - (lg_sl ([.ref (adK i)])).length) Slot.unset).toArray = ls at hl ⊢
  have hl : lv_has ls 1 [(0, .ref (adK i))] := hl
  refine lv_aload_n hx hb xd_len_0 rfl (lv_at hl 0 rfl) ?_
  refine vk_getf hx hb (hX.1.1 i hi).2.2.1 (xk_s hn) hown (hts _ (sm_Gin xk_w2.2.2.1 rfl)) (fun _ h => h) xd_len_1 ?_
  refine va_tlen hx hb (hX.1.1 i hi).2.2.2 (xk_s hn) rfl xd_len_4 ?_
  refine lv_aload_n hx hb xd_len_5 rfl (lv_at hl 0 rfl) ?_
  refine xk_virt (As := []) (rest := [.int (Int32.ofNat (xk_len.getD i 0))]) (d := 0) (i := i) (v := some (.int 0)) hx hb hml hl.1 hts hown hX hbase hn (Nat.le_of_ble_eq_true rfl) ⟨by decide, by decide⟩ (Nat.zero_le _) (Nat.zero_le _) hi rfl xk_w0.1 (by decide) xk_p.1 xk_w3.2.2.2.2.1 (xk_coder l base adK adV hi) xd_len_6 (fun locs' hn' => ?_)
  refine lv_ishr hx hb xd_len_9 ?_
  exact W.zret hx hb hr (vp_nar_int _) (fun t ht _ => ⟨by rw [(xk_num i hi).2.2.2.1], ht⟩) (fun q h => hn' q h) xd_len_10 hlocks
theorem xk_charAt (l : Launch) (base : Nat) (adK adV : Nat → Nat) {i : Nat} {k : Int32} (hi : i < 6) (hk : ¬ (k < 0 ∨ (sm_tx i).length ≤ k.toNatClampNeg)) : Met l yJ0_charAt_5068e (.code yJ0_charAt_5068e cJ0_charAt_5068e 2 (some .char) :: sm_G) (xk_r 5) (xk_P base adK adV [.ref (adK i), .int k]) (xk_Q (some (.int (Int32.ofNat ((sm_tx i).getD k.toNatClampNeg 0))))) 0 0 (fun _ => False) := by
  obtain ⟨z1, z2, _, _, z3⟩ := xk_num i hi
  have h0 : ¬ k < 0 := fun q => hk (Or.inl q)
  have hkl : k.toNatClampNeg < xk_len.getD i 0 := by
    rw [← z1]
    exact Nat.lt_of_not_le fun q => hk (Or.inr q)
  have h1 : k < Int32.ofNat (xk_len.getD i 0) := by
    rw [i32_lt0] at h0
    have := clamp_int k
    rw [i32_lt, ofNat_int (by omega)]
    omega
  have hnar := xk_nar i hi _ (show k.toNatClampNeg < 5 by omega)
  refine va_MetF (cc := cJ0_charAt_5068e) (maxL := 2) (ret := some .char) (by decide) rfl ?_
  intro p e s m args below meth c s₁ Bd hml hv
  obtain ⟨rfl, hbase, hX⟩ := hv
  have hts0 := atoms_spec (ws := .code yJ0_charAt_5068e cJ0_charAt_5068e 2 (some .char) :: sm_G) Bd.pre
  have hts : ∀ w ∈ sm_G, w.before _ s = true := fun w hw => hts0 w (List.mem_cons_of_mem _ hw)
  have hx := Bd.exec
  have hb := Bd.bytes
  have hr := Bd.returns
  have hlocks := Bd.notSynchronized
  have hown : s.vm.findClass "java/lang/String" = some m.cls := findClass_of_methodNamed Bd.named
  have hn : ∀ q ∈ ([] : List Loc), False := fun q h => by cases h
  have hl := lv_entry ([.ref (adK i), .int k]) (n := 2) (Nat.le_of_ble_eq_true rfl)
  rw [lg_entry_eq]
  generalize (lg_sl ([.ref (adK i), .int k]) ++ List.replicate (2 - (lg_sl ([.ref (adK i), .int k])).length) Slot.unset).toArray = ls at hl ⊢
  have hl : lv_has ls 2 [(0, .ref (adK i)), (1, .int k)] := hl
  refine lv_aload_n hx hb xd_ch_0 rfl (lv_at hl 0 rfl) ?_
  refine xk_virt (As := []) (rest := []) (d := 0) (i := i) (v := some (.int 1)) hx hb hml hl.1 hts hown hX hbase hn (Nat.le_of_ble_eq_true rfl) ⟨by decide, by decide⟩ (Nat.zero_le _) (Nat.zero_le _) hi rfl xk_w0.2 (by decide) xk_p.2.1 xk_w3.2.2.1 (xk_latin l base adK adV hi) xd_ch_1 (fun locs' hn' => ?_)
  refine lv_if_eq (tgt := 16) hx hb xd_ch_4 (by decide) (fun c => absurd c (by decide)) (fun _ => ?_)
  refine lv_aload_n hx hb xd_ch_7 rfl (lv_at hl 0 rfl) ?_
  refine vk_getf hx hb (hX.1.1 i hi).2.2.1 (xk_s hn') hown (hts _ (sm_Gin xk_w2.2.2.1 rfl)) (fun _ h => h) xd_ch_8 ?_
  refine lv_iload_n hx hb xd_ch_11 rfl (lv_at hl 1 rfl) ?_
  refine xk_stat (As := [.ref (adV i), .int k]) (rest := []) (d := 2) (v := some (.int (Int32.ofNat ((sm_tx i).getD k.toNatClampNeg 0)))) hx hb hml hl.1 hts hown hX hbase hn' (Nat.le_of_ble_eq_true rfl) ⟨by decide, by decide⟩ (Nat.zero_le _) (Nat.zero_le _) ⟨by decide, by decide⟩ xk_w1.2.2.1 (by decide) xk_p.2.2.2.2.1 xk_w3.2.2.2.1 (xk_lch l base adK adV hi h0 h1 hkl (z3 _ (by omega) hkl) hnar) xd_ch_12 (fun locs2 hn2 => ?_)
  exact W.zret hx hb hr hnar (fun t ht _ => ⟨rfl, ht⟩) (fun q h => hn2 q h) xd_ch_15 hlocks
theorem xk_leq (l : Launch) (base : Nat) (adK adV : Nat → Nat) {i j : Nat} (hi : i < 6) (hj : j < 6) (hij : i ≠ j) : Met l yJ1_equals_b5fdf (.code yJ1_equals_b5fdf cJ1_equals_b5fdf 3 (some .boolean) :: sm_G) (xk_r 0) (xk_P base adK adV [.ref (adV i), .ref (adV j)]) (xk_Q (some (.int 0))) 0 0 (fun _ => False) := by
  obtain ⟨_, z2, z4, _, _⟩ := xk_num i hi
  obtain ⟨_, y2, y4, _, _⟩ := xk_num j hj
  refine va_MetF (cc := cJ1_equals_b5fdf) (maxL := 3) (ret := some .boolean) (by decide) rfl ?_
  intro p e s m args below meth c s₁ Bd hml hv
  obtain ⟨rfl, hbase, hX⟩ := hv
  have hx := Bd.exec
  have hb := Bd.bytes
  have hr := Bd.returns
  have hlocks := Bd.notSynchronized
  have hn : ∀ q ∈ ([] : List Loc), False := fun q h => by cases h
  have hl := lv_entry ([.ref (adV i), .ref (adV j)]) (n := 3) (Nat.le_of_ble_eq_true rfl)
  rw [lg_entry_eq]
  generalize (lg_sl ([.ref (adV i), .ref (adV j)]) ++ List.replicate (3 - (lg_sl ([.ref (adV i), .ref (adV j)])).length) Slot.unset).toArray = ls at hl ⊢
  have hl : lv_has ls 3 [(0, .ref (adV i)), (1, .ref (adV j))] := hl
  have hTi := (hX.1.1 i hi).2.2.2
  have hTj := (hX.1.1 j hj).2.2.2
  refine lv_aload_n hx hb xd_leq_0 rfl (lv_at hl 0 rfl) ?_
  refine va_tlen hx hb hTi (xk_s hn) rfl xd_leq_1 ?_
  refine lv_aload_n hx hb xd_leq_2 rfl (lv_at hl 1 rfl) ?_
  refine va_tlen hx hb hTj (xk_s hn) rfl xd_leq_3 ?_
  refine lv_icmp_ne (tgt := 34) hx hb xd_leq_4 (by decide) (fun _ => ?_) (fun hlen => ?_)
  · refine lv_iconst (v := 0) hx hb xd_leq_34 (by decide) ?_
    exact W.zret hx hb hr (by decide) (fun t ht _ => ⟨rfl, ht⟩) (fun q h => hn q h) xd_leq_35 hlocks
  have hlen : xk_len.getD i 0 = xk_len.getD j 0 := by
    have := congrArg Int32.toInt hlen
    rw [ofNat_int (by omega), ofNat_int (by omega)] at this
    omega
  have step : ∀ k : Nat, k < 2 → ((xk_byt.getD i []).getD k 0 = (xk_byt.getD j []).getD k 0 → ∀ ls : Array Slot, lv_has ls 3 [(2, .int (Int32.ofNat (k + 1))), (0, .ref (adV i)), (1, .ref (adV j))] → W p l e (headSpec (.code yJ1_equals_b5fdf cJ1_equals_b5fdf 3 (some .boolean) :: sm_G) (xk_r 0)).room s m [.ref (adV i), .ref (adV j)].toArray below meth c s.heap [] 0 0 (MQ below (xk_Q (some (.int 0))) [.ref (adV i), .ref (adV j)].toArray s 0 0 (fun _ => False)) (F0 m 9 ls [])) → ∀ ls : Array Slot, lv_has ls 3 [(2, .int (Int32.ofNat k)), (0, .ref (adV i)), (1, .ref (adV j))] → W p l e (headSpec (.code yJ1_equals_b5fdf cJ1_equals_b5fdf 3 (some .boolean) :: sm_G) (xk_r 0)).room s m [.ref (adV i), .ref (adV j)].toArray below meth c s.heap [] 0 0 (MQ below (xk_Q (some (.int 0))) [.ref (adV i), .ref (adV j)].toArray s 0 0 (fun _ => False)) (F0 m 9 ls []) := by
    intro k hk kk ls hl
    have ek : (Int32.ofNat k).toInt = k := ofNat_int (by omega)
    have ck : (Int32.ofNat k).toNatClampNeg = k := ofNat_clamp (by omega)
    have k0 : ¬ Int32.ofNat k < 0 := by rw [i32_lt0, ek]; omega
    refine lv_iload_n hx hb xd_leq_9 rfl (lv_at hl 0 rfl) ?_
    refine lv_aload_n hx hb xd_leq_10 rfl (lv_at hl 1 rfl) ?_
    refine va_tlen hx hb hTi (xk_s hn) rfl xd_leq_11 ?_
    refine lv_icmp_ge (tgt := 32) hx hb xd_leq_12 (by decide) (fun q => absurd q (by rw [i32_le, ek, ofNat_int (by omega)]; omega)) (fun _ => ?_)
    refine lv_aload_n hx hb xd_leq_15 rfl (lv_at hl 1 rfl) ?_
    refine lv_iload_n hx hb xd_leq_16 rfl (lv_at hl 0 rfl) ?_
    refine va_tb hx hb hTi (xk_s hn) (fun q => q.elim k0 (fun z => by rw [ck] at z; omega)) (v := .int ((xk_byt.getD i []).getD k 0)) (by rw [ck]) xd_leq_17 ?_
    refine lv_aload_n hx hb xd_leq_18 rfl (lv_at hl 2 rfl) ?_
    refine lv_iload_n hx hb xd_leq_19 rfl (lv_at hl 0 rfl) ?_
    refine va_tb hx hb hTj (xk_s hn) (fun q => q.elim k0 (fun z => by rw [ck] at z; omega)) (v := .int ((xk_byt.getD j []).getD k 0)) (by rw [ck]) xd_leq_20 ?_
    refine lv_icmp_eq (tgt := 26) hx hb xd_leq_21 (by decide) (fun heq => ?_) (fun _ => ?_)
    · refine lv_iinc (v := Int32.ofNat (k + 1)) (lv' := [(2, .int (Int32.ofNat (k + 1))), (0, .ref (adV i)), (1, .ref (adV j))]) hx hb xd_leq_26 hl (k := 0) rfl (ofNat_succ k) (by decide) rfl (fun ls hl => ?_)
      refine lv_goto (tgt := 9) hx hb xd_leq_29 (by decide) ?_
      exact kk heq ls hl
    · refine lv_iconst (v := 0) hx hb xd_leq_24 (by decide) ?_
      exact W.zret hx hb hr (by decide) (fun t ht _ => ⟨rfl, ht⟩) (fun q h => hn q h) xd_leq_25 hlocks
  refine lv_iconst (v := 0) hx hb xd_leq_7 (by decide) ?_
  refine lv_istore_n (lv' := [(2, .int 0), (0, .ref (adV i)), (1, .ref (adV j))]) hx hb xd_leq_8 rfl hl (by decide) rfl (fun ls hl => ?_)
  refine step 0 (by omega) (fun e0 ls hl => ?_) ls hl
  refine step 1 (by omega) (fun e1 ls hl => ?_) ls hl
  rcases xk_dif i hi j hj hij hlen with d | d
  · exact absurd e0 d
  · exact absurd e1 d
theorem xk_equals (l : Launch) (base : Nat) (adK adV : Nat → Nat) {i j : Nat} (hi : i < 6) (hj : j < 6) : Met l yJ0_equals_9ea2d (.code yJ0_equals_9ea2d cJ0_equals_9ea2d 3 (some .boolean) :: sm_G) (xk_r 5) (xk_P base adK adV [.ref (adK i), .ref (adK j)]) (xk_Q (some (.int (if i = j then 1 else 0)))) 0 0 (fun _ => False) := by
  refine va_MetF (cc := cJ0_equals_9ea2d) (maxL := 3) (ret := some .boolean) (by decide) rfl ?_
  intro p e s m args below meth c s₁ Bd hml hv
  obtain ⟨rfl, hbase, hX⟩ := hv
  have hts0 := atoms_spec (ws := .code yJ0_equals_9ea2d cJ0_equals_9ea2d 3 (some .boolean) :: sm_G) Bd.pre
  have hts : ∀ w ∈ sm_G, w.before _ s = true := fun w hw => hts0 w (List.mem_cons_of_mem _ hw)
  have hx := Bd.exec
  have hb := Bd.bytes
  have hr := Bd.returns
  have hlocks := Bd.notSynchronized
  have hown : s.vm.findClass "java/lang/String" = some m.cls := findClass_of_methodNamed Bd.named
  have hn : ∀ q ∈ ([] : List Loc), False := fun q h => by cases h
  have hl := lv_entry ([.ref (adK i), .ref (adK j)]) (n := 3) (Nat.le_of_ble_eq_true rfl)
  rw [lg_entry_eq]
  generalize (lg_sl ([.ref (adK i), .ref (adK j)]) ++ List.replicate (3 - (lg_sl ([.ref (adK i), .ref (adK j)])).length) Slot.unset).toArray = ls at hl ⊢
  have hl : lv_has ls 3 [(0, .ref (adK i)), (1, .ref (adK j))] := hl
  refine lv_aload_n hx hb xd_eq_0 rfl (lv_at hl 0 rfl) ?_
  refine lv_aload_n hx hb xd_eq_1 rfl (lv_at hl 1 rfl) ?_
  refine lv_acmp_ne (rx := some (adK i)) (ry := some (adK j)) (tgt := 7) hx hb xd_eq_2 (by decide) (fun hne => ?_) (fun heq => ?_)
  rotate_left
  · have ij : i = j := hX.1.2 i j hi hj (Option.some.inj heq)
    refine lv_iconst (v := 1) hx hb xd_eq_5 (by decide) ?_
    exact W.zret hx hb hr (by decide) (fun t ht _ => ⟨by rw [if_pos ij], ht⟩) (fun q h => hn q h) xd_eq_6 hlocks
  have ij : i ≠ j := fun q => hne (by rw [q])
  refine lv_aload_n hx hb xd_eq_7 rfl (lv_at hl 1 rfl) ?_
  refine va_instE hx hb hown (hts _ (sm_Gin xk_w2.2.2.2.2 rfl)) (vk_recv hX.1 hj (xk_s hn)) xd_eq_8 ?_
  refine lv_if_eq (tgt := 54) hx hb xd_eq_11 (by decide) (fun c => absurd c (by decide)) (fun _ => ?_)
  refine lv_aload_n hx hb xd_eq_14 rfl (lv_at hl 1 rfl) ?_
  refine va_castE hx hb hown (hts _ (sm_Gin xk_w2.2.2.2.2 rfl)) (vk_recv hX.1 hj (xk_s hn)) xd_eq_15 ?_
  refine lv_astore_n (lv' := [(2, .ref (adK j)), (0, .ref (adK i)), (1, .ref (adK j))]) hx hb xd_eq_18 rfl hl (by decide) rfl (fun ls hl => ?_)
  refine va_gets hx hb hX.2.1 (xk_s hn) hown (hts _ (sm_Gin xk_w2.1 rfl)) (fun _ h => h) xd_eq_19 ?_
  refine lv_if_eq (tgt := 36) hx hb xd_eq_22 (by decide) (fun c => absurd c (by decide)) (fun _ => ?_)
  refine lv_aload_n hx hb xd_eq_25 rfl (lv_at hl 1 rfl) ?_
  refine vk_getf hx hb (hX.1.1 i hi).2.1 (xk_s hn) hown (hts _ (sm_Gin xk_w2.2.1 rfl)) (fun _ h => h) xd_eq_26 ?_
  refine lv_aload_n hx hb xd_eq_29 rfl (lv_at hl 0 rfl) ?_
  refine vk_getf hx hb (hX.1.1 j hj).2.1 (xk_s hn) hown (hts _ (sm_Gin xk_w2.2.1 rfl)) (fun _ h => h) xd_eq_30 ?_
  refine lv_icmp_ne (tgt := 54) hx hb xd_eq_33 (by decide) (fun c => absurd rfl c) (fun _ => ?_)
  refine lv_aload_n hx hb xd_eq_36 rfl (lv_at hl 1 rfl) ?_
  refine vk_getf hx hb (hX.1.1 i hi).2.2.1 (xk_s hn) hown (hts _ (sm_Gin xk_w2.2.2.1 rfl)) (fun _ h => h) xd_eq_37 ?_
  refine lv_aload_n hx hb xd_eq_40 rfl (lv_at hl 0 rfl) ?_
  refine vk_getf hx hb (hX.1.1 j hj).2.2.1 (xk_s hn) hown (hts _ (sm_Gin xk_w2.2.2.1 rfl)) (fun _ h => h) xd_eq_41 ?_
  refine xk_stat (As := [.ref (adV i), .ref (adV j)]) (rest := []) (d := 0) (v := some (.int 0)) hx hb hml hl.1 hts hown hX hbase hn (Nat.le_of_ble_eq_true rfl) ⟨by decide, by decide⟩ (Nat.zero_le _) (Nat.zero_le _) ⟨by decide, by decide⟩ xk_w1.2.2.2 (by decide) xk_p.2.2.2.2.2 xk_w3.2.2.2.2.2 (xk_leq l base adK adV hi hj ij) xd_eq_44 (fun locs' hn' => ?_)
  refine lv_if_eq (tgt := 54) hx hb xd_eq_47 (by decide) (fun _ => ?_) (fun c => absurd rfl c)
  refine lv_iconst (v := 0) hx hb xd_eq_54 (by decide) ?_
  exact W.zret hx hb hr (by decide) (fun t ht _ => ⟨by rw [if_neg ij], ht⟩) (fun q h => hn' q h) xd_eq_55 hlocks
theorem xk_all (l : Launch) (B : Nat → Nat) (base : Nat) (adK adV : Nat → Nat) (hB : ∀ i, i < 6 → B (1000 + i) = adK i) : sm_Xk l B base (xk_X base adK adV) := by
  refine ⟨fun u U h hW hb hq => xk_warm h hW hq, fun U h i hi => ?_, fun i hi => ?_, fun i hi k hk => ?_, fun i j hi hj => ?_⟩
  · obtain ⟨cell, h1, h2, h3, h4⟩ := (h.1.1 i hi).1
    rw [hB i hi]
    exact ⟨Nat.lt_of_not_le h4, cell, h1, h2, h3⟩
  · rw [hB i hi]; exact xk_length l base adK adV hi
  · rw [hB i hi]; exact xk_charAt l base adK adV hi hk
  · rw [hB i hi, hB j hj]; exact xk_equals l base adK adV hi hj
