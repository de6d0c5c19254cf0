/-! cells that are made, constants, copies -/
section SMK
variable {p : Program} {l : Launch} {e : Env} {R : Room} {s : State} {m : MethodId} {args : Array Value} {below : List Frame} {meth : Method} {c : Code} {H : Heap} {locs : List Loc} {cells slots : Nat} {Q : State → Prop}
variable {cc : ByteArray} {pc : Nat} {ls : Array Slot} {dC : Nat → ClassId} {dI : Nat → Nat → Nat} {dA : Nat → ClassId} {B : Nat → Nat} {base : Nat}
theorem sm_fresh {D : va_G} {cl : List vw_C} {h : sm_H} {q : Nat} {x : va_E} {g : JFrame} {H1 : Heap} {n : Nat} (hP1 : va_P D cl (sm_ws B dA 0 h ++ [(q, x)]) H1) (hD1 : va_D (fun q => base ≤ q) (sm_ws B dA 0 h ++ [(q, x)])) (hB : ∀ k, k < 1000 → B k = base + k) (hlen : h.length < 999) (hsz : s.heap.size + cells = base + h.length)
    (kk : q = B h.length → W p l e R s m args below meth c H1 locs (cells + 1) n Q g) : W p l e R s m args below meth c H1 locs (cells + 1) n Q g := by
  intro T hT X
  refine kk ?_ T hT X
  have h1 := X.heapSize
  rw [hT] at h1
  have hl : (sm_ws B dA 0 h).length = h.length := sm_ws_len B dA h 0
  have hx : (sm_ws B dA 0 h ++ [(q, x)])[h.length]? = some (q, x) := by rw [List.getElem?_append_right (by omega), hl, Nat.sub_self]; rfl
  have hq : q < H1.size := (hP1 _ _ hx).lt
  have hqA : base ≤ q := hD1.2 _ _ hx
  rw [hB _ (by omega)]
  rcases Nat.lt_or_ge q (base + h.length) with hlt | hge
  · exfalso
    have hk : q - base < h.length := by omega
    have hy : (sm_ws B dA 0 h ++ [(q, x)])[q - base]? = some (B (q - base), sm_ce B dA h[q - base]) := by
      rw [List.getElem?_append_left (by omega)]
      exact sm_ws_at (List.getElem?_eq_getElem hk)
    have := hD1.1 _ _ _ _ hy hx (by show B (q - base) = q; rw [hB _ (by omega)]; omega)
    omega
  · omega
theorem sm_df_ok {ci : Nat} {q : vw_C} (hq : vwCl[ci]? = some q) {tys : Nat → FieldType} (ht : ∀ k, k < q.2.2 → parseFieldDescriptor (q.2.1 k).2.2.1 = some (tys k)) (B : Nat → Nat) : ((sm_df ci).map (sm_cv B)).length = q.2.2 ∧ ∀ j, j < q.2.2 → defaultValue (tys j) = vp_V ((sm_df ci).map (sm_cv B)) j := by
  unfold sm_df
  rw [hq]
  dsimp only
  refine ⟨by simp, fun j hj => ?_⟩
  unfold vp_V
  rw [List.getD_eq_getElem?_getD, List.getElem?_map, List.getElem?_map, List.getElem?_range hj]
  simp only [Option.map_some, Option.getD_some, ht j hj]
  cases tys j <;> rfl
theorem sm_cA {ty : FieldType} {t0 : Nat} {cA : ClassId} (hK : va_K (dC, dI) vwCl (sm_TY dA) s) (ht0 : (sm_TY dA)[t0]? = some (dA t0, ty)) (hK1 : va_K (dC, dI) vwCl (sm_TY dA ++ [(cA, ty)]) s) : cA = dA t0 := by
  have h1 := (hK.2 t0 _ ht0).2
  have h2 := (hK1.2 5 (cA, ty) rfl).2
  cases ty with
  | object C =>
    obtain ⟨_, _, _, _, _, h3⟩ := h1
    obtain ⟨_, _, _, _, _, h4⟩ := h2
    exact Option.some.inj (h4.symm.trans h3)
  | _ => exact Option.some.inj (h2.symm.trans h1)
set_option maxHeartbeats 4000000 in
theorem sm_k_ok {own : String} {init : Bool} {w : sm_E} {d nL : Nat} {st : List Value} {h : sm_H} {g : Nat × List Value × sm_H} (hx : p.tables.exec = Jvm.exec) (hb : c.code = cc) (hml : c.maxLocals = nL) (hls : ls.size = nL) (hts : ∀ w ∈ sm_G, w.before args s = true) (hown : s.vm.findClass own = some m.cls)
    (hK : va_K (dC, dI) vwCl (sm_TY dA) s) (hP : va_P (dC, dI) vwCl (sm_ws B dA 0 h) H) (hD : va_D (fun q => base ≤ q) (sm_ws B dA 0 h)) (hS : va_S (fun q => base ≤ q) s.heap H locs) (hbase : base ≤ s.heap.size) (hB : ∀ k, k < 1000 → B k = base + k)
    (hStr : ∀ i idx, [42, 106, 108, 110, 112, 114][i]? = some idx → ∃ tx, vk_R RX2 idx tx (B (1000 + i)) s)
    (hAO : ∀ C, Cond.arrayOver (.object C) ∈ lw_tbl → va_AO C s)
    (hobj : Cond.instanceMethod objectInit ∈ lw_tbl ∧ Cond.code objectInit ⟨#[0xb1]⟩ 1 none ∈ lw_tbl) (hcpy : Cond.native arraycopyName ∈ lw_tbl ∧ Cond.static arraycopyName ∈ lw_tbl ∧ Cond.initialized "java/lang/System" ∈ lw_tbl)
    (hlk2 : (w.2.1 = 999 → ∀ idx, w.1 = .invokespecial idx → Cond.methodLink own idx objectInit ∈ lw_tbl) ∧ (w.2.1 = 998 → ∀ idx, w.1 = .invokestatic idx → Cond.methodLink own idx arraycopyName ∈ lw_tbl))
    (hsz : s.heap.size + cells = base + h.length) (hRf : d ≤ R.frames) (hRl : 33 * d ≤ R.locals)
    (hd : sm_dc cc pc w) (hlk : sm_lk own init w) (hg : sm_k w d st h = some g) (hRc : cells + g.2.2.length ≤ R.cells + h.length) (hRs : slots + sm_sl g.2.2 ≤ R.slots + sm_sl h)
    (k : ∀ (H1 : Heap) (locs1 : List Loc) (c1 s1 : Nat), c1 + h.length = cells + g.2.2.length → s1 + sm_sl h = slots + sm_sl g.2.2 → va_P (dC, dI) vwCl (sm_ws B dA 0 g.2.2) H1 → va_D (fun q => base ≤ q) (sm_ws B dA 0 g.2.2) → va_S (fun q => base ≤ q) s.heap H1 locs1 → W p l e R s m args below meth c H1 locs1 c1 s1 Q (F0 m (pc + g.1) ls (sm_cS B g.2.1))) : W p l e R s m args below meth c H locs cells slots Q (F0 m pc ls (sm_cS B st)) := by
  obtain ⟨ins, wa, wb, wc⟩ := w
  have hd1 := fun h => sm_dc1 (cc := cc) (pc := pc) (e := (ins, wa, wb, wc)) hd h
  have hA : ∀ q : Nat, s.heap.size ≤ q → base ≤ q := fun q hq => Nat.le_trans hbase hq
  cases ins <;> first | (cases hg; done) | skip
  case new idx =>
    have hd2 := hd1 rfl
    obtain ⟨q, hq, w1, w2, w3⟩ := hlk
    obtain ⟨hin, -, tys, htys⟩ := sm_cl_in _ _ hq
    unfold sm_k at hg
    dsimp only at hg
    split at hg
    · rename_i hh
      cases hg
      obtain ⟨hn, hdf⟩ := sm_df_ok hq htys B
      dsimp only at hRc hRs k
      have e1 : sm_sl (h ++ [Sum.inr (wa, sm_df wa)]) = sm_sl h + q.2.2 := by
        rw [← hn]; simp [sm_sl, sm_sz]
      rw [List.length_append, List.length_singleton] at hRc
      rw [e1] at hRs
      refine va_new (D := (dC, dI)) (ci := wa) (fs := (sm_df wa).map (sm_cv B)) (C := q.1) (T := q.2.1) (N := q.2.2) hx hb hts hin tys htys hown (hts _ (sm_Gin w1 rfl)) (hts _ (sm_Gin w2 rfl)) (hts _ (sm_Gin w3 rfl)) hK hP hD hS hA hq hdf (by omega) (by omega) hd2 (fun qn H1 a1 a2 a3 => ?_)
      refine sm_fresh a1 a2 hB hh.2 hsz (fun hqn => ?_)
      subst hqn
      have e2 : sm_ws B dA 0 (h ++ [.inr (wa, sm_df wa)]) = sm_ws B dA 0 h ++ [(B h.length, .inr (wa, (sm_df wa).map (sm_cv B)))] := by rw [sm_ws_app, Nat.zero_add]; rfl
      exact k H1 locs (cells + 1) (slots + q.2.2) (by rw [List.length_append, List.length_singleton]; omega) (by rw [e1]; omega) (by rw [e2]; exact a1) (by rw [e2]; exact a2) a3
    · cases hg
  case newarray aty =>
    have hd2 := hd1 rfl
    cases aty <;> first | (cases hg; done) | skip
    · unfold sm_k at hg
      dsimp only at hg
      split at hg <;> first | (cases hg; done) | skip
      rename_i n r
      split at hg <;> first | (cases hg; done) | skip
      rename_i hh
      obtain ⟨hn, hN, hlen⟩ := hh
      cases hg
      dsimp only at hRc hRs k
      have e1 : sm_sl (h ++ [Sum.inl (0, n.toNatClampNeg, .inl (fun _ => 0))]) = sm_sl h + n.toNatClampNeg := by simp [sm_sl, sm_sz]
      rw [List.length_append, List.length_singleton] at hRc
      rw [e1] at hRs
      refine va_newa (atype := .int) (ty := .int) (a0 := (n.toNatClampNeg, .inl (fun _ => 0))) hx hb (hts _ (sm_Gin hlk rfl)) rfl hK hP hD hS hA (fun _ => rfl) hn rfl (Nat.le_trans (Nat.mul_le_mul_right _ hN) (by decide)) (by omega) (by omega) hd2 (fun qn cA H1 a0 a1 a2 a3 => ?_)
      have hcA : cA = dA 0 := sm_cA hK rfl a0
      subst hcA
      refine sm_fresh a1 a2 hB hlen hsz (fun hqn => ?_)
      subst hqn
      have e2 : sm_ws B dA 0 (h ++ [.inl (0, n.toNatClampNeg, .inl (fun _ => 0))]) = sm_ws B dA 0 h ++ [(B h.length, .inl (dA 0, n.toNatClampNeg, .inl (fun _ => 0)))] := by rw [sm_ws_app, Nat.zero_add]; rfl
      exact k H1 locs (cells + 1) (slots + n.toNatClampNeg) (by rw [List.length_append, List.length_singleton]; omega) (by rw [e1]; omega) (by rw [e2]; exact a1) (by rw [e2]; exact a2) a3
    · unfold sm_k at hg
      dsimp only at hg
      split at hg <;> first | (cases hg; done) | skip
      rename_i n r
      split at hg <;> first | (cases hg; done) | skip
      rename_i hh
      obtain ⟨hn, hN, hlen⟩ := hh
      cases hg
      dsimp only at hRc hRs k
      have e1 : sm_sl (h ++ [Sum.inl (1, n.toNatClampNeg, .inr (.inl (fun _ => 0)))]) = sm_sl h + n.toNatClampNeg := by simp [sm_sl, sm_sz]
      rw [List.length_append, List.length_singleton] at hRc
      rw [e1] at hRs
      refine va_newa (atype := .long) (ty := .long) (a0 := (n.toNatClampNeg, .inr (.inl (fun _ => 0)))) hx hb (hts _ (sm_Gin hlk rfl)) rfl hK hP hD hS hA (fun _ => rfl) hn rfl (Nat.le_trans (Nat.mul_le_mul_right _ hN) (by decide)) (by omega) (by omega) hd2 (fun qn cA H1 a0 a1 a2 a3 => ?_)
      have hcA : cA = dA 1 := sm_cA hK rfl a0
      subst hcA
      refine sm_fresh a1 a2 hB hlen hsz (fun hqn => ?_)
      subst hqn
      have e2 : sm_ws B dA 0 (h ++ [.inl (1, n.toNatClampNeg, .inr (.inl (fun _ => 0)))]) = sm_ws B dA 0 h ++ [(B h.length, .inl (dA 1, n.toNatClampNeg, .inr (.inl (fun _ => 0))))] := by rw [sm_ws_app, Nat.zero_add]; rfl
      exact k H1 locs (cells + 1) (slots + n.toNatClampNeg) (by rw [List.length_append, List.length_singleton]; omega) (by rw [e1]; omega) (by rw [e2]; exact a1) (by rw [e2]; exact a2) a3
  case anewarray idx =>
    have hd2 := hd1 rfl
    obtain ⟨q, hq, w1, w2⟩ := hlk
    unfold sm_k at hg
    dsimp only at hg
    split at hg <;> first | (cases hg; done) | skip
    rename_i n r
    split at hg <;> first | (cases hg; done) | skip
    rename_i hh
    obtain ⟨ht, hn, hN, hlen⟩ := hh
    cases hg
    dsimp only at hRc hRs k
    have e1 : sm_sl (h ++ [Sum.inl (wa, n.toNatClampNeg, .inr (.inr (.inr (.inr (fun _ => none)))))]) = sm_sl h + n.toNatClampNeg := by simp [sm_sl, sm_sz]
    rw [List.length_append, List.length_singleton] at hRc
    rw [e1] at hRs
    refine va_newq (C := q.1) hx hb hown (hts _ (sm_Gin w1 rfl)) (hAO _ w2) hK hP hD hS hA hn rfl (Nat.le_trans (Nat.mul_le_mul_right _ hN) (by decide)) (by omega) (by omega) hd2 (fun qn cA H1 a0 a1 a2 a3 => ?_)
    have hcA : cA = dA wa := by
      rcases ht with ht | ht | ht <;> subst ht <;> cases hq <;> exact sm_cA hK rfl a0
    subst hcA
    refine sm_fresh a1 a2 hB hlen hsz (fun hqn => ?_)
    subst hqn
    have e2 : sm_ws B dA 0 (h ++ [.inl (wa, n.toNatClampNeg, .inr (.inr (.inr (.inr (fun _ => none)))))]) = sm_ws B dA 0 h ++ [(B h.length, .inl (dA wa, n.toNatClampNeg, .inr (.inr (.inr (.inr (fun _ => none))))))] := by rw [sm_ws_app, Nat.zero_add]; rfl
    exact k H1 locs (cells + 1) (slots + n.toNatClampNeg) (by rw [List.length_append, List.length_singleton]; omega) (by rw [e1]; omega) (by rw [e2]; exact a1) (by rw [e2]; exact a2) a3
  case aastore =>
    have hd2 := hd1 rfl
    unfold sm_k at hg
    dsimp only at hg
    split at hg <;> first | (cases hg; done) | skip
    rename_i v i a r
    split at hg <;> first | (cases hg; done) | skip
    rename_i t n f ci vs hc1 hc2
    split at hg <;> first | (cases hg; done) | skip
    rename_i hh
    obtain ⟨ht, hci, hin⟩ := hh
    subst hci
    cases hg
    dsimp only at hRc hRs k
    have e3 : sm_sl (h.set a (.inl (t, n, .inr (.inr (.inr (.inr (va_up f i.toNatClampNeg (some v)))))))) = sm_sl h := sm_sl_set hc1 rfl
    have e2 : sm_ws B dA 0 (h.set a (.inl (t, n, .inr (.inr (.inr (.inr (va_up f i.toNatClampNeg (some v)))))))) = (sm_ws B dA 0 h).set a (B a, .inl (dA t, n, .inr (.inr (.inr (.inr (va_up (fun j => (f j).map B) i.toNatClampNeg (some (B v)))))))) := by
      rw [sm_ws_set, Nat.zero_add]
      simp only [sm_ce]
      have : (fun j => (va_up f i.toNatClampNeg (some v) j).map B) = va_up (fun j => (f j).map B) i.toNatClampNeg (some (B v)) := by
        funext j
        unfold va_up
        split <;> rfl
      rw [this]
    have hk : ∀ (H1 : Heap) (locs1 : List Loc), va_P (dC, dI) vwCl ((sm_ws B dA 0 h).set a (B a, .inl (dA t, n, .inr (.inr (.inr (.inr (va_up (fun j => (f j).map B) i.toNatClampNeg (some (B v))))))))) H1 → va_D (fun q => base ≤ q) ((sm_ws B dA 0 h).set a (B a, .inl (dA t, n, .inr (.inr (.inr (.inr (va_up (fun j => (f j).map B) i.toNatClampNeg (some (B v))))))))) → va_S (fun q => base ≤ q) s.heap H1 locs1 → W p l e R s m args below meth c H1 locs1 cells slots Q (F0 m (pc + 1) ls (sm_cS B r)) :=
      fun H1 locs1 a1 a2 a3 => k H1 locs1 cells slots (by rw [List.length_set]) (by rw [e3]) (by rw [e2]; exact a1) (by rw [e2]; exact a2) a3
    rcases ht with ht | ht | ht
    · subst ht; exact va_astq (r := (RX3, TX3, 5)) hx hb hK hP hD hS a 2 v 3 (sm_ws_at hc1) rfl (sm_ws_at hc2) rfl hin hd2 hk
    · subst ht; exact va_astq (r := (RX6, TX6, 5)) hx hb hK hP hD hS a 3 v 6 (sm_ws_at hc1) rfl (sm_ws_at hc2) rfl hin hd2 hk
    · subst ht; exact va_astq (r := (RX8, TX8, 10)) hx hb hK hP hD hS a 4 v 8 (sm_ws_at hc1) rfl (sm_ws_at hc2) rfl hin hd2 hk
  case ldc idx =>
    have hd2 := hd1 rfl
    unfold sm_k at hg
    dsimp only at hg hlk
    split at hg
    · rename_i h0
      rcases hlk with ⟨-, hw⟩ | ⟨h1, -⟩
      · cases hg
        exact lv_ldc hx hb hown (hts _ (sm_Gin hw rfl)) hd2 (k H locs cells slots rfl rfl hP hD hS)
      · exact absurd (h1.symm.trans h0) (by decide)
    · rename_i h0
      split at hg <;> first | (cases hg; done) | skip
      rcases hlk with ⟨h1, -⟩ | ⟨-, ho, hi⟩
      · exact absurd h1 h0
      · cases hg
        obtain ⟨tx, hR⟩ := hStr _ _ hi
        rw [← ho] at hR
        exact va_ldcS hx hb hown hR hd2 (k H locs cells slots rfl rfl hP hD hS)
  case ldc_w idx =>
    have hd2 := hd1 rfl
    cases hg
    exact lv_ldcw hx hb hown (hts _ (sm_Gin hlk rfl)) hd2 (k H locs cells slots rfl rfl hP hD hS)
  case ldc2_w idx =>
    have hd2 := hd1 rfl
    cases hg
    exact lv_ldc2 hx hb hown (hts _ (sm_Gin hlk rfl)) hd2 (k H locs cells slots rfl rfl hP hD hS)
  case invokespecial idx =>
    have hd2 := hd1 rfl
    unfold sm_k at hg
    dsimp only at hg
    split at hg <;> first | (cases hg; done) | skip
    rename_i a r
    split at hg <;> first | (cases hg; done) | skip
    rename_i hh
    obtain ⟨h9, hdd, hcat⟩ := hh
    cases hg
    have hc2 : ((sm_cS B r).map fun v => v.category).sum ≤ 8 := by
      have := sm_cS_cat B r
      unfold sm_cat at this hcat
      omega
    refine W.objInit hx hb hown (hts _ (sm_Gin (hlk2.1 h9 idx rfl) rfl)) (hts _ (sm_Gin hobj.1 rfl)) (hts _ (sm_Gin hobj.2 rfl)) rfl (by rw [hml]; exact hls) (a := B a) (rest := sm_cS B r) rfl hd2 (by omega) (by show 2 * 0 + _ + 12 ≤ R.locals; omega) ?_
    exact W.eq rfl (k H locs cells slots rfl rfl hP hD hS)
  case invokestatic idx =>
    have hd2 := hd1 rfl
    unfold sm_k at hg
    dsimp only at hg
    split at hg <;> first | (cases hg; done) | skip
    rename_i n dp b sp a r
    split at hg <;> first | (cases hg; done) | skip
    rename_i ta na f tb nb g2 hc1 hc2
    split at hg <;> first | (cases hg; done) | skip
    rename_i hh
    obtain ⟨h9, hdd, hcat, hta, htb, h1, h2, h3, h4, h5⟩ := hh
    subst hta
    subst htb
    cases hg
    dsimp only at hRc hRs k
    have hc3 : ((sm_cS B r).map fun v => v.category).sum ≤ 8 := by
      have := sm_cS_cat B r
      unfold sm_cat at this hcat
      omega
    have e3 : sm_sl (h.set b (.inl (1, nb, .inr (.inl (va_cpy f g2 sp.toNatClampNeg dp.toNatClampNeg n.toNatClampNeg))))) = sm_sl h := sm_sl_set hc2 rfl
    have e2 := sm_ws_set B dA (.inl (1, nb, .inr (.inl (va_cpy f g2 sp.toNatClampNeg dp.toNatClampNeg n.toNatClampNeg)))) h 0 b
    rw [Nat.zero_add] at e2
    refine va_copyl (ty := .long) hx hb (by rw [hml, hls]) hown (hts _ (sm_Gin (hlk2.2 h9 idx rfl) rfl)) (hts _ (sm_Gin hcpy.1 rfl)) (hts _ (sm_Gin hcpy.2.1 rfl)) (hts _ (sm_Gin hcpy.2.2 rfl)) hK hP hD hS a b 1 1 (sm_ws_at hc1) (sm_ws_at hc2) rfl rfl rfl h1 h2 h3 h4 h5 (fun _ _ => rfl) (by omega) (by
      have : nativeFrameWords "java/lang/System" "arraycopy" 5 = 7 := by decide +kernel
      show ((sm_cS B r).map fun v => v.category).sum + (nativeFrameWords "java/lang/System" "arraycopy" 5 + 11) ≤ R.locals
      omega) hd2 (fun H1 locs1 a1 a2 a3 => ?_)
    exact k H1 locs1 cells slots (by rw [List.length_set]) (by rw [e3]) (by rw [e2]; exact a1) (by rw [e2]; exact a2) a3
end SMK
