/-! the small machine stands for the real one: steps on stack and locals -/
def sm_cv (B : Nat → Nat) : Value → Value
  | .ref a => .ref (B a)
  | v => v
def sm_cL (B : Nat → Nat) (lv : sm_L) : List (Nat × Value) := lv.map (fun q => (q.1, sm_cv B q.2))
def sm_cS (B : Nat → Nat) (st : List Value) : List Value := st.map (sm_cv B)
theorem sm_cv_cat (B : Nat → Nat) (v : Value) : (sm_cv B v).category = v.category := by cases v <;> rfl
theorem sm_cS_cat (B : Nat → Nat) (st : List Value) : sm_cat (sm_cS B st) = sm_cat st := by
  unfold sm_cat sm_cS
  rw [List.map_map]
  congr 1
  exact List.map_congr_left fun v _ => sm_cv_cat B v
theorem sm_ld_mem {lv : sm_L} {i : Nat} {v : Value} (h : sm_ld lv i = some v) : (i, v) ∈ lv := by
  induction lv with
  | nil => cases h
  | cons q r ih =>
    unfold sm_ld at h
    split at h
    · rename_i hq
      obtain ⟨a, b⟩ := q
      cases h
      dsimp only at hq
      subst hq
      exact List.mem_cons_self
    · exact List.mem_cons_of_mem _ (ih h)
theorem sm_ld_at {B : Nat → Nat} {ls : Array Slot} {nL : Nat} {lv : sm_L} (hl : lv_has ls nL (sm_cL B lv)) {i : Nat} {v : Value} (h : sm_ld lv i = some v) : ls[i]? = some (.val (sm_cv B v)) :=
  hl.2.2 (i, sm_cv B v) (List.mem_map.mpr ⟨(i, v), sm_ld_mem h, rfl⟩)
theorem sm_st1_map (B : Nat → Nat) (lv : sm_L) (i : Nat) (v : Value) : (i, sm_cv B v) :: (sm_cL B lv).filter (fun q => !(q.1 == i) && !(q.1 + 1 == i && q.2.category == 2)) = sm_cL B (sm_st1 lv i v) := by
  unfold sm_st1 sm_cL
  rw [List.map_cons, List.filter_map]
  congr 3
  funext q
  simp [sm_cv_cat]
theorem sm_st2_map (B : Nat → Nat) (lv : sm_L) (i : Nat) (v : Value) : (i, sm_cv B v) :: (sm_cL B lv).filter (fun q => !(q.1 == i) && (!(q.1 == i + 1) && !(q.1 + 1 == i && q.2.category == 2))) = sm_cL B (sm_st2 lv i v) := by
  unfold sm_st2 sm_cL
  rw [List.map_cons, List.filter_map]
  congr 3
  funext q
  simp [sm_cv_cat]
theorem sm_lod_i {pc : Nat} {lv : sm_L} {st : List Value} {i n : Nat} {g : sm_F} (h : sm_lod pc lv st i n 0 = some g) : ∃ x, sm_ld lv i = some (.int x) ∧ g = (pc + n, lv, .int x :: st) := by
  unfold sm_lod at h; split at h <;> simp_all
theorem sm_lod_l {pc : Nat} {lv : sm_L} {st : List Value} {i n : Nat} {g : sm_F} (h : sm_lod pc lv st i n 1 = some g) : ∃ x, sm_ld lv i = some (.long x) ∧ g = (pc + n, lv, .long x :: st) := by
  unfold sm_lod at h; split at h <;> simp_all
theorem sm_lod_a {pc : Nat} {lv : sm_L} {st : List Value} {i n : Nat} {g : sm_F} (h : sm_lod pc lv st i n 2 = some g) : (∃ x, sm_ld lv i = some (.ref x) ∧ g = (pc + n, lv, .ref x :: st)) ∨ (sm_ld lv i = some .null ∧ g = (pc + n, lv, .null :: st)) := by
  unfold sm_lod at h; split at h <;> simp_all
theorem sm_sto_i {pc : Nat} {lv : sm_L} {nL i n : Nat} {st : List Value} {g : sm_F} (h : sm_sto pc lv nL i n 0 st = some g) : ∃ x r, st = .int x :: r ∧ i < nL ∧ g = (pc + n, sm_st1 lv i (.int x), r) := by
  unfold sm_sto at h; split at h <;> simp_all
theorem sm_sto_l {pc : Nat} {lv : sm_L} {nL i n : Nat} {st : List Value} {g : sm_F} (h : sm_sto pc lv nL i n 1 st = some g) : ∃ x r, st = .long x :: r ∧ i + 1 < nL ∧ g = (pc + n, sm_st2 lv i (.long x), r) := by
  unfold sm_sto at h; split at h <;> simp_all
theorem sm_sto_a {pc : Nat} {lv : sm_L} {nL i n : Nat} {st : List Value} {g : sm_F} (h : sm_sto pc lv nL i n 2 st = some g) : (∃ x r, st = .ref x :: r ∧ i < nL ∧ g = (pc + n, sm_st1 lv i (.ref x), r)) ∨ (∃ r, st = .null :: r ∧ i < nL ∧ g = (pc + n, sm_st1 lv i .null, r)) := by
  unfold sm_sto at h; split at h <;> simp_all
theorem sm_bi_inv {pc : Nat} {lv : sm_L} {f : Int32 → Int32 → Int32} {st : List Value} {g : sm_F} (h : sm_bi pc lv f st = some g) : ∃ x y r, st = .int y :: .int x :: r ∧ g = (pc + 1, lv, .int (f x y) :: r) := by
  unfold sm_bi at h
  split at h
  · cases h; exact ⟨_, _, _, rfl, rfl⟩
  · cases h
theorem sm_bl_inv {pc : Nat} {lv : sm_L} {f : Int64 → Int64 → Int64} {st : List Value} {g : sm_F} (h : sm_bl pc lv f st = some g) : ∃ x y r, st = .long y :: .long x :: r ∧ g = (pc + 1, lv, .long (f x y) :: r) := by
  unfold sm_bl at h
  split at h
  · cases h; exact ⟨_, _, _, rfl, rfl⟩
  · cases h
theorem sm_ui_inv {pc : Nat} {lv : sm_L} {f : Int32 → Value} {st : List Value} {g : sm_F} (h : sm_ui pc lv f st = some g) : ∃ x r, st = .int x :: r ∧ g = (pc + 1, lv, f x :: r) := by
  unfold sm_ui at h; split at h <;> simp_all
theorem sm_ul_inv {pc : Nat} {lv : sm_L} {f : Int64 → Value} {st : List Value} {g : sm_F} (h : sm_ul pc lv f st = some g) : ∃ x r, st = .long x :: r ∧ g = (pc + 1, lv, f x :: r) := by
  unfold sm_ul at h; split at h <;> simp_all
/-- lengths of instructions -/
def sm_len (i : ClassFile.Instr) : Nat := match i with
  | .iload _ | .lload _ | .aload _ | .istore _ | .lstore _ | .astore _ | .bipush _ | .newarray _ | .ldc _ => 2
  | .sipush _ | .iinc _ _ | .goto _ | .ifCond _ _ | .if_icmp _ _ | .ifnull _ | .ifnonnull _ | .getfield _ | .putfield _ | .new _ | .anewarray _ | .ldc_w _ | .ldc2_w _ | .invokevirtual _ | .invokespecial _ | .invokestatic _ => 3
  | _ => 1
def sm_sw (i : ClassFile.Instr) : Bool := match i with
  | .tableswitch _ _ _ _ => true
  | .lookupswitch _ _ => true
  | _ => false
def sm_jok (pc : Nat) (e : sm_E) : Bool := match e.1 with
  | .goto o => decide ((pc : Int) + o = (e.2.1 : Int))
  | .ifCond _ o => decide ((pc : Int) + o = (e.2.1 : Int))
  | .if_icmp _ o => decide ((pc : Int) + o = (e.2.1 : Int))
  | .ifnull o => decide ((pc : Int) + o = (e.2.1 : Int))
  | .ifnonnull o => decide ((pc : Int) + o = (e.2.1 : Int))
  | _ => true
def sm_dc (cc : ByteArray) (pc : Nat) (e : sm_E) : Prop := ∃ len, decode cc pc = .ok (e.1, len) ∧ (sm_sw e.1 = true ∨ len = sm_len e.1)
theorem sm_dc1 {cc : ByteArray} {pc : Nat} {e : sm_E} (h : sm_dc cc pc e) (hs : sm_sw e.1 = false) : decode cc pc = .ok (e.1, sm_len e.1) := by
  obtain ⟨len, h1, h2⟩ := h
  rcases h2 with h2 | h2
  · rw [hs] at h2; cases h2
  · rw [h2] at h1; exact h1
theorem sm_tgt_inv {pc : Nat} {off : Int} {t : Nat} (h : sm_tgt pc off = some t) : (pc : Int) + off = (t : Int) := by
  unfold sm_tgt at h
  split at h
  · cases h; omega
  · cases h
theorem sm_if_t {c : ClassFile.Cond} {x y : Int32} {a b : Nat} (h : sm_cmp c x y) : sm_if c x y a b = a := @if_pos _ (sm_dec c x y) h _ _ _
theorem sm_if_f {c : ClassFile.Cond} {x y : Int32} {a b : Nat} (h : ¬ sm_cmp c x y) : sm_if c x y a b = b := @if_neg _ (sm_dec c x y) h _ _ _
section SMP
variable {p : Program} {l : Launch} {e : Env} {R : Room} {s : State} {m : MethodId} {args : Array Value} {below : List Frame} {meth : Method} {c : Code} {H : Heap} {locs : List Loc} {cells slots : Nat} {Q : State → Prop}
variable {cc : ByteArray} {pc : Nat} {ls : Array Slot}
set_option maxHeartbeats 4000000 in
theorem sm_p_ok {B : Nat → Nat} {w : sm_E} {nL : Nat} {lv : sm_L} {st : List Value} {g : sm_F} (hx : p.tables.exec = Jvm.exec) (hb : c.code = cc) (hd : sm_dc cc pc w) (hj : sm_jok pc w = true) (hg : sm_p w nL pc lv st = some g) (hl : lv_has ls nL (sm_cL B lv))
    (k : ∀ ls' : Array Slot, lv_has ls' nL (sm_cL B g.2.1) → W p l e R s m args below meth c H locs cells slots Q (F0 m g.1 ls' (sm_cS B g.2.2))) : W p l e R s m args below meth c H locs cells slots Q (F0 m pc ls (sm_cS B st)) := by
  obtain ⟨ins, wa, wb, wc⟩ := w
  have hd1 := fun h => sm_dc1 (cc := cc) (pc := pc) (e := (ins, wa, wb, wc)) hd h
  cases ins <;> first | (cases hg; done) | skip
  case iload_n kk =>
    have hd2 := hd1 rfl
    obtain ⟨x, h1, rfl⟩ := sm_lod_i (show sm_lod _ _ _ _ _ _ = some g from hg)
    exact lv_iload_n hx hb hd2 rfl (sm_ld_at hl h1) (k ls hl)
  case iload i =>
    have hd2 := hd1 rfl
    obtain ⟨x, h1, rfl⟩ := sm_lod_i (show sm_lod _ _ _ _ _ _ = some g from hg)
    exact lv_iload hx hb hd2 (sm_ld_at hl h1) (k ls hl)
  case lload_n kk =>
    have hd2 := hd1 rfl
    obtain ⟨x, h1, rfl⟩ := sm_lod_l (show sm_lod _ _ _ _ _ _ = some g from hg)
    exact lv_lload_n hx hb hd2 rfl (sm_ld_at hl h1) (k ls hl)
  case lload i =>
    have hd2 := hd1 rfl
    obtain ⟨x, h1, rfl⟩ := sm_lod_l (show sm_lod _ _ _ _ _ _ = some g from hg)
    exact lv_lload hx hb hd2 (sm_ld_at hl h1) (k ls hl)
  case aload_n kk =>
    have hd2 := hd1 rfl
    rcases sm_lod_a (show sm_lod _ _ _ _ _ _ = some g from hg) with ⟨x, h1, rfl⟩ | ⟨h1, rfl⟩
    · exact lv_aload_n hx hb hd2 rfl (sm_ld_at hl h1) (k ls hl)
    · exact lv_aload_nN hx hb hd2 rfl (sm_ld_at hl h1) (k ls hl)
  case aload i =>
    have hd2 := hd1 rfl
    rcases sm_lod_a (show sm_lod _ _ _ _ _ _ = some g from hg) with ⟨x, h1, rfl⟩ | ⟨h1, rfl⟩
    · exact lv_aload hx hb hd2 (sm_ld_at hl h1) (k ls hl)
    · exact lv_aloadN hx hb hd2 (sm_ld_at hl h1) (k ls hl)
  case istore_n kk =>
    have hd2 := hd1 rfl
    obtain ⟨x, r, rfl, h1, rfl⟩ := sm_sto_i (show sm_sto _ _ _ _ _ _ _ = some g from hg)
    exact lv_istore_n hx hb hd2 rfl hl h1 (sm_st1_map B lv _ (.int x)) k
  case istore i =>
    have hd2 := hd1 rfl
    obtain ⟨x, r, rfl, h1, rfl⟩ := sm_sto_i (show sm_sto _ _ _ _ _ _ _ = some g from hg)
    exact lv_istore hx hb hd2 hl h1 (sm_st1_map B lv _ (.int x)) k
  case lstore_n kk =>
    have hd2 := hd1 rfl
    obtain ⟨x, r, rfl, h1, rfl⟩ := sm_sto_l (show sm_sto _ _ _ _ _ _ _ = some g from hg)
    exact lv_lstore_n hx hb hd2 rfl hl h1 (sm_st2_map B lv _ (.long x)) k
  case lstore i =>
    have hd2 := hd1 rfl
    obtain ⟨x, r, rfl, h1, rfl⟩ := sm_sto_l (show sm_sto _ _ _ _ _ _ _ = some g from hg)
    exact lv_lstore hx hb hd2 hl h1 (sm_st2_map B lv _ (.long x)) k
  case astore_n kk =>
    have hd2 := hd1 rfl
    rcases sm_sto_a (show sm_sto _ _ _ _ _ _ _ = some g from hg) with ⟨x, r, rfl, h1, rfl⟩ | ⟨r, rfl, h1, rfl⟩
    · exact lv_astore_n hx hb hd2 rfl hl h1 (sm_st1_map B lv _ (.ref x)) k
    · exact lv_astore_nN hx hb hd2 rfl hl h1 (sm_st1_map B lv _ .null) k
  case astore i =>
    have hd2 := hd1 rfl
    rcases sm_sto_a (show sm_sto _ _ _ _ _ _ _ = some g from hg) with ⟨x, r, rfl, h1, rfl⟩ | ⟨r, rfl, h1, rfl⟩
    · exact lv_astore hx hb hd2 hl h1 (sm_st1_map B lv _ (.ref x)) k
    · exact lv_astoreN hx hb hd2 hl h1 (sm_st1_map B lv _ .null) k
  case iconst n =>
    have hd2 := hd1 rfl
    cases hg
    exact lv_iconst hx hb hd2 rfl (k ls hl)
  case bipush n =>
    have hd2 := hd1 rfl
    cases hg
    exact lv_bipush hx hb hd2 rfl (k ls hl)
  case sipush n =>
    have hd2 := hd1 rfl
    cases hg
    exact lv_sipush hx hb hd2 rfl (k ls hl)
  case lconst n =>
    have hd2 := hd1 rfl
    cases hg
    exact lv_lconst hx hb hd2 rfl (k ls hl)
  case aconst_null =>
    have hd2 := hd1 rfl
    cases hg
    exact lv_null hx hb hd2 (k ls hl)
  case iadd =>
    have hd2 := hd1 rfl
    obtain ⟨x, y, r, rfl, rfl⟩ := sm_bi_inv (show sm_bi _ _ _ _ = some g from hg)
    exact lv_iadd hx hb hd2 (k ls hl)
  case isub =>
    have hd2 := hd1 rfl
    obtain ⟨x, y, r, rfl, rfl⟩ := sm_bi_inv (show sm_bi _ _ _ _ = some g from hg)
    exact lv_isub hx hb hd2 (k ls hl)
  case imul =>
    have hd2 := hd1 rfl
    obtain ⟨x, y, r, rfl, rfl⟩ := sm_bi_inv (show sm_bi _ _ _ _ = some g from hg)
    exact lv_imul hx hb hd2 (k ls hl)
  case iand =>
    have hd2 := hd1 rfl
    obtain ⟨x, y, r, rfl, rfl⟩ := sm_bi_inv (show sm_bi _ _ _ _ = some g from hg)
    exact lv_iand hx hb hd2 (k ls hl)
  case ior =>
    have hd2 := hd1 rfl
    obtain ⟨x, y, r, rfl, rfl⟩ := sm_bi_inv (show sm_bi _ _ _ _ = some g from hg)
    exact lv_ior hx hb hd2 (k ls hl)
  case ixor =>
    have hd2 := hd1 rfl
    obtain ⟨x, y, r, rfl, rfl⟩ := sm_bi_inv (show sm_bi _ _ _ _ = some g from hg)
    exact lv_ixor hx hb hd2 (k ls hl)
  case ishl =>
    have hd2 := hd1 rfl
    obtain ⟨x, y, r, rfl, rfl⟩ := sm_bi_inv (show sm_bi _ _ _ _ = some g from hg)
    exact lv_ishl hx hb hd2 (k ls hl)
  case ishr =>
    have hd2 := hd1 rfl
    obtain ⟨x, y, r, rfl, rfl⟩ := sm_bi_inv (show sm_bi _ _ _ _ = some g from hg)
    exact lv_ishr hx hb hd2 (k ls hl)
  case iushr =>
    have hd2 := hd1 rfl
    obtain ⟨x, y, r, rfl, rfl⟩ := sm_bi_inv (show sm_bi _ _ _ _ = some g from hg)
    exact lv_iushr hx hb hd2 rfl (k ls hl)
  case ladd =>
    have hd2 := hd1 rfl
    obtain ⟨x, y, r, rfl, rfl⟩ := sm_bl_inv (show sm_bl _ _ _ _ = some g from hg)
    exact lv_ladd hx hb hd2 (k ls hl)
  case lsub =>
    have hd2 := hd1 rfl
    obtain ⟨x, y, r, rfl, rfl⟩ := sm_bl_inv (show sm_bl _ _ _ _ = some g from hg)
    exact lv_lsub hx hb hd2 (k ls hl)
  case lmul =>
    have hd2 := hd1 rfl
    obtain ⟨x, y, r, rfl, rfl⟩ := sm_bl_inv (show sm_bl _ _ _ _ = some g from hg)
    exact lv_lmul hx hb hd2 (k ls hl)
  case land =>
    have hd2 := hd1 rfl
    obtain ⟨x, y, r, rfl, rfl⟩ := sm_bl_inv (show sm_bl _ _ _ _ = some g from hg)
    exact lv_land hx hb hd2 (k ls hl)
  case lor =>
    have hd2 := hd1 rfl
    obtain ⟨x, y, r, rfl, rfl⟩ := sm_bl_inv (show sm_bl _ _ _ _ = some g from hg)
    exact lv_lor hx hb hd2 (k ls hl)
  case lxor =>
    have hd2 := hd1 rfl
    obtain ⟨x, y, r, rfl, rfl⟩ := sm_bl_inv (show sm_bl _ _ _ _ = some g from hg)
    exact lv_lxor hx hb hd2 (k ls hl)
  case ineg =>
    have hd2 := hd1 rfl
    obtain ⟨x, r, rfl, rfl⟩ := sm_ui_inv (show sm_ui _ _ _ _ = some g from hg)
    exact lv_ineg hx hb hd2 (k ls hl)
  case lneg =>
    have hd2 := hd1 rfl
    obtain ⟨x, r, rfl, rfl⟩ := sm_ul_inv (show sm_ul _ _ _ _ = some g from hg)
    exact lv_lneg hx hb hd2 (k ls hl)
  case i2l =>
    have hd2 := hd1 rfl
    obtain ⟨x, r, rfl, rfl⟩ := sm_ui_inv (show sm_ui _ _ _ _ = some g from hg)
    exact lv_i2l hx hb hd2 rfl (k ls hl)
  case i2b =>
    have hd2 := hd1 rfl
    obtain ⟨x, r, rfl, rfl⟩ := sm_ui_inv (show sm_ui _ _ _ _ = some g from hg)
    exact lv_i2b hx hb hd2 rfl (k ls hl)
  case i2s =>
    have hd2 := hd1 rfl
    obtain ⟨x, r, rfl, rfl⟩ := sm_ui_inv (show sm_ui _ _ _ _ = some g from hg)
    exact lv_i2s hx hb hd2 rfl (k ls hl)
  case l2i =>
    have hd2 := hd1 rfl
    obtain ⟨x, r, rfl, rfl⟩ := sm_ul_inv (show sm_ul _ _ _ _ = some g from hg)
    exact lv_l2i hx hb hd2 rfl (k ls hl)
  case idiv =>
    have hd2 := hd1 rfl
    unfold sm_p at hg
    dsimp only at hg
    split at hg
    · split at hg
      · rename_i hne
        cases hg
        exact lv_idiv hx hb hd2 hne (k ls hl)
      · cases hg
    · cases hg
  case irem =>
    have hd2 := hd1 rfl
    unfold sm_p at hg
    dsimp only at hg
    split at hg
    · split at hg
      · rename_i hne
        cases hg
        exact lv_irem hx hb hd2 hne (k ls hl)
      · cases hg
    · cases hg
  case ldiv =>
    have hd2 := hd1 rfl
    unfold sm_p at hg
    dsimp only at hg
    split at hg
    · split at hg
      · rename_i hne
        cases hg
        exact lv_ldiv hx hb hd2 hne (k ls hl)
      · cases hg
    · cases hg
  case lcmp =>
    have hd2 := hd1 rfl
    unfold sm_p at hg
    dsimp only at hg
    split at hg
    · cases hg
      exact W.lcmp hx hb hd2 (k ls hl)
    · cases hg
  case lshl =>
    have hd2 := hd1 rfl
    unfold sm_p at hg
    dsimp only at hg
    split at hg
    · cases hg
      exact lv_lshl hx hb hd2 rfl (k ls hl)
    · cases hg
  case dup =>
    have hd2 := hd1 rfl
    unfold sm_p at hg
    dsimp only at hg
    split at hg
    · split at hg
      · rename_i hc
        cases hg
        exact lv_dup hx hb hd2 (by rw [sm_cv_cat]; exact hc) (k ls hl)
      · cases hg
    · cases hg
  case pop =>
    have hd2 := hd1 rfl
    unfold sm_p at hg
    dsimp only at hg
    split at hg
    · split at hg
      · rename_i hc
        cases hg
        exact lv_pop hx hb hd2 (by rw [sm_cv_cat]; exact hc) (k ls hl)
      · cases hg
    · cases hg
  case dup_x1 =>
    have hd2 := hd1 rfl
    unfold sm_p at hg
    dsimp only at hg
    split at hg
    · split at hg
      · rename_i hc
        cases hg
        exact lv_dup_x1 hx hb hd2 (by rw [sm_cv_cat]; exact hc.1) (by rw [sm_cv_cat]; exact hc.2) (k ls hl)
      · cases hg
    · cases hg
  case dup2 =>
    have hd2 := hd1 rfl
    unfold sm_p at hg
    dsimp only at hg
    split at hg
    · split at hg
      · rename_i hc
        cases hg
        exact lv_dup2_11 hx hb hd2 (by rw [sm_cv_cat]; exact hc.1) (by rw [sm_cv_cat]; exact hc.2) (k ls hl)
      · cases hg
    · cases hg
  case iinc i n =>
    have hd2 := hd1 rfl
    unfold sm_p at hg
    dsimp only at hg
    split at hg
    · rename_i x hx1
      split at hg
      · rename_i hn
        cases hg
        obtain ⟨j, hj⟩ := List.getElem?_of_mem (List.mem_map.mpr ⟨(i, Value.int x), sm_ld_mem hx1, rfl⟩ : (i, sm_cv B (Value.int x)) ∈ sm_cL B lv)
        exact lv_iinc hx hb hd2 hl (k := j) hj rfl hn (sm_st1_map B lv i (.int (x + Int32.ofInt n))) k
      · cases hg
    · cases hg
  case goto o =>
    have hd2 := hd1 rfl
    cases hg
    exact lv_goto hx hb hd2 (by simpa [sm_jok] using hj) (k ls hl)
  case ifCond cnd o =>
    have hd2 := hd1 rfl
    have ht : (pc : Int) + o = (wa : Int) := by simpa [sm_jok] using hj
    unfold sm_p at hg
    dsimp only at hg
    split at hg
    · rename_i x r
      cases hg
      cases cnd
      · exact lv_if_eq hx hb hd2 ht (fun h => by have hk := k ls hl; rw [sm_if_t (c := .eq) (x := x) (y := 0) h] at hk; exact hk) (fun h => by have hk := k ls hl; rw [sm_if_f (c := .eq) (x := x) (y := 0) h] at hk; exact hk)
      · exact lv_if_ne hx hb hd2 ht (fun h => by have hk := k ls hl; rw [sm_if_t (c := .ne) (x := x) (y := 0) h] at hk; exact hk) (fun h => by have hk := k ls hl; rw [sm_if_f (c := .ne) (x := x) (y := 0) (fun q => q h)] at hk; exact hk)
      · exact lv_if_lt hx hb hd2 ht (fun h => by have hk := k ls hl; rw [sm_if_t (c := .lt) (x := x) (y := 0) h] at hk; exact hk) (fun h => by have hk := k ls hl; rw [sm_if_f (c := .lt) (x := x) (y := 0) h] at hk; exact hk)
      · exact lv_if_ge hx hb hd2 ht (fun h => by have hk := k ls hl; rw [sm_if_t (c := .ge) (x := x) (y := 0) h] at hk; exact hk) (fun h => by have hk := k ls hl; rw [sm_if_f (c := .ge) (x := x) (y := 0) h] at hk; exact hk)
      · exact lv_if_gt hx hb hd2 ht (fun h => by have hk := k ls hl; rw [sm_if_t (c := .gt) (x := x) (y := 0) h] at hk; exact hk) (fun h => by have hk := k ls hl; rw [sm_if_f (c := .gt) (x := x) (y := 0) h] at hk; exact hk)
      · exact lv_if_le hx hb hd2 ht (fun h => by have hk := k ls hl; rw [sm_if_t (c := .le) (x := x) (y := 0) h] at hk; exact hk) (fun h => by have hk := k ls hl; rw [sm_if_f (c := .le) (x := x) (y := 0) h] at hk; exact hk)
    · cases hg
  case if_icmp cnd o =>
    have hd2 := hd1 rfl
    have ht : (pc : Int) + o = (wa : Int) := by simpa [sm_jok] using hj
    unfold sm_p at hg
    dsimp only at hg
    split at hg
    · rename_i y x r
      cases hg
      cases cnd
      · exact lv_icmp_eq hx hb hd2 ht (fun h => by have hk := k ls hl; rw [sm_if_t (c := .eq) (x := x) (y := y) h] at hk; exact hk) (fun h => by have hk := k ls hl; rw [sm_if_f (c := .eq) (x := x) (y := y) h] at hk; exact hk)
      · exact lv_icmp_ne hx hb hd2 ht (fun h => by have hk := k ls hl; rw [sm_if_t (c := .ne) (x := x) (y := y) h] at hk; exact hk) (fun h => by have hk := k ls hl; rw [sm_if_f (c := .ne) (x := x) (y := y) (fun q => q h)] at hk; exact hk)
      · exact lv_icmp_lt hx hb hd2 ht (fun h => by have hk := k ls hl; rw [sm_if_t (c := .lt) (x := x) (y := y) h] at hk; exact hk) (fun h => by have hk := k ls hl; rw [sm_if_f (c := .lt) (x := x) (y := y) h] at hk; exact hk)
      · exact lv_icmp_ge hx hb hd2 ht (fun h => by have hk := k ls hl; rw [sm_if_t (c := .ge) (x := x) (y := y) h] at hk; exact hk) (fun h => by have hk := k ls hl; rw [sm_if_f (c := .ge) (x := x) (y := y) h] at hk; exact hk)
      · exact lv_icmp_gt hx hb hd2 ht (fun h => by have hk := k ls hl; rw [sm_if_t (c := .gt) (x := x) (y := y) h] at hk; exact hk) (fun h => by have hk := k ls hl; rw [sm_if_f (c := .gt) (x := x) (y := y) h] at hk; exact hk)
      · exact lv_icmp_le hx hb hd2 ht (fun h => by have hk := k ls hl; rw [sm_if_t (c := .le) (x := x) (y := y) h] at hk; exact hk) (fun h => by have hk := k ls hl; rw [sm_if_f (c := .le) (x := x) (y := y) h] at hk; exact hk)
    · cases hg
  case ifnull o =>
    have hd2 := hd1 rfl
    have ht : (pc : Int) + o = (wa : Int) := by simpa [sm_jok] using hj
    unfold sm_p at hg
    dsimp only at hg
    split at hg
    · cases hg
      exact lv_ifnull hx hb hd2 (k ls hl)
    · cases hg
      exact lv_ifnullN hx hb hd2 ht (k ls hl)
    · cases hg
  case ifnonnull o =>
    have hd2 := hd1 rfl
    have ht : (pc : Int) + o = (wa : Int) := by simpa [sm_jok] using hj
    unfold sm_p at hg
    dsimp only at hg
    split at hg
    · cases hg
      exact lv_ifnonnull hx hb hd2 ht (k ls hl)
    · cases hg
      exact lv_ifnonnullN hx hb hd2 (k ls hl)
    · cases hg
  case tableswitch dflt lo hi offs =>
    obtain ⟨len, hd2, -⟩ := hd
    unfold sm_p at hg
    dsimp only at hg
    split at hg
    · split at hg
      · rename_i hh
        obtain ⟨t, ht, rfl⟩ := Option.map_eq_some_iff.mp hg
        exact lv_tableOut hx hb hd2 hh (sm_tgt_inv ht) (k ls hl)
      · rename_i hh
        split at hg
        · rename_i off ho
          obtain ⟨t, ht, rfl⟩ := Option.map_eq_some_iff.mp hg
          exact lv_tableIn hx hb hd2 (fun q => hh (Or.inl q)) (fun q => hh (Or.inr q)) ho (sm_tgt_inv ht) (k ls hl)
        · cases hg
    · cases hg
  case lookupswitch dflt ps =>
    obtain ⟨len, hd2, -⟩ := hd
    unfold sm_p at hg
    dsimp only at hg
    split at hg
    · split at hg
      · rename_i hh
        obtain ⟨t, ht, rfl⟩ := Option.map_eq_some_iff.mp hg
        exact lv_lookup hx hb hd2 hh rfl (sm_tgt_inv ht) (k ls hl)
      · cases hg
    · cases hg
end SMP
