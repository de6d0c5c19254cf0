/-! each call of the law, on both machines -/
theorem tw_row {U : sU} (h : Inv U) (a1 : Int32) (a2 : Int32) (a3 : Int32) : ∃ (r : Int32) (U1 V : sU), Rn 10 sm_I113 [.ref 0, .int a1, .int a2, .int a3] U (some (.int r)) U1 ∧ Rn 10 sm_I181 [.ref 280, .int a1, .int a2, .int a3] U1 (some (.int r)) V ∧ Inv V := by
  obtain ⟨r, U1, V, hc, hg, hV⟩ := st_row h a1 a2 a3
  have hc := Option.some.inj hc
  have r1 := F_113 8 a1 a2 a3 U
  rw [hc] at r1
  exact ⟨r, U1, V, r1, F_181 9 a1 a2 a3 hg, hV⟩
theorem tw_set {U : sU} (h : Inv U) (a1 : Int32) (a2 : Int32) (a3 : Int64) : ∃ (r : Int32) (U1 V : sU), Rn 10 sm_I114 [.ref 0, .int a1, .int a2, .long a3] U (some (.int r)) U1 ∧ Rn 10 sm_I182 [.ref 280, .int a1, .int a2, .long a3] U1 (some (.int r)) V ∧ Inv V := by
  obtain ⟨r, U1, V, hc, hg, hV⟩ := st_set h a1 a2 a3
  have hc := Option.some.inj hc
  have r1 := F_114 8 a1 a2 a3 U
  rw [hc] at r1
  exact ⟨r, U1, V, r1, F_182 9 a1 a2 a3 hg, hV⟩
theorem tw_copy {U : sU} (h : Inv U) (a1 : Int32) (a2 : Int32) (a3 : Int32) (a4 : Int32) (a5 : Int32) : ∃ (r : Int32) (U1 V : sU), Rn 10 sm_I115 [.ref 0, .int a1, .int a2, .int a3, .int a4, .int a5] U (some (.int r)) U1 ∧ Rn 10 sm_I183 [.ref 280, .int a1, .int a2, .int a3, .int a4, .int a5] U1 (some (.int r)) V ∧ Inv V := by
  obtain ⟨r, U1, V, hc, hg, hV⟩ := st_copy h a1 a2 a3 a4 a5
  exact ⟨r, U1, V, F_115 8 a1 a2 a3 a4 a5 hc, F_183 9 a1 a2 a3 a4 a5 hg, hV⟩
theorem tw_element {U : sU} (h : Inv U) (a1 : Int32) (a2 : Int32) : ∃ (r : Int64) (U1 V : sU), Rn 10 sm_I116 [.ref 0, .int a1, .int a2] U (some (.long r)) U1 ∧ Rn 10 sm_I184 [.ref 280, .int a1, .int a2] U1 (some (.long r)) V ∧ Inv V := by
  obtain ⟨r, U1, V, hc, hg, hV⟩ := st_element h a1 a2
  have hc := Option.some.inj hc
  injection hc with h1 h2
  subst h1 h2
  have hg : (f_184 a1 a2 U).map (fun r => (r, U)) = some (f_116 a1 a2 U, V) := hg
  cases hq : f_184 a1 a2 U with
  | none => rw [hq] at hg; cases hg
  | some q =>
    rw [hq] at hg
    have hg := Option.some.inj hg
    injection hg with h3 h4
    subst h4
    rw [h3] at hq
    exact ⟨_, _, _, F_116 8 a1 a2 U, F_184 9 a1 a2 hq, hV⟩
theorem tw_show {U : sU} (h : Inv U) (a1 : Int32) (a2 : Int32) : ∃ (r : Int32) (U1 V : sU), Rn 10 sm_I117 [.ref 0, .int a1, .int a2] U (some (.int r)) U1 ∧ Rn 10 sm_I185 [.ref 280, .int a1, .int a2] U1 (some (.int r)) V ∧ Inv V := by
  obtain ⟨r, U1, V, hc, hg, hV⟩ := st_show h a1 a2
  have hc := Option.some.inj hc
  have r1 := F_117 8 a1 a2 U
  rw [hc] at r1
  exact ⟨r, U1, V, r1, F_185 9 a1 a2 hg, hV⟩
theorem tw_holds {U : sU} (h : Inv U) (a1 : Int32) : ∃ (r : Int32) (U1 V : sU), Rn 10 sm_I118 [.ref 0, .int a1] U (some (.int r)) U1 ∧ Rn 10 sm_I186 [.ref 280, .int a1] U1 (some (.int r)) V ∧ Inv V := by
  obtain ⟨r, U1, V, hc, hg, hV⟩ := st_holds h a1
  have hc := Option.some.inj hc
  injection hc with h1 h2
  subst h1 h2
  have hg : (f_186 a1 U).map (fun r => (r, U)) = some (f_118 a1 U, V) := hg
  cases hq : f_186 a1 U with
  | none => rw [hq] at hg; cases hg
  | some q =>
    rw [hq] at hg
    have hg := Option.some.inj hg
    injection hg with h3 h4
    subst h4
    rw [h3] at hq
    exact ⟨_, _, _, F_118 9 a1 U, F_186 9 a1 hq, hV⟩
theorem tw_saysS {U : sU} (h : Inv U) (a1 : Int32) (a2 : Int32) : ∃ (r : Int32) (U1 V : sU), Rn 10 sm_I119 [.ref 0, .int a1, .int a2] U (some (.int r)) U1 ∧ Rn 10 sm_I188 [.ref 280, .int a1, .int a2] U1 (some (.int r)) V ∧ Inv V := by
  obtain ⟨r, U1, V, hc, hg, hV⟩ := st_saysS h a1 a2
  exact ⟨r, U1, V, F_119 8 a1 a2 hc, F_188 8 a1 a2 hg, hV⟩
theorem tw_talk {U : sU} (h : Inv U) (a1 : Int32) : ∃ (r : Int32) (U1 V : sU), Rn 10 sm_I120 [.ref 0, .int a1] U (some (.int r)) U1 ∧ Rn 10 sm_I204 [.ref 280, .int a1] U1 (some (.int r)) V ∧ Inv V := by
  obtain ⟨r, U1, V, hc, hg, hV⟩ := st_talk h a1
  exact ⟨r, U1, V, F_120 1 a1 hc, F_204 2 a1 hg, hV⟩
theorem tw_fault {U : sU} (h : Inv U) : ∃ (r : Int32) (U1 V : sU), Rn 10 sm_I121 [.ref 0] U (some (.int r)) U1 ∧ Rn 10 sm_I205 [.ref 280] U1 (some (.int r)) V ∧ Inv V := by
  obtain ⟨r, U1, V, hc, hg, hV⟩ := st_fault h
  have hc := Option.some.inj hc
  injection hc with h1 h2
  subst h1 h2
  have hg : some (f_205 U, U) = some (f_121 U, V) := hg
  have hg := Option.some.inj hg
  injection hg with h3 h4
  subst h4
  have r2 := F_205 10 U
  rw [h3] at r2
  exact ⟨_, _, _, F_121 10 U, r2, hV⟩
theorem tw_talkOf {U : sU} (h : Inv U) (a1 : Int32) (a2 : Int32) : ∃ (r : Int32) (U1 V : sU), Rn 10 sm_I122 [.ref 0, .int a1, .int a2] U (some (.int r)) U1 ∧ Rn 10 sm_I206 [.ref 280, .int a1, .int a2] U1 (some (.int r)) V ∧ Inv V := by
  obtain ⟨r, U1, V, hc, hg, hV⟩ := st_talkOf h a1 a2
  have hc := Option.some.inj hc
  have r1 := F_122 7 a1 a2 U
  rw [hc] at r1
  exact ⟨r, U1, V, r1, F_206 9 a1 a2 hg, hV⟩
theorem tw_truth {U : sU} (h : Inv U) (a1 : Int32) (a2 : Int32) (a3 : Int32) : ∃ (r : Int32) (U1 V : sU), Rn 10 sm_I123 [.ref 0, .int a1, .int a2, .int a3] U (some (.int r)) U1 ∧ Rn 10 sm_I207 [.ref 280, .int a1, .int a2, .int a3] U1 (some (.int r)) V ∧ Inv V := by
  obtain ⟨r, U1, V, hc, hg, hV⟩ := st_truth h a1 a2 a3
  have hc := Option.some.inj hc
  have r1 := F_123 8 a1 a2 a3 U
  rw [hc] at r1
  exact ⟨r, U1, V, r1, F_207 8 a1 a2 a3 hg, hV⟩
theorem tw_done {U : sU} (h : Inv U) (a1 : Int32) (a2 : Int32) : ∃ (r : Int32) (U1 V : sU), Rn 10 sm_I124 [.ref 0, .int a1, .int a2] U (some (.int r)) U1 ∧ Rn 10 sm_I211 [.ref 280, .int a1, .int a2] U1 (some (.int r)) V ∧ Inv V := by
  obtain ⟨r, U1, V, hc, hg, hV⟩ := st_done h a1 a2
  exact ⟨r, U1, V, F_124 6 a1 a2 hc, F_211 8 a1 a2 hg, hV⟩
theorem tw_change {U : sU} (h : Inv U) (a1 : Int32) (a2 : Int32) (a3 : Int32) : ∃ (r : Int32) (U1 V : sU), Rn 10 sm_I125 [.ref 0, .int a1, .int a2, .int a3] U (some (.int r)) U1 ∧ Rn 10 sm_I212 [.ref 280, .int a1, .int a2, .int a3] U1 (some (.int r)) V ∧ Inv V := by
  obtain ⟨r, U1, V, hc, hg, hV⟩ := st_change h a1 a2 a3
  exact ⟨r, U1, V, F_125 7 a1 a2 a3 hc, F_212 9 a1 a2 a3 hg, hV⟩
theorem tw_chance {U : sU} (h : Inv U) (a1 : Int32) (a2 : Int32) (a3 : Int32) : ∃ (r : Int32) (U1 V : sU), Rn 10 sm_I126 [.ref 0, .int a1, .int a2, .int a3] U (some (.int r)) U1 ∧ Rn 10 sm_I213 [.ref 280, .int a1, .int a2, .int a3] U1 (some (.int r)) V ∧ Inv V := by
  obtain ⟨r, U1, V, hc, hg, hV⟩ := st_chance h a1 a2 a3
  have hc := Option.some.inj hc
  have r1 := F_126 8 a1 a2 a3 U
  rw [hc] at r1
  exact ⟨r, U1, V, r1, F_213 8 a1 a2 a3 hg, hV⟩
theorem tw_meaning {U : sU} (h : Inv U) (a1 : Int32) (a2 : Int32) (a3 : Int32) (a4 : Int32) : ∃ (r : Int32) (U1 V : sU), Rn 10 sm_I127 [.ref 0, .int a1, .int a2, .int a3, .int a4] U (some (.int r)) U1 ∧ Rn 10 sm_I215 [.ref 280, .int a1, .int a2, .int a3, .int a4] U1 (some (.int r)) V ∧ Inv V := by
  obtain ⟨r, U1, V, hc, hg, hV⟩ := st_meaning h a1 a2 a3 a4
  exact ⟨r, U1, V, F_127 6 a1 a2 a3 a4 hc, F_215 9 a1 a2 a3 a4 hg, hV⟩
theorem tw_tell {U : sU} (h : Inv U) (a1 : Int32) (a2 : Int32) (a3 : Int32) : ∃ (r : Int32) (U1 V : sU), Rn 10 sm_I128 [.ref 0, .int a1, .int a2, .int a3] U (some (.int r)) U1 ∧ Rn 10 sm_I216 [.ref 280, .int a1, .int a2, .int a3] U1 (some (.int r)) V ∧ Inv V := by
  obtain ⟨r, U1, V, hc, hg, hV⟩ := st_tell h a1 a2 a3
  have hc := Option.some.inj hc
  have r1 := F_128 8 a1 a2 a3 U
  rw [hc] at r1
  exact ⟨r, U1, V, r1, F_216 9 a1 a2 a3 hg, hV⟩
theorem tw_meaningOf {U : sU} (h : Inv U) (a1 : Int32) (a2 : Int32) : ∃ (r : Int32) (U1 V : sU), Rn 10 sm_I129 [.ref 0, .int a1, .int a2] U (some (.int r)) U1 ∧ Rn 10 sm_I220 [.ref 280, .int a1, .int a2] U1 (some (.int r)) V ∧ Inv V := by
  obtain ⟨r, U1, V, hc, hg, hV⟩ := st_meaningOf h a1 a2
  exact ⟨r, U1, V, F_129 8 a1 a2 hc, F_220 8 a1 a2 hg, hV⟩
theorem tw_word {U : sU} (h : Inv U) (a1 : Int32) (a2 : Int32) : ∃ (r : Int32) (U1 V : sU), Rn 10 sm_I130 [.ref 0, .int a1, .int a2] U (some (.int r)) U1 ∧ Rn 10 sm_I221 [.ref 280, .int a1, .int a2] U1 (some (.int r)) V ∧ Inv V := by
  obtain ⟨r, U1, V, hc, hg, hV⟩ := st_word h a1 a2
  exact ⟨r, U1, V, F_130 5 a1 a2 hc, F_221 8 a1 a2 hg, hV⟩
theorem tw_thought {U : sU} (h : Inv U) (a1 : Int32) (a2 : Int32) : ∃ (r : Int32) (U1 V : sU), Rn 10 sm_I131 [.ref 0, .int a1, .int a2] U (some (.int r)) U1 ∧ Rn 10 sm_I222 [.ref 280, .int a1, .int a2] U1 (some (.int r)) V ∧ Inv V := by
  obtain ⟨r, U1, V, hc, hg, hV⟩ := st_thought h a1 a2
  exact ⟨r, U1, V, F_131 5 a1 a2 hc, F_222 8 a1 a2 hg, hV⟩
theorem tw_does {U : sU} (h : Inv U) (a1 : Int32) (a2 : Int32) : ∃ (r : Int32) (U1 V : sU), Rn 10 sm_I132 [.ref 0, .int a1, .int a2] U (some (.int r)) U1 ∧ Rn 10 sm_I225 [.ref 280, .int a1, .int a2] U1 (some (.int r)) V ∧ Inv V := by
  obtain ⟨r, U1, V, hc, hg, hV⟩ := st_does h a1 a2
  exact ⟨r, U1, V, F_132 5 a1 a2 hc, F_225 6 a1 a2 hg, hV⟩
theorem tw_judge {U : sU} (h : Inv U) (a1 : Int32) : ∃ (r : Int32) (U1 V : sU), Rn 10 sm_I133 [.ref 0, .int a1] U (some (.int r)) U1 ∧ Rn 10 sm_I230 [.ref 280, .int a1] U1 (some (.int r)) V ∧ Inv V := by
  obtain ⟨r, U1, V, hc, hg, hV⟩ := st_judge h a1
  exact ⟨r, U1, V, F_133 5 a1 hc, F_230 4 a1 hg, hV⟩
theorem tw_regret {U : sU} (h : Inv U) (a1 : Int32) (a2 : Int32) (a3 : Int32) : ∃ (r : Int64) (U1 V : sU), Rn 10 sm_I134 [.ref 0, .int a1, .int a2, .int a3] U (some (.long r)) U1 ∧ Rn 10 sm_I231 [.ref 280, .int a1, .int a2, .int a3] U1 (some (.long r)) V ∧ Inv V := by
  obtain ⟨r, U1, V, hc, hg, hV⟩ := st_regret h a1 a2 a3
  exact ⟨r, U1, V, F_134 5 a1 a2 a3 hc, F_231 5 a1 a2 a3 hg, hV⟩
theorem tw_worth {U : sU} (h : Inv U) (a1 : Int32) (a2 : Int32) : ∃ (r : Int64) (U1 V : sU), Rn 10 sm_I135 [.ref 0, .int a1, .int a2] U (some (.long r)) U1 ∧ Rn 10 sm_I233 [.ref 280, .int a1, .int a2] U1 (some (.long r)) V ∧ Inv V := by
  obtain ⟨r, U1, V, hc, hg, hV⟩ := st_worth h a1 a2
  exact ⟨r, U1, V, F_135 5 a1 a2 hc, F_233 4 a1 a2 hg, hV⟩
theorem tw_beside {U : sU} (h : Inv U) (a1 : Int32) (a2 : Int32) : ∃ (r : Int64) (U1 V : sU), Rn 10 sm_I136 [.ref 0, .int a1, .int a2] U (some (.long r)) U1 ∧ Rn 10 sm_I242 [.ref 280, .int a1, .int a2] U1 (some (.long r)) V ∧ Inv V := by
  obtain ⟨r, U1, V, hc, hg, hV⟩ := st_beside h a1 a2
  exact ⟨r, U1, V, F_136 6 a1 a2 hc, F_242 7 a1 a2 hg, hV⟩
theorem tw_runs {U : sU} (h : Inv U) (a1 : Int32) : ∃ (r : Int32) (U1 V : sU), Rn 10 sm_I137 [.ref 0, .int a1] U (some (.int r)) U1 ∧ Rn 10 sm_I243 [.ref 280, .int a1] U1 (some (.int r)) V ∧ Inv V := by
  obtain ⟨r, U1, V, hc, hg, hV⟩ := st_runs h a1
  exact ⟨r, U1, V, F_137 4 a1 hc, F_243 6 a1 hg, hV⟩
theorem tw_finest {U : sU} (h : Inv U) (a1 : Int32) : ∃ (r : Int32) (U1 V : sU), Rn 10 sm_I138 [.ref 0, .int a1] U (some (.int r)) U1 ∧ Rn 10 sm_I245 [.ref 280, .int a1] U1 (some (.int r)) V ∧ Inv V := by
  obtain ⟨r, U1, V, hc, hg, hV⟩ := st_finest h a1
  exact ⟨r, U1, V, F_138 4 a1 hc, F_245 5 a1 hg, hV⟩
theorem tw_bound {U : sU} (h : Inv U) (a1 : Int32) : ∃ (r : Int32) (U1 V : sU), Rn 10 sm_I139 [.ref 0, .int a1] U (some (.int r)) U1 ∧ Rn 10 sm_I246 [.ref 280, .int a1] U1 (some (.int r)) V ∧ Inv V := by
  obtain ⟨r, U1, V, hc, hg, hV⟩ := st_bound h a1
  exact ⟨r, U1, V, F_139 3 a1 hc, F_246 5 a1 hg, hV⟩
theorem tw_best {U : sU} (h : Inv U) (a1 : Int32) (a2 : Int32) : ∃ (r : Int32) (U1 V : sU), Rn 10 sm_I140 [.ref 0, .int a1, .int a2] U (some (.int r)) U1 ∧ Rn 10 sm_I248 [.ref 280, .int a1, .int a2] U1 (some (.int r)) V ∧ Inv V := by
  obtain ⟨r, U1, V, hc, hg, hV⟩ := st_best h a1 a2
  exact ⟨r, U1, V, F_140 4 a1 a2 hc, F_248 5 a1 a2 hg, hV⟩
theorem tw_any {U : sU} (h : Inv U) (a1 : Int32) : ∃ (r : Int32) (U1 V : sU), Rn 10 sm_I141 [.ref 0, .int a1] U (some (.int r)) U1 ∧ Rn 10 sm_I249 [.ref 280, .int a1] U1 (some (.int r)) V ∧ Inv V := by
  obtain ⟨r, U1, V, hc, hg, hV⟩ := st_any h a1
  exact ⟨r, U1, V, F_141 5 a1 hc, F_249 7 a1 hg, hV⟩
theorem tw_edge {U : sU} (h : Inv U) (a1 : Int32) (a2 : Int32) : ∃ (r : Int32) (U1 V : sU), Rn 10 sm_I142 [.ref 0, .int a1, .int a2] U (some (.int r)) U1 ∧ Rn 10 sm_I250 [.ref 280, .int a1, .int a2] U1 (some (.int r)) V ∧ Inv V := by
  obtain ⟨r, U1, V, hc, hg, hV⟩ := st_edge h a1 a2
  exact ⟨r, U1, V, F_142 5 a1 a2 hc, F_250 7 a1 a2 hg, hV⟩
theorem tw_room {U : sU} (h : Inv U) (a1 : Int32) : ∃ (r : Int32) (U1 V : sU), Rn 10 sm_I143 [.ref 0, .int a1] U (some (.int r)) U1 ∧ Rn 10 sm_I251 [.ref 280, .int a1] U1 (some (.int r)) V ∧ Inv V := by
  obtain ⟨r, U1, V, hc, hg, hV⟩ := st_room h a1
  exact ⟨r, U1, V, F_143 4 a1 hc, F_251 5 a1 hg, hV⟩
theorem tw_doors {U : sU} (h : Inv U) (a1 : Int32) : ∃ (r : Int32) (U1 V : sU), Rn 10 sm_I144 [.ref 0, .int a1] U (some (.int r)) U1 ∧ Rn 10 sm_I252 [.ref 280, .int a1] U1 (some (.int r)) V ∧ Inv V := by
  obtain ⟨r, U1, V, hc, hg, hV⟩ := st_doors h a1
  exact ⟨r, U1, V, F_144 3 a1 hc, F_252 5 a1 hg, hV⟩
theorem tw_middle {U : sU} (h : Inv U) (a1 : Int32) (a2 : Int32) (a3 : Int32) : ∃ (r : Int32) (U1 V : sU), Rn 10 sm_I145 [.ref 0, .int a1, .int a2, .int a3] U (some (.int r)) U1 ∧ Rn 10 sm_I258 [.ref 280, .int a1, .int a2, .int a3] U1 (some (.int r)) V ∧ Inv V := by
  obtain ⟨r, U1, V, hc, hg, hV⟩ := st_middle h a1 a2 a3
  exact ⟨r, U1, V, F_145 4 a1 a2 a3 hc, F_258 7 a1 a2 a3 hg, hV⟩
theorem tw_ends {U : sU} (h : Inv U) (a1 : Int32) (a2 : Int32) (a3 : Int32) : ∃ (r : Int64) (U1 V : sU), Rn 10 sm_I146 [.ref 0, .int a1, .int a2, .int a3] U (some (.long r)) U1 ∧ Rn 10 sm_I260 [.ref 280, .int a1, .int a2, .int a3] U1 (some (.long r)) V ∧ Inv V := by
  obtain ⟨r, U1, V, hc, hg, hV⟩ := st_ends h a1 a2 a3
  exact ⟨r, U1, V, F_146 7 a1 a2 a3 hc, F_260 8 a1 a2 a3 hg, hV⟩
theorem tw_bestEnds {U : sU} (h : Inv U) (a1 : Int32) : ∃ (r : Int32) (U1 V : sU), Rn 10 sm_I147 [.ref 0, .int a1] U (some (.int r)) U1 ∧ Rn 10 sm_I264 [.ref 280, .int a1] U1 (some (.int r)) V ∧ Inv V := by
  obtain ⟨r, U1, V, hc, hg, hV⟩ := st_bestEnds h a1
  exact ⟨r, U1, V, F_147 7 a1 hc, F_264 7 a1 hg, hV⟩
theorem tw_leave {U : sU} (h : Inv U) (a1 : Int32) : ∃ (r : Int32) (U1 V : sU), Rn 10 sm_I148 [.ref 0, .int a1] U (some (.int r)) U1 ∧ Rn 10 sm_I265 [.ref 280, .int a1] U1 (some (.int r)) V ∧ Inv V := by
  obtain ⟨r, U1, V, hc, hg, hV⟩ := st_leave h a1
  exact ⟨r, U1, V, F_148 4 a1 hc, F_265 5 a1 hg, hV⟩
theorem tw_agree {U : sU} (h : Inv U) (a1 : Int32) (a2 : Int32) : ∃ (r : Int32) (U1 V : sU), Rn 10 sm_I149 [.ref 0, .int a1, .int a2] U (some (.int r)) U1 ∧ Rn 10 sm_I267 [.ref 280, .int a1, .int a2] U1 (some (.int r)) V ∧ Inv V := by
  obtain ⟨r, U1, V, hc, hg, hV⟩ := st_agree h a1 a2
  exact ⟨r, U1, V, F_149 7 a1 a2 hc, F_267 8 a1 a2 hg, hV⟩
theorem tw_still {U : sU} (h : Inv U) : ∃ (r : Int32) (U1 V : sU), Rn 10 sm_I150 [.ref 0] U (some (.int r)) U1 ∧ Rn 10 sm_I268 [.ref 280] U1 (some (.int r)) V ∧ Inv V := by
  obtain ⟨r, U1, V, hc, hg, hV⟩ := st_still h
  exact ⟨r, U1, V, F_150 4 hc, F_268 4 hg, hV⟩
theorem tw_draw {U : sU} (h : Inv U) (a1 : Int32) (a2 : Int32) (a3 : Int32) : ∃ (r : Int64) (U1 V : sU), Rn 10 sm_I151 [.ref 0, .int a1, .int a2, .int a3] U (some (.long r)) U1 ∧ Rn 10 sm_I270 [.ref 280, .int a1, .int a2, .int a3] U1 (some (.long r)) V ∧ Inv V := by
  obtain ⟨r, U1, V, hc, hg, hV⟩ := st_draw h a1 a2 a3
  exact ⟨r, U1, V, F_151 5 a1 a2 a3 hc, F_270 5 a1 a2 a3 hg, hV⟩
theorem tw_act {U : sU} (h : Inv U) (a1 : Int32) (a2 : Int32) (a3 : Int32) : ∃ (r : Int32) (U1 V : sU), Rn 10 sm_I152 [.ref 0, .int a1, .int a2, .int a3] U (some (.int r)) U1 ∧ Rn 10 sm_I275 [.ref 280, .int a1, .int a2, .int a3] U1 (some (.int r)) V ∧ Inv V := by
  obtain ⟨r, U1, V, hc, hg, hV⟩ := st_act h a1 a2 a3
  have hc := Option.some.inj hc
  have r1 := F_152 5 a1 a2 a3 U
  rw [hc] at r1
  exact ⟨r, U1, V, r1, F_275 6 a1 a2 a3 hg, hV⟩
theorem tw_trace {U : sU} (h : Inv U) (a1 : Int32) : ∃ (r : Int32) (U1 V : sU), Rn 10 sm_I153 [.ref 0, .int a1] U (some (.int r)) U1 ∧ Rn 10 sm_I276 [.ref 280, .int a1] U1 (some (.int r)) V ∧ Inv V := by
  obtain ⟨r, U1, V, hc, hg, hV⟩ := st_trace h a1
  have hc := Option.some.inj hc
  injection hc with h1 h2
  subst h1 h2
  have hg : (f_276 a1 U).map (fun r => (r, U)) = some (f_153 a1 U, V) := hg
  cases hq : f_276 a1 U with
  | none => rw [hq] at hg; cases hg
  | some q =>
    rw [hq] at hg
    have hg := Option.some.inj hg
    injection hg with h3 h4
    subst h4
    rw [h3] at hq
    exact ⟨_, _, _, F_153 8 a1 U, F_276 10 a1 hq, hV⟩
theorem tw_image {U : sU} (h : Inv U) : ∃ (r : Int32) (U1 V : sU), Rn 10 sm_I154 [.ref 0] U (some (.int r)) U1 ∧ Rn 10 sm_I279 [.ref 280] U1 (some (.int r)) V ∧ Inv V := by
  obtain ⟨r, U1, V, hc, hg, hV⟩ := st_image h
  exact ⟨r, U1, V, F_154 6 hc, F_279 8 hg, hV⟩
theorem tw_restore {U : sU} (h : Inv U) : ∃ (r : Int32) (U1 V : sU), Rn 10 sm_I155 [.ref 0] U (some (.int r)) U1 ∧ Rn 10 sm_I280 [.ref 280] U1 (some (.int r)) V ∧ Inv V := by
  obtain ⟨r, U1, V, hc, hg, hV⟩ := st_restore h
  exact ⟨r, U1, V, F_155 6 hc, F_280 8 hg, hV⟩
theorem tw_status {U : sU} (h : Inv U) (a1 : Int32) : ∃ (r : Int32) (U1 V : sU), Rn 10 sm_I156 [.ref 0, .int a1] U (some (.int r)) U1 ∧ Rn 10 sm_I281 [.ref 280, .int a1] U1 (some (.int r)) V ∧ Inv V := by
  obtain ⟨r, U1, V, hc, hg, hV⟩ := st_status h a1
  exact ⟨r, U1, V, F_156 4 a1 hc, F_281 3 a1 hg, hV⟩
