/-! decoding by the bytes: one comparison an instruction -/
def sm_fb (i : ClassFile.Instr) (r : List UInt8) : Bool := match i with
  | .aconst_null => match r with
    | b0 :: _ => b0.toNat == 1
    | _ => false
  | .iaload => match r with
    | b0 :: _ => b0.toNat == 46
    | _ => false
  | .laload => match r with
    | b0 :: _ => b0.toNat == 47
    | _ => false
  | .aaload => match r with
    | b0 :: _ => b0.toNat == 50
    | _ => false
  | .iastore => match r with
    | b0 :: _ => b0.toNat == 79
    | _ => false
  | .lastore => match r with
    | b0 :: _ => b0.toNat == 80
    | _ => false
  | .aastore => match r with
    | b0 :: _ => b0.toNat == 83
    | _ => false
  | .pop => match r with
    | b0 :: _ => b0.toNat == 87
    | _ => false
  | .dup => match r with
    | b0 :: _ => b0.toNat == 89
    | _ => false
  | .dup_x1 => match r with
    | b0 :: _ => b0.toNat == 90
    | _ => false
  | .dup2 => match r with
    | b0 :: _ => b0.toNat == 92
    | _ => false
  | .iadd => match r with
    | b0 :: _ => b0.toNat == 96
    | _ => false
  | .ladd => match r with
    | b0 :: _ => b0.toNat == 97
    | _ => false
  | .isub => match r with
    | b0 :: _ => b0.toNat == 100
    | _ => false
  | .lsub => match r with
    | b0 :: _ => b0.toNat == 101
    | _ => false
  | .imul => match r with
    | b0 :: _ => b0.toNat == 104
    | _ => false
  | .lmul => match r with
    | b0 :: _ => b0.toNat == 105
    | _ => false
  | .idiv => match r with
    | b0 :: _ => b0.toNat == 108
    | _ => false
  | .ldiv => match r with
    | b0 :: _ => b0.toNat == 109
    | _ => false
  | .irem => match r with
    | b0 :: _ => b0.toNat == 112
    | _ => false
  | .ineg => match r with
    | b0 :: _ => b0.toNat == 116
    | _ => false
  | .lneg => match r with
    | b0 :: _ => b0.toNat == 117
    | _ => false
  | .ishl => match r with
    | b0 :: _ => b0.toNat == 120
    | _ => false
  | .lshl => match r with
    | b0 :: _ => b0.toNat == 121
    | _ => false
  | .ishr => match r with
    | b0 :: _ => b0.toNat == 122
    | _ => false
  | .iushr => match r with
    | b0 :: _ => b0.toNat == 124
    | _ => false
  | .iand => match r with
    | b0 :: _ => b0.toNat == 126
    | _ => false
  | .land => match r with
    | b0 :: _ => b0.toNat == 127
    | _ => false
  | .ior => match r with
    | b0 :: _ => b0.toNat == 128
    | _ => false
  | .lor => match r with
    | b0 :: _ => b0.toNat == 129
    | _ => false
  | .ixor => match r with
    | b0 :: _ => b0.toNat == 130
    | _ => false
  | .lxor => match r with
    | b0 :: _ => b0.toNat == 131
    | _ => false
  | .i2l => match r with
    | b0 :: _ => b0.toNat == 133
    | _ => false
  | .l2i => match r with
    | b0 :: _ => b0.toNat == 136
    | _ => false
  | .i2b => match r with
    | b0 :: _ => b0.toNat == 145
    | _ => false
  | .i2s => match r with
    | b0 :: _ => b0.toNat == 147
    | _ => false
  | .lcmp => match r with
    | b0 :: _ => b0.toNat == 148
    | _ => false
  | .ireturn => match r with
    | b0 :: _ => b0.toNat == 172
    | _ => false
  | .lreturn => match r with
    | b0 :: _ => b0.toNat == 173
    | _ => false
  | .areturn => match r with
    | b0 :: _ => b0.toNat == 176
    | _ => false
  | .return_ => match r with
    | b0 :: _ => b0.toNat == 177
    | _ => false
  | .arraylength => match r with
    | b0 :: _ => b0.toNat == 190
    | _ => false
  | .iload_n k => match r with
    | b0 :: _ => b0.toNat == 26 + k.val
    | _ => false
  | .lload_n k => match r with
    | b0 :: _ => b0.toNat == 30 + k.val
    | _ => false
  | .aload_n k => match r with
    | b0 :: _ => b0.toNat == 42 + k.val
    | _ => false
  | .istore_n k => match r with
    | b0 :: _ => b0.toNat == 59 + k.val
    | _ => false
  | .lstore_n k => match r with
    | b0 :: _ => b0.toNat == 63 + k.val
    | _ => false
  | .astore_n k => match r with
    | b0 :: _ => b0.toNat == 75 + k.val
    | _ => false
  | .iload i => match r with
    | b0 :: b1 :: _ => b0.toNat == 21 && i == b1.toNat
    | _ => false
  | .lload i => match r with
    | b0 :: b1 :: _ => b0.toNat == 22 && i == b1.toNat
    | _ => false
  | .aload i => match r with
    | b0 :: b1 :: _ => b0.toNat == 25 && i == b1.toNat
    | _ => false
  | .istore i => match r with
    | b0 :: b1 :: _ => b0.toNat == 54 && i == b1.toNat
    | _ => false
  | .lstore i => match r with
    | b0 :: b1 :: _ => b0.toNat == 55 && i == b1.toNat
    | _ => false
  | .astore i => match r with
    | b0 :: b1 :: _ => b0.toNat == 58 && i == b1.toNat
    | _ => false
  | .ldc i => match r with
    | b0 :: b1 :: _ => b0.toNat == 18 && i == b1.toNat
    | _ => false
  | .ldc_w i => match r with
    | b0 :: b1 :: b2 :: _ => b0.toNat == 19 && i == b1.toNat * 256 + b2.toNat
    | _ => false
  | .ldc2_w i => match r with
    | b0 :: b1 :: b2 :: _ => b0.toNat == 20 && i == b1.toNat * 256 + b2.toNat
    | _ => false
  | .getfield i => match r with
    | b0 :: b1 :: b2 :: _ => b0.toNat == 180 && i == b1.toNat * 256 + b2.toNat
    | _ => false
  | .putfield i => match r with
    | b0 :: b1 :: b2 :: _ => b0.toNat == 181 && i == b1.toNat * 256 + b2.toNat
    | _ => false
  | .invokevirtual i => match r with
    | b0 :: b1 :: b2 :: _ => b0.toNat == 182 && i == b1.toNat * 256 + b2.toNat
    | _ => false
  | .invokespecial i => match r with
    | b0 :: b1 :: b2 :: _ => b0.toNat == 183 && i == b1.toNat * 256 + b2.toNat
    | _ => false
  | .invokestatic i => match r with
    | b0 :: b1 :: b2 :: _ => b0.toNat == 184 && i == b1.toNat * 256 + b2.toNat
    | _ => false
  | .new i => match r with
    | b0 :: b1 :: b2 :: _ => b0.toNat == 187 && i == b1.toNat * 256 + b2.toNat
    | _ => false
  | .anewarray i => match r with
    | b0 :: b1 :: b2 :: _ => b0.toNat == 189 && i == b1.toNat * 256 + b2.toNat
    | _ => false
  | .goto i => match r with
    | b0 :: b1 :: b2 :: _ => b0.toNat == 167 && decide (i = Reader.signed 16 (b1.toNat * 256 + b2.toNat))
    | _ => false
  | .ifnull i => match r with
    | b0 :: b1 :: b2 :: _ => b0.toNat == 198 && decide (i = Reader.signed 16 (b1.toNat * 256 + b2.toNat))
    | _ => false
  | .ifnonnull i => match r with
    | b0 :: b1 :: b2 :: _ => b0.toNat == 199 && decide (i = Reader.signed 16 (b1.toNat * 256 + b2.toNat))
    | _ => false
  | .sipush i => match r with
    | b0 :: b1 :: b2 :: _ => b0.toNat == 17 && decide (i = Reader.signed 16 (b1.toNat * 256 + b2.toNat))
    | _ => false
  | .ifCond .eq i => match r with
    | b0 :: b1 :: b2 :: _ => b0.toNat == 153 && decide (i = Reader.signed 16 (b1.toNat * 256 + b2.toNat))
    | _ => false
  | .ifCond .ne i => match r with
    | b0 :: b1 :: b2 :: _ => b0.toNat == 154 && decide (i = Reader.signed 16 (b1.toNat * 256 + b2.toNat))
    | _ => false
  | .ifCond .lt i => match r with
    | b0 :: b1 :: b2 :: _ => b0.toNat == 155 && decide (i = Reader.signed 16 (b1.toNat * 256 + b2.toNat))
    | _ => false
  | .ifCond .ge i => match r with
    | b0 :: b1 :: b2 :: _ => b0.toNat == 156 && decide (i = Reader.signed 16 (b1.toNat * 256 + b2.toNat))
    | _ => false
  | .ifCond .gt i => match r with
    | b0 :: b1 :: b2 :: _ => b0.toNat == 157 && decide (i = Reader.signed 16 (b1.toNat * 256 + b2.toNat))
    | _ => false
  | .ifCond .le i => match r with
    | b0 :: b1 :: b2 :: _ => b0.toNat == 158 && decide (i = Reader.signed 16 (b1.toNat * 256 + b2.toNat))
    | _ => false
  | .if_icmp .eq i => match r with
    | b0 :: b1 :: b2 :: _ => b0.toNat == 159 && decide (i = Reader.signed 16 (b1.toNat * 256 + b2.toNat))
    | _ => false
  | .if_icmp .ne i => match r with
    | b0 :: b1 :: b2 :: _ => b0.toNat == 160 && decide (i = Reader.signed 16 (b1.toNat * 256 + b2.toNat))
    | _ => false
  | .if_icmp .lt i => match r with
    | b0 :: b1 :: b2 :: _ => b0.toNat == 161 && decide (i = Reader.signed 16 (b1.toNat * 256 + b2.toNat))
    | _ => false
  | .if_icmp .ge i => match r with
    | b0 :: b1 :: b2 :: _ => b0.toNat == 162 && decide (i = Reader.signed 16 (b1.toNat * 256 + b2.toNat))
    | _ => false
  | .if_icmp .gt i => match r with
    | b0 :: b1 :: b2 :: _ => b0.toNat == 163 && decide (i = Reader.signed 16 (b1.toNat * 256 + b2.toNat))
    | _ => false
  | .if_icmp .le i => match r with
    | b0 :: b1 :: b2 :: _ => b0.toNat == 164 && decide (i = Reader.signed 16 (b1.toNat * 256 + b2.toNat))
    | _ => false
  | .iconst n => match r with
    | b0 :: _ => decide (2 ≤ b0.toNat) && decide (b0.toNat ≤ 8) && decide (n = (b0.toNat : Int) - 3)
    | _ => false
  | .lconst n => match r with
    | b0 :: _ => b0.toNat == 9 + n.val
    | _ => false
  | .bipush n => match r with
    | b0 :: b1 :: _ => b0.toNat == 16 && decide (n = Reader.signed 8 b1.toNat)
    | _ => false
  | .iinc i n => match r with
    | b0 :: b1 :: b2 :: _ => b0.toNat == 132 && i == b1.toNat && decide (n = Reader.signed 8 b2.toNat)
    | _ => false
  | .newarray .int => match r with
    | b0 :: b1 :: _ => b0.toNat == 188 && b1.toNat == 10
    | _ => false
  | .newarray .long => match r with
    | b0 :: b1 :: _ => b0.toNat == 188 && b1.toNat == 11
    | _ => false
  | _ => false
theorem sm_u1 {cc : ByteArray} {p : Nat} {b : UInt8} (h : cc.data.toList[p]? = some b) : (Reader.u1 : Reader DecodeError Nat) cc p = .ok (b.toNat, p + 1) := by
  obtain ⟨hp, hb⟩ := List.getElem?_eq_some_iff.mp h
  have hp' : p < cc.size := hp
  have hb' : cc[p]'hp' = b := by rw [← hb]; rfl
  have e : (Reader.u1 : Reader DecodeError Nat) cc p = (if h : p < cc.size then (do set (p + 1); Pure.pure (cc[p]'h).toNat : Reader DecodeError Nat) else throw (HasTruncated.truncated p)) cc p := rfl
  rw [e, dif_pos hp']
  show Except.ok ((cc[p]'hp').toNat, p + 1) = _
  rw [hb']
theorem sm_u2 {cc : ByteArray} {p : Nat} {b b' : UInt8} (h : cc.data.toList[p]? = some b) (h' : cc.data.toList[p + 1]? = some b') : (Reader.u2 : Reader DecodeError Nat) cc p = .ok (b.toNat * 256 + b'.toNat, p + 2) := by
  have e : (Reader.u2 : Reader DecodeError Nat) cc p = Except.bind ((Reader.u1 : Reader DecodeError Nat) cc p) (fun q => Except.bind ((Reader.u1 : Reader DecodeError Nat) cc q.2) (fun q' => .ok (q.1 * 256 + q'.1, q'.2))) := rfl
  rw [e, sm_u1 h]
  show Except.bind ((Reader.u1 : Reader DecodeError Nat) cc (p + 1)) _ = _
  rw [sm_u1 h']
  rfl
theorem sm_s2 {cc : ByteArray} {p : Nat} {b b' : UInt8} (h : cc.data.toList[p]? = some b) (h' : cc.data.toList[p + 1]? = some b') : (Reader.s2 : Reader DecodeError Int) cc p = .ok (Reader.signed 16 (b.toNat * 256 + b'.toNat), p + 2) := by
  have e : (Reader.s2 : Reader DecodeError Int) cc p = Except.bind ((Reader.u2 : Reader DecodeError Nat) cc p) (fun q => .ok (Reader.signed 16 q.1, q.2)) := rfl
  rw [e, sm_u2 h h']
  rfl
theorem sm_s1 {cc : ByteArray} {p : Nat} {b : UInt8} (h : cc.data.toList[p]? = some b) : (Reader.s1 : Reader DecodeError Int) cc p = .ok (Reader.signed 8 b.toNat, p + 1) := by
  have e : (Reader.s1 : Reader DecodeError Int) cc p = Except.bind ((Reader.u1 : Reader DecodeError Nat) cc p) (fun q => .ok (Reader.signed 8 q.1, q.2)) := rfl
  rw [e, sm_u1 h]
  rfl
theorem sm_dcd {cc : ByteArray} {pc n : Nat} {i : ClassFile.Instr} (k : Decoder.instr pc cc pc = .ok (i, pc + n)) : decode cc pc = .ok (i, n) := by
  have e : decode cc pc = Except.bind (Decoder.instr pc cc pc) (fun q => .ok (q.1, q.2 - pc)) := rfl
  rw [e, k]
  show Except.ok (i, pc + n - pc) = _
  rw [Nat.add_sub_cancel_left]
set_option maxHeartbeats 4000000 in
theorem sm_fb_ok {cc : ByteArray} {pc : Nat} {i : ClassFile.Instr} {r : List UInt8} (hr : ∀ k b, r[k]? = some b → cc.data.toList[pc + k]? = some b) (h : sm_fb i r = true) : decode cc pc = .ok (i, sm_len i) := by
  cases i <;> first | (cases h; done) | skip
  case aconst_null =>
    unfold sm_fb at h
    dsimp only at h
    split at h <;> first | (cases h; done) | skip
    rename_i b0 r
    have g0 : cc.data.toList[pc]? = some b0 := hr 0 b0 rfl
    have hb : b0.toNat = 1 := eq_of_beq h
    refine sm_dcd ?_
    show Except.bind ((Reader.u1 : Reader DecodeError Nat) cc pc) _ = _
    rw [sm_u1 g0, hb]
    rfl
  case iaload =>
    unfold sm_fb at h
    dsimp only at h
    split at h <;> first | (cases h; done) | skip
    rename_i b0 r
    have g0 : cc.data.toList[pc]? = some b0 := hr 0 b0 rfl
    have hb : b0.toNat = 46 := eq_of_beq h
    refine sm_dcd ?_
    show Except.bind ((Reader.u1 : Reader DecodeError Nat) cc pc) _ = _
    rw [sm_u1 g0, hb]
    rfl
  case laload =>
    unfold sm_fb at h
    dsimp only at h
    split at h <;> first | (cases h; done) | skip
    rename_i b0 r
    have g0 : cc.data.toList[pc]? = some b0 := hr 0 b0 rfl
    have hb : b0.toNat = 47 := eq_of_beq h
    refine sm_dcd ?_
    show Except.bind ((Reader.u1 : Reader DecodeError Nat) cc pc) _ = _
    rw [sm_u1 g0, hb]
    rfl
  case aaload =>
    unfold sm_fb at h
    dsimp only at h
    split at h <;> first | (cases h; done) | skip
    rename_i b0 r
    have g0 : cc.data.toList[pc]? = some b0 := hr 0 b0 rfl
    have hb : b0.toNat = 50 := eq_of_beq h
    refine sm_dcd ?_
    show Except.bind ((Reader.u1 : Reader DecodeError Nat) cc pc) _ = _
    rw [sm_u1 g0, hb]
    rfl
  case iastore =>
    unfold sm_fb at h
    dsimp only at h
    split at h <;> first | (cases h; done) | skip
    rename_i b0 r
    have g0 : cc.data.toList[pc]? = some b0 := hr 0 b0 rfl
    have hb : b0.toNat = 79 := eq_of_beq h
    refine sm_dcd ?_
    show Except.bind ((Reader.u1 : Reader DecodeError Nat) cc pc) _ = _
    rw [sm_u1 g0, hb]
    rfl
  case lastore =>
    unfold sm_fb at h
    dsimp only at h
    split at h <;> first | (cases h; done) | skip
    rename_i b0 r
    have g0 : cc.data.toList[pc]? = some b0 := hr 0 b0 rfl
    have hb : b0.toNat = 80 := eq_of_beq h
    refine sm_dcd ?_
    show Except.bind ((Reader.u1 : Reader DecodeError Nat) cc pc) _ = _
    rw [sm_u1 g0, hb]
    rfl
  case aastore =>
    unfold sm_fb at h
    dsimp only at h
    split at h <;> first | (cases h; done) | skip
    rename_i b0 r
    have g0 : cc.data.toList[pc]? = some b0 := hr 0 b0 rfl
    have hb : b0.toNat = 83 := eq_of_beq h
    refine sm_dcd ?_
    show Except.bind ((Reader.u1 : Reader DecodeError Nat) cc pc) _ = _
    rw [sm_u1 g0, hb]
    rfl
  case pop =>
    unfold sm_fb at h
    dsimp only at h
    split at h <;> first | (cases h; done) | skip
    rename_i b0 r
    have g0 : cc.data.toList[pc]? = some b0 := hr 0 b0 rfl
    have hb : b0.toNat = 87 := eq_of_beq h
    refine sm_dcd ?_
    show Except.bind ((Reader.u1 : Reader DecodeError Nat) cc pc) _ = _
    rw [sm_u1 g0, hb]
    rfl
  case dup =>
    unfold sm_fb at h
    dsimp only at h
    split at h <;> first | (cases h; done) | skip
    rename_i b0 r
    have g0 : cc.data.toList[pc]? = some b0 := hr 0 b0 rfl
    have hb : b0.toNat = 89 := eq_of_beq h
    refine sm_dcd ?_
    show Except.bind ((Reader.u1 : Reader DecodeError Nat) cc pc) _ = _
    rw [sm_u1 g0, hb]
    rfl
  case dup_x1 =>
    unfold sm_fb at h
    dsimp only at h
    split at h <;> first | (cases h; done) | skip
    rename_i b0 r
    have g0 : cc.data.toList[pc]? = some b0 := hr 0 b0 rfl
    have hb : b0.toNat = 90 := eq_of_beq h
    refine sm_dcd ?_
    show Except.bind ((Reader.u1 : Reader DecodeError Nat) cc pc) _ = _
    rw [sm_u1 g0, hb]
    rfl
  case dup2 =>
    unfold sm_fb at h
    dsimp only at h
    split at h <;> first | (cases h; done) | skip
    rename_i b0 r
    have g0 : cc.data.toList[pc]? = some b0 := hr 0 b0 rfl
    have hb : b0.toNat = 92 := eq_of_beq h
    refine sm_dcd ?_
    show Except.bind ((Reader.u1 : Reader DecodeError Nat) cc pc) _ = _
    rw [sm_u1 g0, hb]
    rfl
  case iadd =>
    unfold sm_fb at h
    dsimp only at h
    split at h <;> first | (cases h; done) | skip
    rename_i b0 r
    have g0 : cc.data.toList[pc]? = some b0 := hr 0 b0 rfl
    have hb : b0.toNat = 96 := eq_of_beq h
    refine sm_dcd ?_
    show Except.bind ((Reader.u1 : Reader DecodeError Nat) cc pc) _ = _
    rw [sm_u1 g0, hb]
    rfl
  case ladd =>
    unfold sm_fb at h
    dsimp only at h
    split at h <;> first | (cases h; done) | skip
    rename_i b0 r
    have g0 : cc.data.toList[pc]? = some b0 := hr 0 b0 rfl
    have hb : b0.toNat = 97 := eq_of_beq h
    refine sm_dcd ?_
    show Except.bind ((Reader.u1 : Reader DecodeError Nat) cc pc) _ = _
    rw [sm_u1 g0, hb]
    rfl
  case isub =>
    unfold sm_fb at h
    dsimp only at h
    split at h <;> first | (cases h; done) | skip
    rename_i b0 r
    have g0 : cc.data.toList[pc]? = some b0 := hr 0 b0 rfl
    have hb : b0.toNat = 100 := eq_of_beq h
    refine sm_dcd ?_
    show Except.bind ((Reader.u1 : Reader DecodeError Nat) cc pc) _ = _
    rw [sm_u1 g0, hb]
    rfl
  case lsub =>
    unfold sm_fb at h
    dsimp only at h
    split at h <;> first | (cases h; done) | skip
    rename_i b0 r
    have g0 : cc.data.toList[pc]? = some b0 := hr 0 b0 rfl
    have hb : b0.toNat = 101 := eq_of_beq h
    refine sm_dcd ?_
    show Except.bind ((Reader.u1 : Reader DecodeError Nat) cc pc) _ = _
    rw [sm_u1 g0, hb]
    rfl
  case imul =>
    unfold sm_fb at h
    dsimp only at h
    split at h <;> first | (cases h; done) | skip
    rename_i b0 r
    have g0 : cc.data.toList[pc]? = some b0 := hr 0 b0 rfl
    have hb : b0.toNat = 104 := eq_of_beq h
    refine sm_dcd ?_
    show Except.bind ((Reader.u1 : Reader DecodeError Nat) cc pc) _ = _
    rw [sm_u1 g0, hb]
    rfl
  case lmul =>
    unfold sm_fb at h
    dsimp only at h
    split at h <;> first | (cases h; done) | skip
    rename_i b0 r
    have g0 : cc.data.toList[pc]? = some b0 := hr 0 b0 rfl
    have hb : b0.toNat = 105 := eq_of_beq h
    refine sm_dcd ?_
    show Except.bind ((Reader.u1 : Reader DecodeError Nat) cc pc) _ = _
    rw [sm_u1 g0, hb]
    rfl
  case idiv =>
    unfold sm_fb at h
    dsimp only at h
    split at h <;> first | (cases h; done) | skip
    rename_i b0 r
    have g0 : cc.data.toList[pc]? = some b0 := hr 0 b0 rfl
    have hb : b0.toNat = 108 := eq_of_beq h
    refine sm_dcd ?_
    show Except.bind ((Reader.u1 : Reader DecodeError Nat) cc pc) _ = _
    rw [sm_u1 g0, hb]
    rfl
  case ldiv =>
    unfold sm_fb at h
    dsimp only at h
    split at h <;> first | (cases h; done) | skip
    rename_i b0 r
    have g0 : cc.data.toList[pc]? = some b0 := hr 0 b0 rfl
    have hb : b0.toNat = 109 := eq_of_beq h
    refine sm_dcd ?_
    show Except.bind ((Reader.u1 : Reader DecodeError Nat) cc pc) _ = _
    rw [sm_u1 g0, hb]
    rfl
  case irem =>
    unfold sm_fb at h
    dsimp only at h
    split at h <;> first | (cases h; done) | skip
    rename_i b0 r
    have g0 : cc.data.toList[pc]? = some b0 := hr 0 b0 rfl
    have hb : b0.toNat = 112 := eq_of_beq h
    refine sm_dcd ?_
    show Except.bind ((Reader.u1 : Reader DecodeError Nat) cc pc) _ = _
    rw [sm_u1 g0, hb]
    rfl
  case ineg =>
    unfold sm_fb at h
    dsimp only at h
    split at h <;> first | (cases h; done) | skip
    rename_i b0 r
    have g0 : cc.data.toList[pc]? = some b0 := hr 0 b0 rfl
    have hb : b0.toNat = 116 := eq_of_beq h
    refine sm_dcd ?_
    show Except.bind ((Reader.u1 : Reader DecodeError Nat) cc pc) _ = _
    rw [sm_u1 g0, hb]
    rfl
  case lneg =>
    unfold sm_fb at h
    dsimp only at h
    split at h <;> first | (cases h; done) | skip
    rename_i b0 r
    have g0 : cc.data.toList[pc]? = some b0 := hr 0 b0 rfl
    have hb : b0.toNat = 117 := eq_of_beq h
    refine sm_dcd ?_
    show Except.bind ((Reader.u1 : Reader DecodeError Nat) cc pc) _ = _
    rw [sm_u1 g0, hb]
    rfl
  case ishl =>
    unfold sm_fb at h
    dsimp only at h
    split at h <;> first | (cases h; done) | skip
    rename_i b0 r
    have g0 : cc.data.toList[pc]? = some b0 := hr 0 b0 rfl
    have hb : b0.toNat = 120 := eq_of_beq h
    refine sm_dcd ?_
    show Except.bind ((Reader.u1 : Reader DecodeError Nat) cc pc) _ = _
    rw [sm_u1 g0, hb]
    rfl
  case lshl =>
    unfold sm_fb at h
    dsimp only at h
    split at h <;> first | (cases h; done) | skip
    rename_i b0 r
    have g0 : cc.data.toList[pc]? = some b0 := hr 0 b0 rfl
    have hb : b0.toNat = 121 := eq_of_beq h
    refine sm_dcd ?_
    show Except.bind ((Reader.u1 : Reader DecodeError Nat) cc pc) _ = _
    rw [sm_u1 g0, hb]
    rfl
  case ishr =>
    unfold sm_fb at h
    dsimp only at h
    split at h <;> first | (cases h; done) | skip
    rename_i b0 r
    have g0 : cc.data.toList[pc]? = some b0 := hr 0 b0 rfl
    have hb : b0.toNat = 122 := eq_of_beq h
    refine sm_dcd ?_
    show Except.bind ((Reader.u1 : Reader DecodeError Nat) cc pc) _ = _
    rw [sm_u1 g0, hb]
    rfl
  case iushr =>
    unfold sm_fb at h
    dsimp only at h
    split at h <;> first | (cases h; done) | skip
    rename_i b0 r
    have g0 : cc.data.toList[pc]? = some b0 := hr 0 b0 rfl
    have hb : b0.toNat = 124 := eq_of_beq h
    refine sm_dcd ?_
    show Except.bind ((Reader.u1 : Reader DecodeError Nat) cc pc) _ = _
    rw [sm_u1 g0, hb]
    rfl
  case iand =>
    unfold sm_fb at h
    dsimp only at h
    split at h <;> first | (cases h; done) | skip
    rename_i b0 r
    have g0 : cc.data.toList[pc]? = some b0 := hr 0 b0 rfl
    have hb : b0.toNat = 126 := eq_of_beq h
    refine sm_dcd ?_
    show Except.bind ((Reader.u1 : Reader DecodeError Nat) cc pc) _ = _
    rw [sm_u1 g0, hb]
    rfl
  case land =>
    unfold sm_fb at h
    dsimp only at h
    split at h <;> first | (cases h; done) | skip
    rename_i b0 r
    have g0 : cc.data.toList[pc]? = some b0 := hr 0 b0 rfl
    have hb : b0.toNat = 127 := eq_of_beq h
    refine sm_dcd ?_
    show Except.bind ((Reader.u1 : Reader DecodeError Nat) cc pc) _ = _
    rw [sm_u1 g0, hb]
    rfl
  case ior =>
    unfold sm_fb at h
    dsimp only at h
    split at h <;> first | (cases h; done) | skip
    rename_i b0 r
    have g0 : cc.data.toList[pc]? = some b0 := hr 0 b0 rfl
    have hb : b0.toNat = 128 := eq_of_beq h
    refine sm_dcd ?_
    show Except.bind ((Reader.u1 : Reader DecodeError Nat) cc pc) _ = _
    rw [sm_u1 g0, hb]
    rfl
  case lor =>
    unfold sm_fb at h
    dsimp only at h
    split at h <;> first | (cases h; done) | skip
    rename_i b0 r
    have g0 : cc.data.toList[pc]? = some b0 := hr 0 b0 rfl
    have hb : b0.toNat = 129 := eq_of_beq h
    refine sm_dcd ?_
    show Except.bind ((Reader.u1 : Reader DecodeError Nat) cc pc) _ = _
    rw [sm_u1 g0, hb]
    rfl
  case ixor =>
    unfold sm_fb at h
    dsimp only at h
    split at h <;> first | (cases h; done) | skip
    rename_i b0 r
    have g0 : cc.data.toList[pc]? = some b0 := hr 0 b0 rfl
    have hb : b0.toNat = 130 := eq_of_beq h
    refine sm_dcd ?_
    show Except.bind ((Reader.u1 : Reader DecodeError Nat) cc pc) _ = _
    rw [sm_u1 g0, hb]
    rfl
  case lxor =>
    unfold sm_fb at h
    dsimp only at h
    split at h <;> first | (cases h; done) | skip
    rename_i b0 r
    have g0 : cc.data.toList[pc]? = some b0 := hr 0 b0 rfl
    have hb : b0.toNat = 131 := eq_of_beq h
    refine sm_dcd ?_
    show Except.bind ((Reader.u1 : Reader DecodeError Nat) cc pc) _ = _
    rw [sm_u1 g0, hb]
    rfl
  case i2l =>
    unfold sm_fb at h
    dsimp only at h
    split at h <;> first | (cases h; done) | skip
    rename_i b0 r
    have g0 : cc.data.toList[pc]? = some b0 := hr 0 b0 rfl
    have hb : b0.toNat = 133 := eq_of_beq h
    refine sm_dcd ?_
    show Except.bind ((Reader.u1 : Reader DecodeError Nat) cc pc) _ = _
    rw [sm_u1 g0, hb]
    rfl
  case l2i =>
    unfold sm_fb at h
    dsimp only at h
    split at h <;> first | (cases h; done) | skip
    rename_i b0 r
    have g0 : cc.data.toList[pc]? = some b0 := hr 0 b0 rfl
    have hb : b0.toNat = 136 := eq_of_beq h
    refine sm_dcd ?_
    show Except.bind ((Reader.u1 : Reader DecodeError Nat) cc pc) _ = _
    rw [sm_u1 g0, hb]
    rfl
  case i2b =>
    unfold sm_fb at h
    dsimp only at h
    split at h <;> first | (cases h; done) | skip
    rename_i b0 r
    have g0 : cc.data.toList[pc]? = some b0 := hr 0 b0 rfl
    have hb : b0.toNat = 145 := eq_of_beq h
    refine sm_dcd ?_
    show Except.bind ((Reader.u1 : Reader DecodeError Nat) cc pc) _ = _
    rw [sm_u1 g0, hb]
    rfl
  case i2s =>
    unfold sm_fb at h
    dsimp only at h
    split at h <;> first | (cases h; done) | skip
    rename_i b0 r
    have g0 : cc.data.toList[pc]? = some b0 := hr 0 b0 rfl
    have hb : b0.toNat = 147 := eq_of_beq h
    refine sm_dcd ?_
    show Except.bind ((Reader.u1 : Reader DecodeError Nat) cc pc) _ = _
    rw [sm_u1 g0, hb]
    rfl
  case lcmp =>
    unfold sm_fb at h
    dsimp only at h
    split at h <;> first | (cases h; done) | skip
    rename_i b0 r
    have g0 : cc.data.toList[pc]? = some b0 := hr 0 b0 rfl
    have hb : b0.toNat = 148 := eq_of_beq h
    refine sm_dcd ?_
    show Except.bind ((Reader.u1 : Reader DecodeError Nat) cc pc) _ = _
    rw [sm_u1 g0, hb]
    rfl
  case ireturn =>
    unfold sm_fb at h
    dsimp only at h
    split at h <;> first | (cases h; done) | skip
    rename_i b0 r
    have g0 : cc.data.toList[pc]? = some b0 := hr 0 b0 rfl
    have hb : b0.toNat = 172 := eq_of_beq h
    refine sm_dcd ?_
    show Except.bind ((Reader.u1 : Reader DecodeError Nat) cc pc) _ = _
    rw [sm_u1 g0, hb]
    rfl
  case lreturn =>
    unfold sm_fb at h
    dsimp only at h
    split at h <;> first | (cases h; done) | skip
    rename_i b0 r
    have g0 : cc.data.toList[pc]? = some b0 := hr 0 b0 rfl
    have hb : b0.toNat = 173 := eq_of_beq h
    refine sm_dcd ?_
    show Except.bind ((Reader.u1 : Reader DecodeError Nat) cc pc) _ = _
    rw [sm_u1 g0, hb]
    rfl
  case areturn =>
    unfold sm_fb at h
    dsimp only at h
    split at h <;> first | (cases h; done) | skip
    rename_i b0 r
    have g0 : cc.data.toList[pc]? = some b0 := hr 0 b0 rfl
    have hb : b0.toNat = 176 := eq_of_beq h
    refine sm_dcd ?_
    show Except.bind ((Reader.u1 : Reader DecodeError Nat) cc pc) _ = _
    rw [sm_u1 g0, hb]
    rfl
  case return_ =>
    unfold sm_fb at h
    dsimp only at h
    split at h <;> first | (cases h; done) | skip
    rename_i b0 r
    have g0 : cc.data.toList[pc]? = some b0 := hr 0 b0 rfl
    have hb : b0.toNat = 177 := eq_of_beq h
    refine sm_dcd ?_
    show Except.bind ((Reader.u1 : Reader DecodeError Nat) cc pc) _ = _
    rw [sm_u1 g0, hb]
    rfl
  case arraylength =>
    unfold sm_fb at h
    dsimp only at h
    split at h <;> first | (cases h; done) | skip
    rename_i b0 r
    have g0 : cc.data.toList[pc]? = some b0 := hr 0 b0 rfl
    have hb : b0.toNat = 190 := eq_of_beq h
    refine sm_dcd ?_
    show Except.bind ((Reader.u1 : Reader DecodeError Nat) cc pc) _ = _
    rw [sm_u1 g0, hb]
    rfl
  case iload_n n =>
    unfold sm_fb at h
    dsimp only at h
    split at h <;> first | (cases h; done) | skip
    rename_i b0 r
    have g0 : cc.data.toList[pc]? = some b0 := hr 0 b0 rfl
    have hb : b0.toNat = 26 + n.val := eq_of_beq h
    refine sm_dcd ?_
    show Except.bind ((Reader.u1 : Reader DecodeError Nat) cc pc) _ = _
    rw [sm_u1 g0, hb]
    match n with
    | 0 => rfl
    | 1 => rfl
    | 2 => rfl
    | 3 => rfl
  case lload_n n =>
    unfold sm_fb at h
    dsimp only at h
    split at h <;> first | (cases h; done) | skip
    rename_i b0 r
    have g0 : cc.data.toList[pc]? = some b0 := hr 0 b0 rfl
    have hb : b0.toNat = 30 + n.val := eq_of_beq h
    refine sm_dcd ?_
    show Except.bind ((Reader.u1 : Reader DecodeError Nat) cc pc) _ = _
    rw [sm_u1 g0, hb]
    match n with
    | 0 => rfl
    | 1 => rfl
    | 2 => rfl
    | 3 => rfl
  case aload_n n =>
    unfold sm_fb at h
    dsimp only at h
    split at h <;> first | (cases h; done) | skip
    rename_i b0 r
    have g0 : cc.data.toList[pc]? = some b0 := hr 0 b0 rfl
    have hb : b0.toNat = 42 + n.val := eq_of_beq h
    refine sm_dcd ?_
    show Except.bind ((Reader.u1 : Reader DecodeError Nat) cc pc) _ = _
    rw [sm_u1 g0, hb]
    match n with
    | 0 => rfl
    | 1 => rfl
    | 2 => rfl
    | 3 => rfl
  case istore_n n =>
    unfold sm_fb at h
    dsimp only at h
    split at h <;> first | (cases h; done) | skip
    rename_i b0 r
    have g0 : cc.data.toList[pc]? = some b0 := hr 0 b0 rfl
    have hb : b0.toNat = 59 + n.val := eq_of_beq h
    refine sm_dcd ?_
    show Except.bind ((Reader.u1 : Reader DecodeError Nat) cc pc) _ = _
    rw [sm_u1 g0, hb]
    match n with
    | 0 => rfl
    | 1 => rfl
    | 2 => rfl
    | 3 => rfl
  case lstore_n n =>
    unfold sm_fb at h
    dsimp only at h
    split at h <;> first | (cases h; done) | skip
    rename_i b0 r
    have g0 : cc.data.toList[pc]? = some b0 := hr 0 b0 rfl
    have hb : b0.toNat = 63 + n.val := eq_of_beq h
    refine sm_dcd ?_
    show Except.bind ((Reader.u1 : Reader DecodeError Nat) cc pc) _ = _
    rw [sm_u1 g0, hb]
    match n with
    | 0 => rfl
    | 1 => rfl
    | 2 => rfl
    | 3 => rfl
  case astore_n n =>
    unfold sm_fb at h
    dsimp only at h
    split at h <;> first | (cases h; done) | skip
    rename_i b0 r
    have g0 : cc.data.toList[pc]? = some b0 := hr 0 b0 rfl
    have hb : b0.toNat = 75 + n.val := eq_of_beq h
    refine sm_dcd ?_
    show Except.bind ((Reader.u1 : Reader DecodeError Nat) cc pc) _ = _
    rw [sm_u1 g0, hb]
    match n with
    | 0 => rfl
    | 1 => rfl
    | 2 => rfl
    | 3 => rfl
  case iload n =>
    unfold sm_fb at h
    dsimp only at h
    split at h <;> first | (cases h; done) | skip
    rename_i b0 b1 r
    have g0 : cc.data.toList[pc]? = some b0 := hr 0 b0 rfl
    have g1 : cc.data.toList[pc + 1]? = some b1 := hr 1 b1 rfl
    obtain ⟨hb, hn⟩ := (Bool.and_eq_true _ _).mp h
    have hb : b0.toNat = 21 := eq_of_beq hb
    have hn : n = b1.toNat := eq_of_beq hn
    subst hn
    refine sm_dcd ?_
    show Except.bind ((Reader.u1 : Reader DecodeError Nat) cc pc) _ = _
    rw [sm_u1 g0, hb]
    show Except.bind ((Reader.u1 : Reader DecodeError Nat) cc (pc + 1)) _ = _
    rw [sm_u1 g1]
    rfl
  case lload n =>
    unfold sm_fb at h
    dsimp only at h
    split at h <;> first | (cases h; done) | skip
    rename_i b0 b1 r
    have g0 : cc.data.toList[pc]? = some b0 := hr 0 b0 rfl
    have g1 : cc.data.toList[pc + 1]? = some b1 := hr 1 b1 rfl
    obtain ⟨hb, hn⟩ := (Bool.and_eq_true _ _).mp h
    have hb : b0.toNat = 22 := eq_of_beq hb
    have hn : n = b1.toNat := eq_of_beq hn
    subst hn
    refine sm_dcd ?_
    show Except.bind ((Reader.u1 : Reader DecodeError Nat) cc pc) _ = _
    rw [sm_u1 g0, hb]
    show Except.bind ((Reader.u1 : Reader DecodeError Nat) cc (pc + 1)) _ = _
    rw [sm_u1 g1]
    rfl
  case aload n =>
    unfold sm_fb at h
    dsimp only at h
    split at h <;> first | (cases h; done) | skip
    rename_i b0 b1 r
    have g0 : cc.data.toList[pc]? = some b0 := hr 0 b0 rfl
    have g1 : cc.data.toList[pc + 1]? = some b1 := hr 1 b1 rfl
    obtain ⟨hb, hn⟩ := (Bool.and_eq_true _ _).mp h
    have hb : b0.toNat = 25 := eq_of_beq hb
    have hn : n = b1.toNat := eq_of_beq hn
    subst hn
    refine sm_dcd ?_
    show Except.bind ((Reader.u1 : Reader DecodeError Nat) cc pc) _ = _
    rw [sm_u1 g0, hb]
    show Except.bind ((Reader.u1 : Reader DecodeError Nat) cc (pc + 1)) _ = _
    rw [sm_u1 g1]
    rfl
  case istore n =>
    unfold sm_fb at h
    dsimp only at h
    split at h <;> first | (cases h; done) | skip
    rename_i b0 b1 r
    have g0 : cc.data.toList[pc]? = some b0 := hr 0 b0 rfl
    have g1 : cc.data.toList[pc + 1]? = some b1 := hr 1 b1 rfl
    obtain ⟨hb, hn⟩ := (Bool.and_eq_true _ _).mp h
    have hb : b0.toNat = 54 := eq_of_beq hb
    have hn : n = b1.toNat := eq_of_beq hn
    subst hn
    refine sm_dcd ?_
    show Except.bind ((Reader.u1 : Reader DecodeError Nat) cc pc) _ = _
    rw [sm_u1 g0, hb]
    show Except.bind ((Reader.u1 : Reader DecodeError Nat) cc (pc + 1)) _ = _
    rw [sm_u1 g1]
    rfl
  case lstore n =>
    unfold sm_fb at h
    dsimp only at h
    split at h <;> first | (cases h; done) | skip
    rename_i b0 b1 r
    have g0 : cc.data.toList[pc]? = some b0 := hr 0 b0 rfl
    have g1 : cc.data.toList[pc + 1]? = some b1 := hr 1 b1 rfl
    obtain ⟨hb, hn⟩ := (Bool.and_eq_true _ _).mp h
    have hb : b0.toNat = 55 := eq_of_beq hb
    have hn : n = b1.toNat := eq_of_beq hn
    subst hn
    refine sm_dcd ?_
    show Except.bind ((Reader.u1 : Reader DecodeError Nat) cc pc) _ = _
    rw [sm_u1 g0, hb]
    show Except.bind ((Reader.u1 : Reader DecodeError Nat) cc (pc + 1)) _ = _
    rw [sm_u1 g1]
    rfl
  case astore n =>
    unfold sm_fb at h
    dsimp only at h
    split at h <;> first | (cases h; done) | skip
    rename_i b0 b1 r
    have g0 : cc.data.toList[pc]? = some b0 := hr 0 b0 rfl
    have g1 : cc.data.toList[pc + 1]? = some b1 := hr 1 b1 rfl
    obtain ⟨hb, hn⟩ := (Bool.and_eq_true _ _).mp h
    have hb : b0.toNat = 58 := eq_of_beq hb
    have hn : n = b1.toNat := eq_of_beq hn
    subst hn
    refine sm_dcd ?_
    show Except.bind ((Reader.u1 : Reader DecodeError Nat) cc pc) _ = _
    rw [sm_u1 g0, hb]
    show Except.bind ((Reader.u1 : Reader DecodeError Nat) cc (pc + 1)) _ = _
    rw [sm_u1 g1]
    rfl
  case ldc n =>
    unfold sm_fb at h
    dsimp only at h
    split at h <;> first | (cases h; done) | skip
    rename_i b0 b1 r
    have g0 : cc.data.toList[pc]? = some b0 := hr 0 b0 rfl
    have g1 : cc.data.toList[pc + 1]? = some b1 := hr 1 b1 rfl
    obtain ⟨hb, hn⟩ := (Bool.and_eq_true _ _).mp h
    have hb : b0.toNat = 18 := eq_of_beq hb
    have hn : n = b1.toNat := eq_of_beq hn
    subst hn
    refine sm_dcd ?_
    show Except.bind ((Reader.u1 : Reader DecodeError Nat) cc pc) _ = _
    rw [sm_u1 g0, hb]
    show Except.bind ((Reader.u1 : Reader DecodeError Nat) cc (pc + 1)) _ = _
    rw [sm_u1 g1]
    rfl
  case ldc_w n =>
    unfold sm_fb at h
    dsimp only at h
    split at h <;> first | (cases h; done) | skip
    rename_i b0 b1 b2 r
    have g0 : cc.data.toList[pc]? = some b0 := hr 0 b0 rfl
    have g1 : cc.data.toList[pc + 1]? = some b1 := hr 1 b1 rfl
    have g2 : cc.data.toList[pc + 1 + 1]? = some b2 := hr 2 b2 rfl
    obtain ⟨hb, hn⟩ := (Bool.and_eq_true _ _).mp h
    have hb : b0.toNat = 19 := eq_of_beq hb
    have hn : n = b1.toNat * 256 + b2.toNat := eq_of_beq hn
    subst hn
    refine sm_dcd ?_
    show Except.bind ((Reader.u1 : Reader DecodeError Nat) cc pc) _ = _
    rw [sm_u1 g0, hb]
    show Except.bind ((Reader.u2 : Reader DecodeError Nat) cc (pc + 1)) _ = _
    rw [sm_u2 g1 g2]
    rfl
  case ldc2_w n =>
    unfold sm_fb at h
    dsimp only at h
    split at h <;> first | (cases h; done) | skip
    rename_i b0 b1 b2 r
    have g0 : cc.data.toList[pc]? = some b0 := hr 0 b0 rfl
    have g1 : cc.data.toList[pc + 1]? = some b1 := hr 1 b1 rfl
    have g2 : cc.data.toList[pc + 1 + 1]? = some b2 := hr 2 b2 rfl
    obtain ⟨hb, hn⟩ := (Bool.and_eq_true _ _).mp h
    have hb : b0.toNat = 20 := eq_of_beq hb
    have hn : n = b1.toNat * 256 + b2.toNat := eq_of_beq hn
    subst hn
    refine sm_dcd ?_
    show Except.bind ((Reader.u1 : Reader DecodeError Nat) cc pc) _ = _
    rw [sm_u1 g0, hb]
    show Except.bind ((Reader.u2 : Reader DecodeError Nat) cc (pc + 1)) _ = _
    rw [sm_u2 g1 g2]
    rfl
  case getfield n =>
    unfold sm_fb at h
    dsimp only at h
    split at h <;> first | (cases h; done) | skip
    rename_i b0 b1 b2 r
    have g0 : cc.data.toList[pc]? = some b0 := hr 0 b0 rfl
    have g1 : cc.data.toList[pc + 1]? = some b1 := hr 1 b1 rfl
    have g2 : cc.data.toList[pc + 1 + 1]? = some b2 := hr 2 b2 rfl
    obtain ⟨hb, hn⟩ := (Bool.and_eq_true _ _).mp h
    have hb : b0.toNat = 180 := eq_of_beq hb
    have hn : n = b1.toNat * 256 + b2.toNat := eq_of_beq hn
    subst hn
    refine sm_dcd ?_
    show Except.bind ((Reader.u1 : Reader DecodeError Nat) cc pc) _ = _
    rw [sm_u1 g0, hb]
    show Except.bind ((Reader.u2 : Reader DecodeError Nat) cc (pc + 1)) _ = _
    rw [sm_u2 g1 g2]
    rfl
  case putfield n =>
    unfold sm_fb at h
    dsimp only at h
    split at h <;> first | (cases h; done) | skip
    rename_i b0 b1 b2 r
    have g0 : cc.data.toList[pc]? = some b0 := hr 0 b0 rfl
    have g1 : cc.data.toList[pc + 1]? = some b1 := hr 1 b1 rfl
    have g2 : cc.data.toList[pc + 1 + 1]? = some b2 := hr 2 b2 rfl
    obtain ⟨hb, hn⟩ := (Bool.and_eq_true _ _).mp h
    have hb : b0.toNat = 181 := eq_of_beq hb
    have hn : n = b1.toNat * 256 + b2.toNat := eq_of_beq hn
    subst hn
    refine sm_dcd ?_
    show Except.bind ((Reader.u1 : Reader DecodeError Nat) cc pc) _ = _
    rw [sm_u1 g0, hb]
    show Except.bind ((Reader.u2 : Reader DecodeError Nat) cc (pc + 1)) _ = _
    rw [sm_u2 g1 g2]
    rfl
  case invokevirtual n =>
    unfold sm_fb at h
    dsimp only at h
    split at h <;> first | (cases h; done) | skip
    rename_i b0 b1 b2 r
    have g0 : cc.data.toList[pc]? = some b0 := hr 0 b0 rfl
    have g1 : cc.data.toList[pc + 1]? = some b1 := hr 1 b1 rfl
    have g2 : cc.data.toList[pc + 1 + 1]? = some b2 := hr 2 b2 rfl
    obtain ⟨hb, hn⟩ := (Bool.and_eq_true _ _).mp h
    have hb : b0.toNat = 182 := eq_of_beq hb
    have hn : n = b1.toNat * 256 + b2.toNat := eq_of_beq hn
    subst hn
    refine sm_dcd ?_
    show Except.bind ((Reader.u1 : Reader DecodeError Nat) cc pc) _ = _
    rw [sm_u1 g0, hb]
    show Except.bind ((Reader.u2 : Reader DecodeError Nat) cc (pc + 1)) _ = _
    rw [sm_u2 g1 g2]
    rfl
  case invokespecial n =>
    unfold sm_fb at h
    dsimp only at h
    split at h <;> first | (cases h; done) | skip
    rename_i b0 b1 b2 r
    have g0 : cc.data.toList[pc]? = some b0 := hr 0 b0 rfl
    have g1 : cc.data.toList[pc + 1]? = some b1 := hr 1 b1 rfl
    have g2 : cc.data.toList[pc + 1 + 1]? = some b2 := hr 2 b2 rfl
    obtain ⟨hb, hn⟩ := (Bool.and_eq_true _ _).mp h
    have hb : b0.toNat = 183 := eq_of_beq hb
    have hn : n = b1.toNat * 256 + b2.toNat := eq_of_beq hn
    subst hn
    refine sm_dcd ?_
    show Except.bind ((Reader.u1 : Reader DecodeError Nat) cc pc) _ = _
    rw [sm_u1 g0, hb]
    show Except.bind ((Reader.u2 : Reader DecodeError Nat) cc (pc + 1)) _ = _
    rw [sm_u2 g1 g2]
    rfl
  case invokestatic n =>
    unfold sm_fb at h
    dsimp only at h
    split at h <;> first | (cases h; done) | skip
    rename_i b0 b1 b2 r
    have g0 : cc.data.toList[pc]? = some b0 := hr 0 b0 rfl
    have g1 : cc.data.toList[pc + 1]? = some b1 := hr 1 b1 rfl
    have g2 : cc.data.toList[pc + 1 + 1]? = some b2 := hr 2 b2 rfl
    obtain ⟨hb, hn⟩ := (Bool.and_eq_true _ _).mp h
    have hb : b0.toNat = 184 := eq_of_beq hb
    have hn : n = b1.toNat * 256 + b2.toNat := eq_of_beq hn
    subst hn
    refine sm_dcd ?_
    show Except.bind ((Reader.u1 : Reader DecodeError Nat) cc pc) _ = _
    rw [sm_u1 g0, hb]
    show Except.bind ((Reader.u2 : Reader DecodeError Nat) cc (pc + 1)) _ = _
    rw [sm_u2 g1 g2]
    rfl
  case new n =>
    unfold sm_fb at h
    dsimp only at h
    split at h <;> first | (cases h; done) | skip
    rename_i b0 b1 b2 r
    have g0 : cc.data.toList[pc]? = some b0 := hr 0 b0 rfl
    have g1 : cc.data.toList[pc + 1]? = some b1 := hr 1 b1 rfl
    have g2 : cc.data.toList[pc + 1 + 1]? = some b2 := hr 2 b2 rfl
    obtain ⟨hb, hn⟩ := (Bool.and_eq_true _ _).mp h
    have hb : b0.toNat = 187 := eq_of_beq hb
    have hn : n = b1.toNat * 256 + b2.toNat := eq_of_beq hn
    subst hn
    refine sm_dcd ?_
    show Except.bind ((Reader.u1 : Reader DecodeError Nat) cc pc) _ = _
    rw [sm_u1 g0, hb]
    show Except.bind ((Reader.u2 : Reader DecodeError Nat) cc (pc + 1)) _ = _
    rw [sm_u2 g1 g2]
    rfl
  case anewarray n =>
    unfold sm_fb at h
    dsimp only at h
    split at h <;> first | (cases h; done) | skip
    rename_i b0 b1 b2 r
    have g0 : cc.data.toList[pc]? = some b0 := hr 0 b0 rfl
    have g1 : cc.data.toList[pc + 1]? = some b1 := hr 1 b1 rfl
    have g2 : cc.data.toList[pc + 1 + 1]? = some b2 := hr 2 b2 rfl
    obtain ⟨hb, hn⟩ := (Bool.and_eq_true _ _).mp h
    have hb : b0.toNat = 189 := eq_of_beq hb
    have hn : n = b1.toNat * 256 + b2.toNat := eq_of_beq hn
    subst hn
    refine sm_dcd ?_
    show Except.bind ((Reader.u1 : Reader DecodeError Nat) cc pc) _ = _
    rw [sm_u1 g0, hb]
    show Except.bind ((Reader.u2 : Reader DecodeError Nat) cc (pc + 1)) _ = _
    rw [sm_u2 g1 g2]
    rfl
  case goto n =>
    unfold sm_fb at h
    dsimp only at h
    split at h <;> first | (cases h; done) | skip
    rename_i b0 b1 b2 r
    have g0 : cc.data.toList[pc]? = some b0 := hr 0 b0 rfl
    have g1 : cc.data.toList[pc + 1]? = some b1 := hr 1 b1 rfl
    have g2 : cc.data.toList[pc + 1 + 1]? = some b2 := hr 2 b2 rfl
    obtain ⟨hb, hn⟩ := (Bool.and_eq_true _ _).mp h
    have hb : b0.toNat = 167 := eq_of_beq hb
    have hn := of_decide_eq_true hn
    subst hn
    refine sm_dcd ?_
    show Except.bind ((Reader.u1 : Reader DecodeError Nat) cc pc) _ = _
    rw [sm_u1 g0, hb]
    show Except.bind ((Reader.s2 : Reader DecodeError Int) cc (pc + 1)) _ = _
    rw [sm_s2 g1 g2]
    rfl
  case ifnull n =>
    unfold sm_fb at h
    dsimp only at h
    split at h <;> first | (cases h; done) | skip
    rename_i b0 b1 b2 r
    have g0 : cc.data.toList[pc]? = some b0 := hr 0 b0 rfl
    have g1 : cc.data.toList[pc + 1]? = some b1 := hr 1 b1 rfl
    have g2 : cc.data.toList[pc + 1 + 1]? = some b2 := hr 2 b2 rfl
    obtain ⟨hb, hn⟩ := (Bool.and_eq_true _ _).mp h
    have hb : b0.toNat = 198 := eq_of_beq hb
    have hn := of_decide_eq_true hn
    subst hn
    refine sm_dcd ?_
    show Except.bind ((Reader.u1 : Reader DecodeError Nat) cc pc) _ = _
    rw [sm_u1 g0, hb]
    show Except.bind ((Reader.s2 : Reader DecodeError Int) cc (pc + 1)) _ = _
    rw [sm_s2 g1 g2]
    rfl
  case ifnonnull n =>
    unfold sm_fb at h
    dsimp only at h
    split at h <;> first | (cases h; done) | skip
    rename_i b0 b1 b2 r
    have g0 : cc.data.toList[pc]? = some b0 := hr 0 b0 rfl
    have g1 : cc.data.toList[pc + 1]? = some b1 := hr 1 b1 rfl
    have g2 : cc.data.toList[pc + 1 + 1]? = some b2 := hr 2 b2 rfl
    obtain ⟨hb, hn⟩ := (Bool.and_eq_true _ _).mp h
    have hb : b0.toNat = 199 := eq_of_beq hb
    have hn := of_decide_eq_true hn
    subst hn
    refine sm_dcd ?_
    show Except.bind ((Reader.u1 : Reader DecodeError Nat) cc pc) _ = _
    rw [sm_u1 g0, hb]
    show Except.bind ((Reader.s2 : Reader DecodeError Int) cc (pc + 1)) _ = _
    rw [sm_s2 g1 g2]
    rfl
  case sipush n =>
    unfold sm_fb at h
    dsimp only at h
    split at h <;> first | (cases h; done) | skip
    rename_i b0 b1 b2 r
    have g0 : cc.data.toList[pc]? = some b0 := hr 0 b0 rfl
    have g1 : cc.data.toList[pc + 1]? = some b1 := hr 1 b1 rfl
    have g2 : cc.data.toList[pc + 1 + 1]? = some b2 := hr 2 b2 rfl
    obtain ⟨hb, hn⟩ := (Bool.and_eq_true _ _).mp h
    have hb : b0.toNat = 17 := eq_of_beq hb
    have hn := of_decide_eq_true hn
    subst hn
    refine sm_dcd ?_
    show Except.bind ((Reader.u1 : Reader DecodeError Nat) cc pc) _ = _
    rw [sm_u1 g0, hb]
    show Except.bind ((Reader.s2 : Reader DecodeError Int) cc (pc + 1)) _ = _
    rw [sm_s2 g1 g2]
    rfl
  case ifCond c n =>
    cases c
    · unfold sm_fb at h
      dsimp only at h
      split at h <;> first | (cases h; done) | skip
      rename_i b0 b1 b2 r
      have g0 : cc.data.toList[pc]? = some b0 := hr 0 b0 rfl
      have g1 : cc.data.toList[pc + 1]? = some b1 := hr 1 b1 rfl
      have g2 : cc.data.toList[pc + 1 + 1]? = some b2 := hr 2 b2 rfl
      obtain ⟨hb, hn⟩ := (Bool.and_eq_true _ _).mp h
      have hb : b0.toNat = 153 := eq_of_beq hb
      have hn := of_decide_eq_true hn
      subst hn
      refine sm_dcd ?_
      show Except.bind ((Reader.u1 : Reader DecodeError Nat) cc pc) _ = _
      rw [sm_u1 g0, hb]
      show Except.bind ((Reader.s2 : Reader DecodeError Int) cc (pc + 1)) _ = _
      rw [sm_s2 g1 g2]
      rfl
    · unfold sm_fb at h
      dsimp only at h
      split at h <;> first | (cases h; done) | skip
      rename_i b0 b1 b2 r
      have g0 : cc.data.toList[pc]? = some b0 := hr 0 b0 rfl
      have g1 : cc.data.toList[pc + 1]? = some b1 := hr 1 b1 rfl
      have g2 : cc.data.toList[pc + 1 + 1]? = some b2 := hr 2 b2 rfl
      obtain ⟨hb, hn⟩ := (Bool.and_eq_true _ _).mp h
      have hb : b0.toNat = 154 := eq_of_beq hb
      have hn := of_decide_eq_true hn
      subst hn
      refine sm_dcd ?_
      show Except.bind ((Reader.u1 : Reader DecodeError Nat) cc pc) _ = _
      rw [sm_u1 g0, hb]
      show Except.bind ((Reader.s2 : Reader DecodeError Int) cc (pc + 1)) _ = _
      rw [sm_s2 g1 g2]
      rfl
    · unfold sm_fb at h
      dsimp only at h
      split at h <;> first | (cases h; done) | skip
      rename_i b0 b1 b2 r
      have g0 : cc.data.toList[pc]? = some b0 := hr 0 b0 rfl
      have g1 : cc.data.toList[pc + 1]? = some b1 := hr 1 b1 rfl
      have g2 : cc.data.toList[pc + 1 + 1]? = some b2 := hr 2 b2 rfl
      obtain ⟨hb, hn⟩ := (Bool.and_eq_true _ _).mp h
      have hb : b0.toNat = 155 := eq_of_beq hb
      have hn := of_decide_eq_true hn
      subst hn
      refine sm_dcd ?_
      show Except.bind ((Reader.u1 : Reader DecodeError Nat) cc pc) _ = _
      rw [sm_u1 g0, hb]
      show Except.bind ((Reader.s2 : Reader DecodeError Int) cc (pc + 1)) _ = _
      rw [sm_s2 g1 g2]
      rfl
    · unfold sm_fb at h
      dsimp only at h
      split at h <;> first | (cases h; done) | skip
      rename_i b0 b1 b2 r
      have g0 : cc.data.toList[pc]? = some b0 := hr 0 b0 rfl
      have g1 : cc.data.toList[pc + 1]? = some b1 := hr 1 b1 rfl
      have g2 : cc.data.toList[pc + 1 + 1]? = some b2 := hr 2 b2 rfl
      obtain ⟨hb, hn⟩ := (Bool.and_eq_true _ _).mp h
      have hb : b0.toNat = 156 := eq_of_beq hb
      have hn := of_decide_eq_true hn
      subst hn
      refine sm_dcd ?_
      show Except.bind ((Reader.u1 : Reader DecodeError Nat) cc pc) _ = _
      rw [sm_u1 g0, hb]
      show Except.bind ((Reader.s2 : Reader DecodeError Int) cc (pc + 1)) _ = _
      rw [sm_s2 g1 g2]
      rfl
    · unfold sm_fb at h
      dsimp only at h
      split at h <;> first | (cases h; done) | skip
      rename_i b0 b1 b2 r
      have g0 : cc.data.toList[pc]? = some b0 := hr 0 b0 rfl
      have g1 : cc.data.toList[pc + 1]? = some b1 := hr 1 b1 rfl
      have g2 : cc.data.toList[pc + 1 + 1]? = some b2 := hr 2 b2 rfl
      obtain ⟨hb, hn⟩ := (Bool.and_eq_true _ _).mp h
      have hb : b0.toNat = 157 := eq_of_beq hb
      have hn := of_decide_eq_true hn
      subst hn
      refine sm_dcd ?_
      show Except.bind ((Reader.u1 : Reader DecodeError Nat) cc pc) _ = _
      rw [sm_u1 g0, hb]
      show Except.bind ((Reader.s2 : Reader DecodeError Int) cc (pc + 1)) _ = _
      rw [sm_s2 g1 g2]
      rfl
    · unfold sm_fb at h
      dsimp only at h
      split at h <;> first | (cases h; done) | skip
      rename_i b0 b1 b2 r
      have g0 : cc.data.toList[pc]? = some b0 := hr 0 b0 rfl
      have g1 : cc.data.toList[pc + 1]? = some b1 := hr 1 b1 rfl
      have g2 : cc.data.toList[pc + 1 + 1]? = some b2 := hr 2 b2 rfl
      obtain ⟨hb, hn⟩ := (Bool.and_eq_true _ _).mp h
      have hb : b0.toNat = 158 := eq_of_beq hb
      have hn := of_decide_eq_true hn
      subst hn
      refine sm_dcd ?_
      show Except.bind ((Reader.u1 : Reader DecodeError Nat) cc pc) _ = _
      rw [sm_u1 g0, hb]
      show Except.bind ((Reader.s2 : Reader DecodeError Int) cc (pc + 1)) _ = _
      rw [sm_s2 g1 g2]
      rfl
  case if_icmp c n =>
    cases c
    · unfold sm_fb at h
      dsimp only at h
      split at h <;> first | (cases h; done) | skip
      rename_i b0 b1 b2 r
      have g0 : cc.data.toList[pc]? = some b0 := hr 0 b0 rfl
      have g1 : cc.data.toList[pc + 1]? = some b1 := hr 1 b1 rfl
      have g2 : cc.data.toList[pc + 1 + 1]? = some b2 := hr 2 b2 rfl
      obtain ⟨hb, hn⟩ := (Bool.and_eq_true _ _).mp h
      have hb : b0.toNat = 159 := eq_of_beq hb
      have hn := of_decide_eq_true hn
      subst hn
      refine sm_dcd ?_
      show Except.bind ((Reader.u1 : Reader DecodeError Nat) cc pc) _ = _
      rw [sm_u1 g0, hb]
      show Except.bind ((Reader.s2 : Reader DecodeError Int) cc (pc + 1)) _ = _
      rw [sm_s2 g1 g2]
      rfl
    · unfold sm_fb at h
      dsimp only at h
      split at h <;> first | (cases h; done) | skip
      rename_i b0 b1 b2 r
      have g0 : cc.data.toList[pc]? = some b0 := hr 0 b0 rfl
      have g1 : cc.data.toList[pc + 1]? = some b1 := hr 1 b1 rfl
      have g2 : cc.data.toList[pc + 1 + 1]? = some b2 := hr 2 b2 rfl
      obtain ⟨hb, hn⟩ := (Bool.and_eq_true _ _).mp h
      have hb : b0.toNat = 160 := eq_of_beq hb
      have hn := of_decide_eq_true hn
      subst hn
      refine sm_dcd ?_
      show Except.bind ((Reader.u1 : Reader DecodeError Nat) cc pc) _ = _
      rw [sm_u1 g0, hb]
      show Except.bind ((Reader.s2 : Reader DecodeError Int) cc (pc + 1)) _ = _
      rw [sm_s2 g1 g2]
      rfl
    · unfold sm_fb at h
      dsimp only at h
      split at h <;> first | (cases h; done) | skip
      rename_i b0 b1 b2 r
      have g0 : cc.data.toList[pc]? = some b0 := hr 0 b0 rfl
      have g1 : cc.data.toList[pc + 1]? = some b1 := hr 1 b1 rfl
      have g2 : cc.data.toList[pc + 1 + 1]? = some b2 := hr 2 b2 rfl
      obtain ⟨hb, hn⟩ := (Bool.and_eq_true _ _).mp h
      have hb : b0.toNat = 161 := eq_of_beq hb
      have hn := of_decide_eq_true hn
      subst hn
      refine sm_dcd ?_
      show Except.bind ((Reader.u1 : Reader DecodeError Nat) cc pc) _ = _
      rw [sm_u1 g0, hb]
      show Except.bind ((Reader.s2 : Reader DecodeError Int) cc (pc + 1)) _ = _
      rw [sm_s2 g1 g2]
      rfl
    · unfold sm_fb at h
      dsimp only at h
      split at h <;> first | (cases h; done) | skip
      rename_i b0 b1 b2 r
      have g0 : cc.data.toList[pc]? = some b0 := hr 0 b0 rfl
      have g1 : cc.data.toList[pc + 1]? = some b1 := hr 1 b1 rfl
      have g2 : cc.data.toList[pc + 1 + 1]? = some b2 := hr 2 b2 rfl
      obtain ⟨hb, hn⟩ := (Bool.and_eq_true _ _).mp h
      have hb : b0.toNat = 162 := eq_of_beq hb
      have hn := of_decide_eq_true hn
      subst hn
      refine sm_dcd ?_
      show Except.bind ((Reader.u1 : Reader DecodeError Nat) cc pc) _ = _
      rw [sm_u1 g0, hb]
      show Except.bind ((Reader.s2 : Reader DecodeError Int) cc (pc + 1)) _ = _
      rw [sm_s2 g1 g2]
      rfl
    · unfold sm_fb at h
      dsimp only at h
      split at h <;> first | (cases h; done) | skip
      rename_i b0 b1 b2 r
      have g0 : cc.data.toList[pc]? = some b0 := hr 0 b0 rfl
      have g1 : cc.data.toList[pc + 1]? = some b1 := hr 1 b1 rfl
      have g2 : cc.data.toList[pc + 1 + 1]? = some b2 := hr 2 b2 rfl
      obtain ⟨hb, hn⟩ := (Bool.and_eq_true _ _).mp h
      have hb : b0.toNat = 163 := eq_of_beq hb
      have hn := of_decide_eq_true hn
      subst hn
      refine sm_dcd ?_
      show Except.bind ((Reader.u1 : Reader DecodeError Nat) cc pc) _ = _
      rw [sm_u1 g0, hb]
      show Except.bind ((Reader.s2 : Reader DecodeError Int) cc (pc + 1)) _ = _
      rw [sm_s2 g1 g2]
      rfl
    · unfold sm_fb at h
      dsimp only at h
      split at h <;> first | (cases h; done) | skip
      rename_i b0 b1 b2 r
      have g0 : cc.data.toList[pc]? = some b0 := hr 0 b0 rfl
      have g1 : cc.data.toList[pc + 1]? = some b1 := hr 1 b1 rfl
      have g2 : cc.data.toList[pc + 1 + 1]? = some b2 := hr 2 b2 rfl
      obtain ⟨hb, hn⟩ := (Bool.and_eq_true _ _).mp h
      have hb : b0.toNat = 164 := eq_of_beq hb
      have hn := of_decide_eq_true hn
      subst hn
      refine sm_dcd ?_
      show Except.bind ((Reader.u1 : Reader DecodeError Nat) cc pc) _ = _
      rw [sm_u1 g0, hb]
      show Except.bind ((Reader.s2 : Reader DecodeError Int) cc (pc + 1)) _ = _
      rw [sm_s2 g1 g2]
      rfl
  case iconst n =>
    unfold sm_fb at h
    dsimp only at h
    split at h <;> first | (cases h; done) | skip
    rename_i b0 r
    have g0 : cc.data.toList[pc]? = some b0 := hr 0 b0 rfl
    simp only [Bool.and_eq_true, decide_eq_true_eq] at h
    obtain ⟨⟨h1, h2⟩, hn⟩ := h
    refine sm_dcd ?_
    show Except.bind ((Reader.u1 : Reader DecodeError Nat) cc pc) _ = _
    rw [sm_u1 g0]
    rcases (show b0.toNat = 2 ∨ b0.toNat = 3 ∨ b0.toNat = 4 ∨ b0.toNat = 5 ∨ b0.toNat = 6 ∨ b0.toNat = 7 ∨ b0.toNat = 8 by omega) with hb | hb | hb | hb | hb | hb | hb <;> rw [hb] at hn ⊢ <;> subst hn <;> rfl
  case lconst n =>
    unfold sm_fb at h
    dsimp only at h
    split at h <;> first | (cases h; done) | skip
    rename_i b0 r
    have g0 : cc.data.toList[pc]? = some b0 := hr 0 b0 rfl
    have hb : b0.toNat = 9 + n.val := eq_of_beq h
    refine sm_dcd ?_
    show Except.bind ((Reader.u1 : Reader DecodeError Nat) cc pc) _ = _
    rw [sm_u1 g0, hb]
    match n with
    | 0 => rfl
    | 1 => rfl
  case bipush n =>
    unfold sm_fb at h
    dsimp only at h
    split at h <;> first | (cases h; done) | skip
    rename_i b0 b1 r
    have g0 : cc.data.toList[pc]? = some b0 := hr 0 b0 rfl
    have g1 : cc.data.toList[pc + 1]? = some b1 := hr 1 b1 rfl
    obtain ⟨hb, hn⟩ := (Bool.and_eq_true _ _).mp h
    have hb : b0.toNat = 16 := eq_of_beq hb
    have hn := of_decide_eq_true hn
    subst hn
    refine sm_dcd ?_
    show Except.bind ((Reader.u1 : Reader DecodeError Nat) cc pc) _ = _
    rw [sm_u1 g0, hb]
    show Except.bind ((Reader.s1 : Reader DecodeError Int) cc (pc + 1)) _ = _
    rw [sm_s1 g1]
    rfl
  case iinc i n =>
    unfold sm_fb at h
    dsimp only at h
    split at h <;> first | (cases h; done) | skip
    rename_i b0 b1 b2 r
    have g0 : cc.data.toList[pc]? = some b0 := hr 0 b0 rfl
    have g1 : cc.data.toList[pc + 1]? = some b1 := hr 1 b1 rfl
    have g2 : cc.data.toList[pc + 1 + 1]? = some b2 := hr 2 b2 rfl
    simp only [Bool.and_eq_true, decide_eq_true_eq] at h
    obtain ⟨⟨hb, hi⟩, hn⟩ := h
    have hb : b0.toNat = 132 := eq_of_beq hb
    have hi : i = b1.toNat := eq_of_beq hi
    subst hi
    subst hn
    refine sm_dcd ?_
    show Except.bind ((Reader.u1 : Reader DecodeError Nat) cc pc) _ = _
    rw [sm_u1 g0, hb]
    show Except.bind ((Reader.u1 : Reader DecodeError Nat) cc (pc + 1)) _ = _
    rw [sm_u1 g1]
    show Except.bind ((Reader.s1 : Reader DecodeError Int) cc (pc + 1 + 1)) _ = _
    rw [sm_s1 g2]
    rfl
  case newarray ty =>
    cases ty <;> first | (cases h; done) | skip
    · unfold sm_fb at h
      dsimp only at h
      split at h <;> first | (cases h; done) | skip
      rename_i b0 b1 r
      have g0 : cc.data.toList[pc]? = some b0 := hr 0 b0 rfl
      have g1 : cc.data.toList[pc + 1]? = some b1 := hr 1 b1 rfl
      obtain ⟨hb, hn⟩ := (Bool.and_eq_true _ _).mp h
      have hb : b0.toNat = 188 := eq_of_beq hb
      have hn : b1.toNat = 10 := eq_of_beq hn
      refine sm_dcd ?_
      show Except.bind ((Reader.u1 : Reader DecodeError Nat) cc pc) _ = _
      rw [sm_u1 g0, hb]
      show Except.bind ((Reader.u1 : Reader DecodeError Nat) cc (pc + 1)) _ = _
      rw [sm_u1 g1, hn]
      rfl
    · unfold sm_fb at h
      dsimp only at h
      split at h <;> first | (cases h; done) | skip
      rename_i b0 b1 r
      have g0 : cc.data.toList[pc]? = some b0 := hr 0 b0 rfl
      have g1 : cc.data.toList[pc + 1]? = some b1 := hr 1 b1 rfl
      obtain ⟨hb, hn⟩ := (Bool.and_eq_true _ _).mp h
      have hb : b0.toNat = 188 := eq_of_beq hb
      have hn : b1.toNat = 11 := eq_of_beq hn
      refine sm_dcd ?_
      show Except.bind ((Reader.u1 : Reader DecodeError Nat) cc pc) _ = _
      rw [sm_u1 g0, hb]
      show Except.bind ((Reader.u1 : Reader DecodeError Nat) cc (pc + 1)) _ = _
      rw [sm_u1 g1, hn]
      rfl
