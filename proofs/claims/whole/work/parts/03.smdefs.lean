/-! A SMALL MACHINE (sm_): the class's own instructions over a list of cells, addresses counted from 0. -/
abbrev sm_E : Type := ClassFile.Instr × Nat × Nat × Nat
abbrev sm_T : Type := List (Option sm_E)
abbrev sm_L : Type := List (Nat × Value)
abbrev sm_H : Type := List va_E
abbrev sm_F : Type := Nat × sm_L × List Value
def sm_ld : sm_L → Nat → Option Value
  | [], _ => none
  | q :: r, i => if q.1 = i then some q.2 else sm_ld r i
def sm_st1 (lv : sm_L) (i : Nat) (v : Value) : sm_L := (i, v) :: lv.filter (fun q => !(q.1 == i) && !(q.1 + 1 == i && q.2.category == 2))
def sm_st2 (lv : sm_L) (i : Nat) (v : Value) : sm_L := (i, v) :: lv.filter (fun q => !(q.1 == i) && (!(q.1 == i + 1) && !(q.1 + 1 == i && q.2.category == 2)))
def sm_bi (pc : Nat) (lv : sm_L) (f : Int32 → Int32 → Int32) : List Value → Option sm_F
  | .int y :: .int x :: r => some (pc + 1, lv, .int (f x y) :: r)
  | _ => none
def sm_bl (pc : Nat) (lv : sm_L) (f : Int64 → Int64 → Int64) : List Value → Option sm_F
  | .long y :: .long x :: r => some (pc + 1, lv, .long (f x y) :: r)
  | _ => none
def sm_ui (pc : Nat) (lv : sm_L) (f : Int32 → Value) : List Value → Option sm_F
  | .int x :: r => some (pc + 1, lv, f x :: r)
  | _ => none
def sm_ul (pc : Nat) (lv : sm_L) (f : Int64 → Value) : List Value → Option sm_F
  | .long x :: r => some (pc + 1, lv, f x :: r)
  | _ => none
def sm_cmp (c : ClassFile.Cond) (x y : Int32) : Prop := match c with
  | .eq => x = y
  | .ne => ¬ x = y
  | .lt => x < y
  | .ge => y ≤ x
  | .gt => y < x
  | .le => x ≤ y
def sm_dec (c : ClassFile.Cond) (x y : Int32) : Decidable (sm_cmp c x y) := by
  cases c <;> unfold sm_cmp <;> infer_instance
def sm_if (c : ClassFile.Cond) (x y : Int32) (a b : Nat) : Nat := @ite Nat (sm_cmp c x y) (sm_dec c x y) a b
def sm_lod (pc : Nat) (lv : sm_L) (st : List Value) (i n k : Nat) : Option sm_F := match sm_ld lv i, k with
  | some (.int x), 0 => some (pc + n, lv, .int x :: st)
  | some (.long x), 1 => some (pc + n, lv, .long x :: st)
  | some (.ref x), 2 => some (pc + n, lv, .ref x :: st)
  | some .null, 2 => some (pc + n, lv, .null :: st)
  | _, _ => none
def sm_sto (pc : Nat) (lv : sm_L) (nL i n k : Nat) : List Value → Option sm_F
  | .int x :: r => if k = 0 ∧ i < nL then some (pc + n, sm_st1 lv i (.int x), r) else none
  | .long x :: r => if k = 1 ∧ i + 1 < nL then some (pc + n, sm_st2 lv i (.long x), r) else none
  | .ref x :: r => if k = 2 ∧ i < nL then some (pc + n, sm_st1 lv i (.ref x), r) else none
  | .null :: r => if k = 2 ∧ i < nL then some (pc + n, sm_st1 lv i .null, r) else none
  | _ => none
def sm_tgt (pc : Nat) (off : Int) : Option Nat := if 0 ≤ (pc : Int) + off then some ((pc : Int) + off).toNat else none
/-- steps that touch stack and locals alone -/
def sm_p (e : sm_E) (nL pc : Nat) (lv : sm_L) (st : List Value) : Option sm_F := match e.1 with
  | .iload_n k => sm_lod pc lv st k.val 1 0
  | .iload i => sm_lod pc lv st i 2 0
  | .lload_n k => sm_lod pc lv st k.val 1 1
  | .lload i => sm_lod pc lv st i 2 1
  | .aload_n k => sm_lod pc lv st k.val 1 2
  | .aload i => sm_lod pc lv st i 2 2
  | .istore_n k => sm_sto pc lv nL k.val 1 0 st
  | .istore i => sm_sto pc lv nL i 2 0 st
  | .lstore_n k => sm_sto pc lv nL k.val 1 1 st
  | .lstore i => sm_sto pc lv nL i 2 1 st
  | .astore_n k => sm_sto pc lv nL k.val 1 2 st
  | .astore i => sm_sto pc lv nL i 2 2 st
  | .iconst n => some (pc + 1, lv, .int (Int32.ofInt n) :: st)
  | .bipush n => some (pc + 2, lv, .int ((Int8.ofInt n).toInt32) :: st)
  | .sipush n => some (pc + 3, lv, .int ((Int16.ofInt n).toInt32) :: st)
  | .lconst n => some (pc + 1, lv, .long (Int64.ofNat (n : Nat)) :: st)
  | .aconst_null => some (pc + 1, lv, .null :: st)
  | .iadd => sm_bi pc lv (fun x y => x + y) st
  | .isub => sm_bi pc lv (fun x y => x - y) st
  | .imul => sm_bi pc lv (fun x y => x * y) st
  | .iand => sm_bi pc lv (fun x y => x &&& y) st
  | .ior => sm_bi pc lv (fun x y => x ||| y) st
  | .ixor => sm_bi pc lv (fun x y => x ^^^ y) st
  | .ishl => sm_bi pc lv (fun x y => x <<< (y &&& 31)) st
  | .ishr => sm_bi pc lv (fun x y => x >>> (y &&& 31)) st
  | .iushr => sm_bi pc lv (fun x y => (x.toUInt32 >>> (y.toUInt32 &&& Int32.toUInt32 31)).toInt32) st
  | .ineg => sm_ui pc lv (fun x => .int (-x)) st
  | .ladd => sm_bl pc lv (fun x y => x + y) st
  | .lsub => sm_bl pc lv (fun x y => x - y) st
  | .lmul => sm_bl pc lv (fun x y => x * y) st
  | .land => sm_bl pc lv (fun x y => x &&& y) st
  | .lor => sm_bl pc lv (fun x y => x ||| y) st
  | .lxor => sm_bl pc lv (fun x y => x ^^^ y) st
  | .lneg => sm_ul pc lv (fun x => .long (-x)) st
  | .i2l => sm_ui pc lv (fun x => .long x.toInt64) st
  | .l2i => sm_ul pc lv (fun x => .int x.toInt32) st
  | .i2b => sm_ui pc lv (fun x => .int x.toInt8.toInt32) st
  | .i2s => sm_ui pc lv (fun x => .int x.toInt16.toInt32) st
  | .idiv => match st with
    | .int y :: .int x :: r => if ¬ y = 0 then some (pc + 1, lv, .int (x / y) :: r) else none
    | _ => none
  | .irem => match st with
    | .int y :: .int x :: r => if ¬ y = 0 then some (pc + 1, lv, .int (x - x / y * y) :: r) else none
    | _ => none
  | .ldiv => match st with
    | .long y :: .long x :: r => if ¬ y = 0 then some (pc + 1, lv, .long (x / y) :: r) else none
    | _ => none
  | .lcmp => match st with
    | .long y :: .long x :: r => some (pc + 1, lv, .int (lg_cmp x y) :: r)
    | _ => none
  | .lshl => match st with
    | .int y :: .long x :: r => some (pc + 1, lv, .long (x <<< (y.toInt64 &&& 63)) :: r)
    | _ => none
  | .dup => match st with
    | v :: r => if v.category = 1 then some (pc + 1, lv, v :: v :: r) else none
    | _ => none
  | .pop => match st with
    | v :: r => if v.category = 1 then some (pc + 1, lv, r) else none
    | _ => none
  | .dup_x1 => match st with
    | v :: w :: r => if v.category = 1 ∧ w.category = 1 then some (pc + 1, lv, v :: w :: v :: r) else none
    | _ => none
  | .dup2 => match st with
    | v :: w :: r => if v.category = 1 ∧ w.category = 1 then some (pc + 1, lv, v :: w :: v :: w :: r) else none
    | _ => none
  | .iinc i n => match sm_ld lv i with
    | some (.int x) => if i < nL then some (pc + 3, sm_st1 lv i (.int (x + Int32.ofInt n)), st) else none
    | _ => none
  | .goto _ => some (e.2.1, lv, st)
  | .ifCond c _ => match st with
    | .int x :: r => some (sm_if c x 0 e.2.1 (pc + 3), lv, r)
    | _ => none
  | .if_icmp c _ => match st with
    | .int y :: .int x :: r => some (sm_if c x y e.2.1 (pc + 3), lv, r)
    | _ => none
  | .ifnull _ => match st with
    | .ref _ :: r => some (pc + 3, lv, r)
    | .null :: r => some (e.2.1, lv, r)
    | _ => none
  | .ifnonnull _ => match st with
    | .ref _ :: r => some (e.2.1, lv, r)
    | .null :: r => some (pc + 3, lv, r)
    | _ => none
  | .tableswitch dflt lo hi offs => match st with
    | .int x :: r => if x.toInt < lo ∨ hi < x.toInt then (sm_tgt pc dflt).map (fun t => (t, lv, r)) else match offs[(x.toInt - lo).toNat]? with
      | some off => (sm_tgt pc off).map (fun t => (t, lv, r))
      | none => none
    | _ => none
  | .lookupswitch dflt ps => match st with
    | .int x :: r => if (ps.toList.zip (ps.toList.drop 1)).all (fun (a, next) => a.1 < next.1) = true then (sm_tgt pc (Op.lookupswitch.offset ps.toList dflt x.toInt)).map (fun t => (t, lv, r)) else none
    | _ => none
  | _ => none
/-- kinds of fields: 0 int, 1 boolean, 2 long, 3 reference -/
def sm_fok (k : Nat) : Value → Bool
  | .int x => k == 0 || (k == 1 && (decide (x = 0) || decide (x = 1)))
  | .long _ => k == 2
  | .ref _ => k == 3
  | .null => k == 3
  | _ => false
def sm_gf (fs : List Value) (b : Nat) : Option Value := fs[b]?
/-- steps that read or write one cell: the length, the stack, the heap behind it -/
def sm_h (e : sm_E) (st : List Value) (h : sm_H) : Option (Nat × List Value × sm_H) := match e.1 with
  | .getfield _ => match st with
    | .ref a :: r => match h[a]? with
      | some (.inr (ci, fs)) => if ci = e.2.1 then match fs[e.2.2.1]? with
          | some v => some (3, v :: r, h)
          | none => none
        else none
      | _ => none
    | _ => none
  | .putfield _ => match st with
    | v :: .ref a :: r => match h[a]? with
      | some (.inr (ci, fs)) => if ci = e.2.1 ∧ e.2.2.1 < fs.length ∧ sm_fok (e.2.2.2 % 10) v = true then some (3, r, h.set a (.inr (ci, fs.set e.2.2.1 v))) else none
      | _ => none
    | _ => none
  | .arraylength => match st with
    | .ref a :: r => match h[a]? with
      | some (.inl (t, n, _)) => if t < 5 then some (1, .int (Int32.ofNat n) :: r, h) else none
      | _ => none
    | _ => none
  | .iaload => match st with
    | .int i :: .ref a :: r => match h[a]? with
      | some (.inl (t, n, .inl f)) => if t = 0 ∧ ¬ (i < 0 ∨ n ≤ i.toNatClampNeg) then some (1, .int (f i.toNatClampNeg) :: r, h) else none
      | _ => none
    | _ => none
  | .iastore => match st with
    | .int x :: .int i :: .ref a :: r => match h[a]? with
      | some (.inl (t, n, .inl f)) => if t = 0 ∧ ¬ (i < 0 ∨ n ≤ i.toNatClampNeg) then some (1, r, h.set a (.inl (t, n, .inl (upd f i.toNatClampNeg x)))) else none
      | _ => none
    | _ => none
  | .laload => match st with
    | .int i :: .ref a :: r => match h[a]? with
      | some (.inl (t, n, .inr (.inl f))) => if t = 1 ∧ ¬ (i < 0 ∨ n ≤ i.toNatClampNeg) then some (1, .long (f i.toNatClampNeg) :: r, h) else none
      | _ => none
    | _ => none
  | .lastore => match st with
    | .long x :: .int i :: .ref a :: r => match h[a]? with
      | some (.inl (t, n, .inr (.inl f))) => if t = 1 ∧ ¬ (i < 0 ∨ n ≤ i.toNatClampNeg) then some (1, r, h.set a (.inl (t, n, .inr (.inl (vp_updL f i.toNatClampNeg x))))) else none
      | _ => none
    | _ => none
  | .aaload => match st with
    | .int i :: .ref a :: r => match h[a]? with
      | some (.inl (t, n, .inr (.inr (.inr (.inr f))))) => if (t = 2 ∨ t = 3 ∨ t = 4) ∧ ¬ (i < 0 ∨ n ≤ i.toNatClampNeg) then some (1, va_rf (f i.toNatClampNeg) :: r, h) else none
      | _ => none
    | _ => none
  | _ => none
