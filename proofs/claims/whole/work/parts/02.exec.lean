/-! A machine over lists: the class, the reference and the law run on it; part 03 and on show that the JVM model does what it does. -/
/-- a cell of the world: an array (its component type, its length and contents), or an object (number of its class, its fields); a reference is the place of a cell -/
abbrev iw_E : Type := (FieldType × vp_A) ⊕ (Nat × List Value)
abbrev iw_W : Type := List iw_E
abbrev iw_L : Type := List (Option Value)
/-- the script: only the law's own frame sees it -/
abbrev iw_S : Type := Option (Nat × (Nat → Int32))
/-- an instruction, its length, two numbers and a value that the tables resolve for it -/
abbrev iw_I : Type := Instr × Nat × Nat × Nat × Value
def iw_nth {α : Type} : List α → Nat → Option α
  | [], _ => none
  | a :: _, 0 => some a
  | _ :: l, n + 1 => iw_nth l n
def iw_set {α : Type} : List α → Nat → α → List α
  | [], _, _ => []
  | _ :: l, 0, x => x :: l
  | a :: l, n + 1, x => a :: iw_set l n x
theorem iw_nth_eq {α : Type} : ∀ (l : List α) (n : Nat), iw_nth l n = l[n]? := by
  intro l
  induction l with
  | nil => intro n; simp [iw_nth]
  | cons a l ih => intro n; cases n with
    | zero => simp [iw_nth]
    | succ n => simp [iw_nth, ih]
theorem iw_set_eq {α : Type} : ∀ (l : List α) (n : Nat) (x : α), iw_set l n x = l.set n x := by
  intro l
  induction l with
  | nil => intro n x; simp [iw_set]
  | cons a l ih => intro n x; cases n with
    | zero => simp [iw_set]
    | succ n => simp [iw_set, ih]
/-- the bytes of the one String constant -/
def iw_by : List Int32 := [108, 97, 110, 100, 32, 101, 100, 103, 101, 32, 115, 104, 97, 114, 101, 32, 119, 104, 97, 108, 101, 32, 108, 101, 97, 100, 32, 105, 102, 32, 119, 97, 110, 116, 32, 115, 105, 103, 104, 116, 32, 109, 111, 118, 101, 32, 98, 105, 114, 116, 104, 115, 32, 111, 114, 32, 97, 110, 100, 32, 110, 111, 116, 32, 120, 32, 121, 32, 119, 101, 101, 107, 32, 121, 101, 97, 114, 32, 110, 111, 105, 115, 101, 32, 111, 102, 102, 32, 119, 104, 97, 108, 101, 115, 32, 105, 99, 101, 32, 112, 114, 105, 99, 101, 32]
/-- an index that is in -/
def iw_ib (i : Int32) (n : Nat) : Bool := decide (0 ≤ i.toInt) && decide (i.toInt < n)
theorem iw_ib_in {i : Int32} {n : Nat} (h : iw_ib i n = true) : vp_in i n := by
  simp only [iw_ib, Bool.and_eq_true, decide_eq_true_eq] at h
  exact vp_in_iff.mpr h
/-- what a slot holds when the next one is written: a long goes -/
def iw_kp : Option (Option Value) → Option Value
  | some (some (.long _)) => none
  | some (some (.double _)) => none
  | some o => o
  | none => none
/-- a value of one slot comes into the locals -/
def iw_st1 (L : iw_L) (i : Nat) (v : Value) : Option iw_L :=
  match iw_nth L i with
  | none => none
  | some _ => match i with
    | 0 => some (iw_set L 0 (some v))
    | j + 1 => some (iw_set (iw_set L j (iw_kp (iw_nth L j))) (j + 1) (some v))
/-- a long -/
def iw_st2 (L : iw_L) (i : Nat) (v : Value) : Option iw_L :=
  match iw_nth L (i + 1) with
  | none => none
  | some _ => match i with
    | 0 => some (iw_set (iw_set L 0 (some v)) 1 none)
    | j + 1 => some (iw_set (iw_set (iw_set L j (iw_kp (iw_nth L j))) (j + 1) (some v)) (j + 2) none)
abbrev iw_C : Type := Nat × iw_L × List Value × iw_W
def iw_i2 (f : Int32 → Int32 → Int32) (pc : Nat) (L : iw_L) (st : List Value) (w : iw_W) : Option iw_C :=
  match st with
  | .int y :: .int x :: r => some (pc + 1, L, .int (f x y) :: r, w)
  | _ => none
def iw_i1 (f : Int32 → Int32) (pc : Nat) (L : iw_L) (st : List Value) (w : iw_W) : Option iw_C :=
  match st with
  | .int x :: r => some (pc + 1, L, .int (f x) :: r, w)
  | _ => none
def iw_l2 (f : Int64 → Int64 → Int64) (pc : Nat) (L : iw_L) (st : List Value) (w : iw_W) : Option iw_C :=
  match st with
  | .long y :: .long x :: r => some (pc + 1, L, .long (f x y) :: r, w)
  | _ => none
def iw_ldi (pc i : Nat) (L : iw_L) (st : List Value) (w : iw_W) : Option iw_C :=
  match iw_nth L i with
  | some (some (.int x)) => some (pc, L, .int x :: st, w)
  | _ => none
def iw_ldl (pc i : Nat) (L : iw_L) (st : List Value) (w : iw_W) : Option iw_C :=
  match iw_nth L i with
  | some (some (.long x)) => some (pc, L, .long x :: st, w)
  | _ => none
def iw_lda (pc i : Nat) (L : iw_L) (st : List Value) (w : iw_W) : Option iw_C :=
  match iw_nth L i with
  | some (some (.ref x)) => some (pc, L, .ref x :: st, w)
  | some (some (.retAddr x)) => bif Nat.blt x 3 then some (pc, L, .retAddr x :: st, w) else none
  | _ => none
def iw_sti (pc i : Nat) (L : iw_L) (st : List Value) (w : iw_W) : Option iw_C :=
  match st with
  | .int x :: r => match iw_st1 L i (.int x) with
    | some L' => some (pc, L', r, w)
    | none => none
  | _ => none
def iw_sta (pc i : Nat) (L : iw_L) (st : List Value) (w : iw_W) : Option iw_C :=
  match st with
  | .ref x :: r => match iw_st1 L i (.ref x) with
    | some L' => some (pc, L', r, w)
    | none => none
  | _ => none
def iw_stl (pc i : Nat) (L : iw_L) (st : List Value) (w : iw_W) : Option iw_C :=
  match st with
  | .long x :: r => match iw_st2 L i (.long x) with
    | some L' => some (pc, L', r, w)
    | none => none
  | _ => none
/-- the value fits the field: its type as the table has it -/
def iw_fit : Value → Value → Bool
  | .retAddr 0, .int _ => true
  | .retAddr 1, .int x => decide (x = 0) || decide (x = 1)
  | .retAddr 2, .long _ => true
  | .null, .ref _ => true
  | _, _ => false
def iw_tsw {β : Type} (x : Int32) (K : Nat → β) (d pc : Nat) : Int → List Int → β
  | _, [] => K d
  | lo, o :: os => if x = Int32.ofInt lo then K ((pc : Int) + o).toNat else iw_tsw x K d pc (lo + 1) os
def iw_lsw {β : Type} (x : Int32) (K : Nat → β) (d pc : Nat) : List (Int × Int) → β
  | [] => K d
  | q :: os => if x = Int32.ofInt q.1 then K ((pc : Int) + q.2).toNat else iw_lsw x K d pc os
/-- one of the first n by its index, each way told by itself -/
def iw_sel {β : Type} (i : Int32) (K : Nat → β) (z : β) : Nat → Nat → β
  | _, 0 => z
  | j, n + 1 => if i = Int32.ofNat j then K j else iw_sel i K z (j + 1) n
def iw_if1 (c : Jvm.ClassFile.Cond) (t pc : Nat) (L : iw_L) (st : List Value) (w : iw_W) : Option iw_C :=
  match st with
  | .int x :: r => match c with
    | .eq => if x = 0 then some (t, L, r, w) else some (pc + 3, L, r, w)
    | .ne => if x = 0 then some (pc + 3, L, r, w) else some (t, L, r, w)
    | .lt => if x < 0 then some (t, L, r, w) else some (pc + 3, L, r, w)
    | .ge => if 0 ≤ x then some (t, L, r, w) else some (pc + 3, L, r, w)
    | .gt => if 0 < x then some (t, L, r, w) else some (pc + 3, L, r, w)
    | .le => if x ≤ 0 then some (t, L, r, w) else some (pc + 3, L, r, w)
  | _ => none
def iw_if2 (c : Jvm.ClassFile.Cond) (t pc : Nat) (L : iw_L) (st : List Value) (w : iw_W) : Option iw_C :=
  match st with
  | .int y :: .int x :: r => match c with
    | .eq => if x = y then some (t, L, r, w) else some (pc + 3, L, r, w)
    | .ne => if x = y then some (pc + 3, L, r, w) else some (t, L, r, w)
    | .lt => if x < y then some (t, L, r, w) else some (pc + 3, L, r, w)
    | .ge => if y ≤ x then some (t, L, r, w) else some (pc + 3, L, r, w)
    | .gt => if y < x then some (t, L, r, w) else some (pc + 3, L, r, w)
    | .le => if x ≤ y then some (t, L, r, w) else some (pc + 3, L, r, w)
  | _ => none
def iw_get (a b pc : Nat) (L : iw_L) (st : List Value) (w : iw_W) : Option iw_C :=
  match st with
  | .ref k :: r => match iw_nth w k with
    | some (.inr (ci, fs)) => bif Nat.beq ci a then (match iw_nth fs b with
      | some v => some (pc + 3, L, v :: r, w)
      | none => none) else none
    | _ => none
  | .retAddr 1 :: r => bif Nat.beq a 100 then (match b with
    | 0 => some (pc + 3, L, .retAddr 2 :: r, w)
    | 1 => some (pc + 3, L, .int 0 :: r, w)
    | _ => none) else none
  | _ => none
def iw_put (a b : Nat) (t : Value) (pc : Nat) (L : iw_L) (st : List Value) (w : iw_W) : Option iw_C :=
  match st with
  | v :: .ref k :: r => match iw_nth w k with
    | some (.inr (ci, fs)) => bif Nat.beq ci a then (match iw_nth fs b with
      | some _ => bif iw_fit t v then some (pc + 3, L, r, iw_set w k (.inr (ci, iw_set fs b v))) else none
      | none => none) else none
    | _ => none
  | _ => none
def iw_alen (sc : iw_S) (pc : Nat) (L : iw_L) (st : List Value) (w : iw_W) : Option iw_C :=
  match st with
  | .ref k :: r => match iw_nth w k with
    | some (.inl (_, n, _)) => some (pc + 1, L, .int (Int32.ofNat n) :: r, w)
    | _ => none
  | .retAddr 0 :: r => match sc with
    | some q => some (pc + 1, L, .int (Int32.ofNat q.1) :: r, w)
    | none => none
  | .retAddr 2 :: r => some (pc + 1, L, .int 105 :: r, w)
  | _ => none
def iw_iald (sc : iw_S) (pc : Nat) (L : iw_L) (st : List Value) (w : iw_W) : Option iw_C :=
  match st with
  | .int i :: .ref k :: r => match iw_nth w k with
    | some (.inl (.int, n, .inl f)) => bif iw_ib i n then some (pc + 1, L, .int (f i.toNatClampNeg) :: r, w) else none
    | _ => none
  | .int i :: .retAddr 0 :: r => match sc with
    | some q => bif iw_ib i q.1 then some (pc + 1, L, .int (q.2 i.toNatClampNeg) :: r, w) else none
    | none => none
  | _ => none
def iw_bald (pc : Nat) (L : iw_L) (st : List Value) (w : iw_W) : Option iw_C :=
  match st with
  | .int i :: .ref k :: r => match iw_nth w k with
    | some (.inl (.boolean, n, .inl f)) => bif iw_ib i n then some (pc + 1, L, .int (f i.toNatClampNeg) :: r, w) else none
    | some (.inl (.byte, n, .inl f)) => bif iw_ib i n then some (pc + 1, L, .int (f i.toNatClampNeg) :: r, w) else none
    | _ => none
  | .int i :: .retAddr 2 :: r => bif iw_ib i 105 then some (pc + 1, L, .int (iw_by.getD i.toNatClampNeg 0) :: r, w) else none
  | _ => none
def iw_lald (pc : Nat) (L : iw_L) (st : List Value) (w : iw_W) : Option iw_C :=
  match st with
  | .int i :: .ref k :: r => match iw_nth w k with
    | some (.inl (.long, n, .inr (.inl f))) => bif iw_ib i n then some (pc + 1, L, .long (f i.toNatClampNeg) :: r, w) else none
    | _ => none
  | _ => none
def iw_aald (pc : Nat) (L : iw_L) (st : List Value) (w : iw_W) : Option iw_C :=
  match st with
  | .int i :: .ref k :: r => match iw_nth w k with
    | some (.inl (.object _, n, .inr (.inr (.inr (.inr f))))) => bif Nat.ble n 1000 then iw_sel i (fun j => some (pc + 1, L, va_rf (f j) :: r, w)) none 0 n else none
    | _ => none
  | _ => none
def iw_iast (pc : Nat) (L : iw_L) (st : List Value) (w : iw_W) : Option iw_C :=
  match st with
  | .int x :: .int i :: .ref k :: r => match iw_nth w k with
    | some (.inl (.int, n, .inl f)) => bif iw_ib i n then some (pc + 1, L, r, iw_set w k (.inl (.int, n, .inl (upd f i.toNatClampNeg x)))) else none
    | _ => none
  | _ => none
def iw_bast (pc : Nat) (L : iw_L) (st : List Value) (w : iw_W) : Option iw_C :=
  match st with
  | .int x :: .int i :: .ref k :: r => match iw_nth w k with
    | some (.inl (.boolean, n, .inl f)) => bif iw_ib i n then some (pc + 1, L, r, iw_set w k (.inl (.boolean, n, .inl (upd f i.toNatClampNeg (vp_nar .boolean x))))) else none
    | some (.inl (.byte, n, .inl f)) => bif iw_ib i n then some (pc + 1, L, r, iw_set w k (.inl (.byte, n, .inl (upd f i.toNatClampNeg (vp_nar .byte x))))) else none
    | _ => none
  | _ => none
def iw_last (pc : Nat) (L : iw_L) (st : List Value) (w : iw_W) : Option iw_C :=
  match st with
  | .long x :: .int i :: .ref k :: r => match iw_nth w k with
    | some (.inl (.long, n, .inr (.inl f))) => bif iw_ib i n then some (pc + 1, L, r, iw_set w k (.inl (.long, n, .inr (.inl (vp_updL f i.toNatClampNeg x))))) else none
    | _ => none
  | _ => none
def iw_aast (a pc : Nat) (L : iw_L) (st : List Value) (w : iw_W) : Option iw_C :=
  match st with
  | .ref z :: .int i :: .ref k :: r => match iw_nth w k, iw_nth w z with
    | some (.inl (.object C, n, .inr (.inr (.inr (.inr f))))), some (.inr (ci, _)) => bif iw_ib i n && decide (C = "IceLogs$Facts") && Nat.beq ci a then some (pc + 1, L, r, iw_set w k (.inl (.object C, n, .inr (.inr (.inr (.inr (va_up f i.toNatClampNeg (some z)))))))) else none
    | _, _ => none
  | _ => none
/-- System.arraycopy of ints -/
def iw_cpy (pc : Nat) (L : iw_L) (st : List Value) (w : iw_W) : Option iw_C :=
  match st with
  | .int n :: .int dp :: .ref k1 :: .int sp :: .ref k0 :: r => match iw_nth w k0, iw_nth w k1 with
    | some (.inl (.int, n0, .inl f)), some (.inl (.int, n1, .inl g)) =>
      bif decide (0 ≤ sp) && decide (0 ≤ dp) && decide (0 ≤ n) && decide (sp.toNatClampNeg + n.toNatClampNeg ≤ n0) && decide (dp.toNatClampNeg + n.toNatClampNeg ≤ n1) && Nat.ble r.length 4
      then some (pc + 3, L, r, iw_set w k1 (.inl (.int, n1, .inl (va_cpy f g sp.toNatClampNeg dp.toNatClampNeg n.toNatClampNeg)))) else none
    | _, _ => none
  | _ => none
/-- static methods of the JDK: 1001 min, 1002 max, 1003 abs, 1004 arraycopy -/
def iw_jdk (a pc : Nat) (L : iw_L) (st : List Value) (w : iw_W) : Option iw_C :=
  match a with
  | 1001 => match st with
    | .int y :: .int x :: r => bif Nat.ble r.length 4 then some (pc + 3, L, .int (if y < x then y else x) :: r, w) else none
    | _ => none
  | 1002 => match st with
    | .int y :: .int x :: r => bif Nat.ble r.length 4 then some (pc + 3, L, .int (if x < y then y else x) :: r, w) else none
    | _ => none
  | 1003 => match st with
    | .int x :: r => bif Nat.ble r.length 4 then some (pc + 3, L, .int (if 0 ≤ x then x else 0 - x) :: r, w) else none
    | _ => none
  | 1004 => iw_cpy pc L st w
  | _ => none
/-- one instruction that neither calls, makes nor returns -/
def iw_stp (sc : iw_S) (e : iw_I) (pc : Nat) (L : iw_L) (st : List Value) (w : iw_W) : Option iw_C :=
  match e with
  | (ins, len, a, b, v) => match ins with
    | .iconst _ => some (pc + 1, L, v :: st, w)
    | .bipush _ => some (pc + 2, L, v :: st, w)
    | .sipush _ => some (pc + 3, L, v :: st, w)
    | .lconst _ => some (pc + 1, L, v :: st, w)
    | .ldc _ => some (pc + 2, L, v :: st, w)
    | .ldc_w _ => some (pc + 3, L, v :: st, w)
    | .ldc2_w _ => some (pc + 3, L, v :: st, w)
    | .iload_n _ => iw_ldi (pc + 1) a L st w
    | .iload _ => iw_ldi (pc + 2) a L st w
    | .lload_n _ => iw_ldl (pc + 1) a L st w
    | .lload _ => iw_ldl (pc + 2) a L st w
    | .aload_n _ => iw_lda (pc + 1) a L st w
    | .aload _ => iw_lda (pc + 2) a L st w
    | .istore_n _ => iw_sti (pc + 1) a L st w
    | .istore _ => iw_sti (pc + 2) a L st w
    | .astore_n _ => iw_sta (pc + 1) a L st w
    | .astore _ => iw_sta (pc + 2) a L st w
    | .lstore_n _ => iw_stl (pc + 1) a L st w
    | .lstore _ => iw_stl (pc + 2) a L st w
    | .iadd => iw_i2 (fun x y => x + y) pc L st w
    | .isub => iw_i2 (fun x y => x - y) pc L st w
    | .imul => iw_i2 (fun x y => x * y) pc L st w
    | .iand => iw_i2 (fun x y => x &&& y) pc L st w
    | .ior => iw_i2 (fun x y => x ||| y) pc L st w
    | .ixor => iw_i2 (fun x y => x ^^^ y) pc L st w
    | .ishl => iw_i2 (fun x y => x <<< (y &&& 31)) pc L st w
    | .ishr => iw_i2 (fun x y => x >>> (y &&& 31)) pc L st w
    | .iushr => iw_i2 (fun x y => (x.toUInt32 >>> (y.toUInt32 &&& Int32.toUInt32 31)).toInt32) pc L st w
    | .idiv => match st with
      | .int y :: .int x :: r => if y = 0 then none else some (pc + 1, L, .int (x / y) :: r, w)
      | _ => none
    | .irem => match st with
      | .int y :: .int x :: r => if y = 0 then none else some (pc + 1, L, .int (x - x / y * y) :: r, w)
      | _ => none
    | .ineg => iw_i1 (fun x => -x) pc L st w
    | .i2b => iw_i1 (fun x => x.toInt8.toInt32) pc L st w
    | .i2c => iw_i1 (fun x => (x.toUInt32 % 65536).toInt32) pc L st w
    | .ladd => iw_l2 (fun x y => x + y) pc L st w
    | .lsub => iw_l2 (fun x y => x - y) pc L st w
    | .lmul => iw_l2 (fun x y => x * y) pc L st w
    | .lcmp => match st with
      | .long y :: .long x :: r => some (pc + 1, L, .int (lg_cmp x y) :: r, w)
      | _ => none
    | .i2l => match st with
      | .int x :: r => some (pc + 1, L, .long x.toInt64 :: r, w)
      | _ => none
    | .l2i => match st with
      | .long x :: r => some (pc + 1, L, .int x.toInt32 :: r, w)
      | _ => none
    | .iinc _ n => match iw_nth L a with
      | some (some (.int x)) => match v with
        | .int z => match iw_st1 L a (.int (x + z)) with
          | some L' => some (pc + 3, L', st, w)
          | none => none
        | _ => none
      | _ => none
    | .dup => match st with
      | .int x :: r => some (pc + 1, L, .int x :: .int x :: r, w)
      | .ref x :: r => some (pc + 1, L, .ref x :: .ref x :: r, w)
      | _ => none
    | .dup2 => match st with
      | .int x :: .ref y :: r => some (pc + 1, L, .int x :: .ref y :: .int x :: .ref y :: r, w)
      | _ => none
    | .pop => match st with
      | .int x :: r => some (pc + 1, L, r, w)
      | _ => none
    | .goto _ => some (a, L, st, w)
    | .ifCond cd _ => iw_if1 cd a pc L st w
    | .if_icmp cd _ => iw_if2 cd a pc L st w
    | .tableswitch _ lo _ offs => match st with
      | .int x :: r => iw_tsw x (fun t => some (t, L, r, w)) a pc lo offs.toList
      | _ => none
    | .lookupswitch _ ps => match st with
      | .int x :: r => iw_lsw x (fun t => some (t, L, r, w)) a pc ps.toList
      | _ => none
    | .getfield _ => iw_get a b pc L st w
    | .getstatic _ => match b with
      | 0 => some (pc + 3, L, .int 1 :: st, w)
      | _ => some (pc + 3, L, .retAddr 3 :: st, w)
    | .putfield _ => iw_put a b v pc L st w
    | .arraylength => iw_alen sc pc L st w
    | .iaload => iw_iald sc pc L st w
    | .baload => iw_bald pc L st w
    | .laload => iw_lald pc L st w
    | .aaload => iw_aald pc L st w
    | .iastore => iw_iast pc L st w
    | .bastore => iw_bast pc L st w
    | .lastore => iw_last pc L st w
    | .aastore => iw_aast a pc L st w
    | .invokestatic _ => iw_jdk a pc L st w
    | .invokespecial _ => match st with
      | .ref _ :: r => bif Nat.ble r.length 4 then some (pc + 3, L, r, w) else none
      | _ => none
    | _ => none
