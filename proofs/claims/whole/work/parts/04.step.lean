/-! What the tables must be for a method, decided by program; and one instruction. -/
def iw_dec (cc : ByteArray) (pc : Nat) (ins : Instr) (len : Nat) : Bool := decide (decode cc pc = .ok (ins, len))
def iw_tyok (ty : FieldType) (t : Value) : Bool :=
  match t with
  | .retAddr 0 => decide (ty = .int)
  | .retAddr 1 => decide (ty = .boolean)
  | .retAddr 2 => decide (ty = .long)
  | .null => match ty with
    | .object _ => true
    | .array _ => true
    | _ => false
  | _ => false
/-- the row of a table says what the bytes say -/
def iw_ok (cl : List vw_C) (tyf : Nat → Nat → FieldType) (cc : ByteArray) (own nm : String) (pc : Nat) (e : iw_I) : Bool :=
  match e with
  | (ins, len, a, b, v) => match ins with
    | .iconst n => iw_dec cc pc (.iconst n) 1 && decide (v = .int (Int32.ofInt n))
    | .bipush n => iw_dec cc pc (.bipush n) 2 && decide (v = .int (Int8.ofInt n).toInt32)
    | .sipush n => iw_dec cc pc (.sipush n) 3 && decide (v = .int (Int16.ofInt n).toInt32)
    | .lconst n => iw_dec cc pc (.lconst n) 1 && decide (v = .long (Int64.ofNat (n : Nat)))
    | .ldc n => iw_dec cc pc (.ldc n) 2 && (match v with | .int _ => true | .retAddr 1 => decide (own = "IceLogs$Tape") && decide (n = 80) | _ => false)
    | .ldc_w n => iw_dec cc pc (.ldc_w n) 3 && (match v with | .int _ => true | _ => false)
    | .ldc2_w n => iw_dec cc pc (.ldc2_w n) 3 && (match v with | .long _ => true | _ => false)
    | .iload_n k => iw_dec cc pc (.iload_n k) 1 && decide ((k : Nat) = a)
    | .iload k => iw_dec cc pc (.iload k) 2 && decide (k = a)
    | .lload_n k => iw_dec cc pc (.lload_n k) 1 && decide ((k : Nat) = a)
    | .lload k => iw_dec cc pc (.lload k) 2 && decide (k = a)
    | .aload_n k => iw_dec cc pc (.aload_n k) 1 && decide ((k : Nat) = a)
    | .aload k => iw_dec cc pc (.aload k) 2 && decide (k = a)
    | .istore_n k => iw_dec cc pc (.istore_n k) 1 && decide ((k : Nat) = a)
    | .istore k => iw_dec cc pc (.istore k) 2 && decide (k = a)
    | .astore_n k => iw_dec cc pc (.astore_n k) 1 && decide ((k : Nat) = a)
    | .astore k => iw_dec cc pc (.astore k) 2 && decide (k = a)
    | .lstore_n k => iw_dec cc pc (.lstore_n k) 1 && decide ((k : Nat) = a)
    | .lstore k => iw_dec cc pc (.lstore k) 2 && decide (k = a)
    | .iinc k n => iw_dec cc pc (.iinc k n) 3 && (decide (k = a) && decide (v = .int (Int32.ofInt n)))
    | .goto off => iw_dec cc pc (.goto off) 3 && decide ((pc : Int) + off = (a : Int))
    | .ifCond cd off => iw_dec cc pc (.ifCond cd off) 3 && decide ((pc : Int) + off = (a : Int))
    | .if_icmp cd off => iw_dec cc pc (.if_icmp cd off) 3 && decide ((pc : Int) + off = (a : Int))
    | .tableswitch d lo hi offs => iw_dec cc pc (.tableswitch d lo hi offs) len && (decide ((pc : Int) + d = (a : Int)) && (decide (-2147483648 ≤ lo) && (decide (hi < 2147483648) && (decide (lo + offs.toList.length = hi + 1) && offs.toList.all (fun o => decide (0 ≤ (pc : Int) + o))))))
    | .lookupswitch d ps => iw_dec cc pc (.lookupswitch d ps) len && (decide ((pc : Int) + d = (a : Int)) && ((ps.toList.zip (ps.toList.drop 1)).all (fun (a, next) => a.1 < next.1) && ps.toList.all (fun q => decide (-2147483648 ≤ q.1) && (decide (q.1 < 2147483648) && decide (0 ≤ (pc : Int) + q.2)))))
    | .getfield i => iw_dec cc pc (.getfield i) 3 && (match cl[a]? with
      | some q => decide (b < q.2.2)
      | none => true)
    | .getstatic i => iw_dec cc pc (.getstatic i) 3
    | .putfield i => iw_dec cc pc (.putfield i) 3 && (match cl[a]? with
      | some q => decide (b < q.2.2) && (iw_tyok (tyf a b) v && (decide ((q.2.1 b).2.2.2 = false) || (decide (nm = "<init>") && decide ((q.2.1 b).1 = own))))
      | none => false)
    | .aastore => iw_dec cc pc .aastore 1 && (match cl[a]? with
      | some q => decide (q.1 = "IceLogs$Facts")
      | none => false)
    | .invokestatic i => iw_dec cc pc (.invokestatic i) 3
    | .invokespecial i => iw_dec cc pc (.invokespecial i) 3
    | i => iw_dec cc pc i 1
/-- the words of the tables that the row rests on -/
def iw_wd (cl : List vw_C) (own : String) (e : iw_I) : List Jvm.Cond :=
  match e with
  | (ins, _, a, b, v) => match ins with
    | .ldc i => match v with
      | .int x => [.constant own i x]
      | _ => []
    | .ldc_w i => match v with
      | .int x => [.constant own i x]
      | _ => []
    | .ldc2_w i => match v with
      | .long x => [.constantLong own i x]
      | _ => []
    | .getfield i => match cl[a]? with
      | some q => [.fieldLink own i (q.2.1 b).1 (q.2.1 b).2.1 (q.2.1 b).2.2.1]
      | none => match b with
        | 0 => [.fieldLink own i "java/lang/String" "value" "[B"]
        | _ => [.fieldLink own i "java/lang/String" "coder" "B"]
    | .getstatic i => match b with
      | 0 => [.fieldLink own i "java/lang/String" "COMPACT_STRINGS" "Z"]
      | _ => [.fieldLink own i "jdk/internal/util/Preconditions" "SIOOBE_FORMATTER" "Ljava/util/function/BiFunction;"]
    | .putfield i => match cl[a]? with
      | some q => [.fieldLink own i (q.2.1 b).1 (q.2.1 b).2.1 (q.2.1 b).2.2.1]
      | none => []
    | .invokestatic i => match a with
      | 1001 => [.methodLink own i Lib.Math.min.name, .static Lib.Math.min.name, .initialized "java/lang/Math", .code Lib.Math.min.name Lib.Math.min.code 2 (some .int)]
      | 1002 => [.methodLink own i Lib.Math.max.name, .static Lib.Math.max.name, .initialized "java/lang/Math", .code Lib.Math.max.name Lib.Math.max.code 2 (some .int)]
      | 1003 => [.methodLink own i Lib.Math.abs.name, .static Lib.Math.abs.name, .initialized "java/lang/Math", .code Lib.Math.abs.name Lib.Math.abs.code 1 (some .int)]
      | 1004 => [.methodLink own i arraycopyName, .native arraycopyName, .static arraycopyName, .initialized "java/lang/System"]
      | _ => []
    | .invokespecial i => [.methodLink own i objectInit, .instanceMethod objectInit, .code objectInit ⟨#[0xb1]⟩ 1 none]
    | _ => []
/-- a frame at work in a method -/
def iw_FR (TT : List Jvm.Cond) (cc : ByteArray) (own nm : String) (nL : Nat) (p : Program) (s : State) (m : MethodId) (args : Array Value) (meth : Method) (c : Code) : Prop :=
  p.tables.exec = Jvm.exec ∧ c.code = cc ∧ c.maxLocals = nL ∧ s.vm.findClass own = some m.cls ∧ (∀ w ∈ TT, w.before args s = true) ∧ (nm = "<init>" → meth.name = nm)
/-- the tables of the classes -/
def iw_CL (TT : List Jvm.Cond) (cl : List vw_C) (tyf : Nat → Nat → FieldType) : Prop :=
  ∀ (ci : Nat) (q : vw_C), cl[ci]? = some q → (∀ w ∈ u_ws q.1 q.2.1 q.2.2, w ∈ TT) ∧ (∀ k, k < q.2.2 → parseFieldDescriptor (q.2.1 k).2.2.1 = some (tyf ci k)) ∧ (∀ a, a < q.2.2 → ∀ b, b < q.2.2 → a ≠ b → (q.2.1 a).2.1 ≠ (q.2.1 b).2.1)
/-- what a frame knows besides its world: the script, the String constant, two statics of the JDK -/
def iw_EV (nests : List (String × Nat × MethodName × String)) (σ : Nat → Nat) (sc : iw_S) (A : Nat → Prop) (s : State) (H0 : Heap) : Prop :=
  (∀ q, sc = some q → va_X (σ 0) q.1 q.2 s H0) ∧ σ 0 < H0.size ∧ ¬ A (σ 0) ∧ va_AO "IceLogs$Facts" s ∧ (∀ q ∈ nests, va_Nw (.methodLinkNest q.1 q.2.1 q.2.2.1 q.2.2.2) s) ∧ H0 = s.heap ∧
  vk_S 1 [105] [iw_by] (fun _ => σ 1) (fun _ => σ 2) A s H0 ∧ (∃ tx, vk_R "IceLogs$Tape" 80 tx (σ 1) s) ∧ va_Z "java/lang/String" "COMPACT_STRINGS" "Z" (.int 1) A s H0 ∧
  va_Z "jdk/internal/util/Preconditions" "SIOOBE_FORMATTER" "Ljava/util/function/BiFunction;" (iw_fm (σ 3)) A s H0
theorem iw_fit_ok {σ : Nat → Nat} {ty : FieldType} {t v : Value} (h : iw_tyok ty t = true) (hf : iw_fit t v = true) : narrow ty (iw_cv σ v) = iw_cv σ v ∧ fits ty (iw_cv σ v) = true := by
  unfold iw_fit at hf
  split at hf
  · simp only [iw_tyok, decide_eq_true_eq] at h
    subst h
    exact ⟨rfl, rfl⟩
  · simp only [iw_tyok, decide_eq_true_eq] at h
    subst h
    simp only [Bool.or_eq_true, decide_eq_true_eq] at hf
    rcases hf with rfl | rfl
    · exact ⟨rfl, rfl⟩
    · exact ⟨rfl, rfl⟩
  · simp only [iw_tyok, decide_eq_true_eq] at h
    subst h
    exact ⟨rfl, rfl⟩
  · cases ty <;> first | exact ⟨rfl, rfl⟩ | (simp [iw_tyok] at h)
  · cases hf
theorem iw_toI {lo : Int} (h1 : -2147483648 ≤ lo) (h2 : lo < 2147483648) : (Int32.ofInt lo).toInt = lo := by
  rw [Int32.toInt_ofInt, Int.bmod_def]
  have : (2 : Int) ^ 32 = 4294967296 := by decide
  simp only [Int32.size] at *
  omega
theorem iw_tsw_ok {β : Type} {x : Int32} {K : Nat → β} {d pc : Nat} : ∀ (os : List Int) (lo : Int), -2147483648 ≤ lo → lo + os.length ≤ 2147483648 →
    ((x.toInt < lo ∨ lo + os.length - 1 < x.toInt) ∧ iw_tsw x K d pc lo os = K d) ∨ (¬ x.toInt < lo ∧ ¬ lo + os.length - 1 < x.toInt ∧ ∃ o, os[(x.toInt - lo).toNat]? = some o ∧ iw_tsw x K d pc lo os = K ((pc : Int) + o).toNat) := by
  intro os
  induction os with
  | nil =>
    intro lo h1 h2
    refine Or.inl ⟨?_, rfl⟩
    simp only [List.length_nil]
    omega
  | cons o os ih =>
    intro lo h1 h2
    simp only [List.length_cons] at h2 ⊢
    by_cases hx : x = Int32.ofInt lo
    · have e : x.toInt = lo := by rw [hx]; exact iw_toI h1 (by omega)
      refine Or.inr ⟨by omega, by omega, o, ?_, ?_⟩
      · rw [e]; simp
      · unfold iw_tsw; rw [if_pos hx]
    · have e : x.toInt ≠ lo := fun z => hx (by rw [← Int32.toInt_inj, z, iw_toI h1 (by omega)])
      have e2 : iw_tsw x K d pc lo (o :: os) = iw_tsw x K d pc (lo + 1) os := by rw [iw_tsw, if_neg hx]
      rw [e2]
      rcases ih (lo + 1) (by omega) (by omega) with ⟨h3, h4⟩ | ⟨h3, h4, q, h5, h6⟩
      · exact Or.inl ⟨by omega, h4⟩
      · refine Or.inr ⟨by omega, by omega, q, ?_, h6⟩
        rw [show (x.toInt - lo).toNat = (x.toInt - (lo + 1)).toNat + 1 by omega]
        simpa using h5
