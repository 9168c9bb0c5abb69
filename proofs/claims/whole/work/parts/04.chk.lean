/-! what a program decides of the methods' blocks: that they are the bytes' instructions, and that the tables say what those link -/
abbrev am_JC : Type := Jvm.Cond
def am_ow (m : am_Rec) : String := m.1.cls
def am_keep (w : Jvm.Cond) : Bool := goodWord w || (match w with
  | .fieldLinkNest .. => true
  | .methodLinkNest .. => true
  | .arrayOver _ => true
  | .castable .. => true
  | _ => false)
def am_W (i : am_AI) (k : Nat) (w : Jvm.Cond) : Bool := decide (am_tbl[am_x i k]? = some w) && am_keep w
def am_pc (m : am_Rec) (b : Nat) : Option Nat := (m.2.2.2.2.2.2[b]?).map (·.1)
def am_to (m : am_Rec) (pc : Nat) (off : Int) (b : Nat) : Bool := match am_pc m b with
  | some t => decide ((pc : Int) + off = (t : Int))
  | none => false
def am_tos (m : am_Rec) (pc : Nat) : List Int → List Nat → Bool
  | [], [] => true
  | o :: os, t :: ts => am_to m pc o t && am_tos m pc os ts
  | _, _ => false
def am_stat : List (String × String × String × Value) := [("java/lang/String", "COMPACT_STRINGS", "Z", .int 1), ("java/lang/Integer", "DigitOnes", "[B", .ref 40), ("java/lang/Integer", "DigitTens", "[B", .ref 41), ("jdk/internal/util/Preconditions", "SIOOBE_FORMATTER", "Ljava/util/function/BiFunction;", .ref 42)]
def am_fk (t : FieldType) : Nat := match t with
  | .int => 0
  | .boolean => 1
  | .long => 2
  | .double => 3
  | .byte => 4
  | .object _ => 5
  | .array _ => 5
  | _ => 9
def am_rtc (t : Option FieldType) : Nat := match t with
  | none => 0
  | some .int => 1
  | some .boolean => 2
  | some .long => 3
  | some .double => 4
  | some (.object _) => 5
  | some (.array _) => 5
  | some .char => 6
  | some .byte => 7
  | _ => 9
def am_cls (i : am_AI) (k : Nat) : String × u_T × Nat := vwCl.getD (am_x i k) ("", fun _ => ("", "", "", false), 0)
def am_noMH (s : String) : Bool := decide (s ≠ "java/lang/invoke/MethodHandle") && decide (s ≠ "java/lang/invoke/VarHandle")
def am_np (y : MethodName) (n : Nat) : Bool := decide ((parseMethodDescriptor y.desc).map (fun d => d.parameters.length) = some n)
/-- what any call's callee has: a record, its budget, few locals -/
def am_okC (i : am_AI) : Bool := decide (am_x i 0 < am_NM) && decide ((am_rec (am_x i 0)).2.2.2.2.1 = (am_x i 2, am_x i 3)) && decide ((am_rec (am_x i 0)).2.2.1 ≤ 41) && am_noMH (am_rec (am_x i 0)).1.cls && am_np (am_rec (am_x i 0)).1 (am_x i 1)
def am_code (m : am_Rec) : Jvm.Cond := .code m.1 m.2.1 m.2.2.1 m.2.2.2.1
def am_asc (ps : List (Int × Int)) : Bool := (ps.zip (ps.drop 1)).all (fun (a, next) => decide (a.1 < next.1))
def am_okI (m : am_Rec) (pc len : Nat) (i : am_AI) : Bool := match i.1 with
  | .aconst_null => len == 1
  | .iconst z => len == 1 && decide (i.2.1 = .int (Int32.ofInt z))
  | .bipush z => len == 2 && decide (i.2.1 = .int (Int8.ofInt z).toInt32)
  | .sipush z => len == 3 && decide (i.2.1 = .int (Int16.ofInt z).toInt32)
  | .lconst z => len == 1 && decide (i.2.1 = .long (Int64.ofNat (z : Nat)))
  | .dconst z => len == 1 && ((decide (z = 0) && decide (i.2.1 = .double FP.dconst0)) || (decide (z = 1) && decide (i.2.1 = .double FP.dconst1)))
  | .fconst z => len == 1 && decide (z = 0) && decide (i.2.1 = .float FP.fconst0)
  | .ldc k => len == 2 && (match i.2.1 with
    | .int v => am_W i 1 (.constant (am_ow m) k v)
    | v => match am_strs[am_x i 1]? with
      | some e => decide (e.1 = am_ow m) && decide (e.2.1 = k) && decide (v = .ref e.2.2.2)
      | none => false)
  | .ldc_w k => len == 3 && (match i.2.1 with
    | .int v => am_W i 1 (.constant (am_ow m) k v)
    | v => match am_strs[am_x i 1]? with
      | some e => decide (e.1 = am_ow m) && decide (e.2.1 = k) && decide (v = .ref e.2.2.2)
      | none => false)
  | .ldc2_w k => len == 3 && (match i.2.1 with
    | .long v => am_W i 1 (.constantLong (am_ow m) k v)
    | .double v => am_W i 1 (.constantDouble (am_ow m) k v)
    | _ => false)
  | .getstatic k => len == 3 && (match am_stat[am_x i 1]? with
    | some e => am_W i 0 (.fieldLink (am_ow m) k e.1 e.2.1 e.2.2.1) && decide (i.2.1 = e.2.2.2)
    | none => false)
  | .iload _ => len == 2
  | .lload _ => len == 2
  | .dload _ => len == 2
  | .aload _ => len == 2
  | .iload_n _ => len == 1
  | .lload_n _ => len == 1
  | .dload_n _ => len == 1
  | .fload_n _ => len == 1
  | .aload_n _ => len == 1
  | .istore k => len == 2 && decide (k < m.2.2.1)
  | .astore k => len == 2 && decide (k < m.2.2.1)
  | .lstore k => len == 2 && decide (k + 1 < m.2.2.1)
  | .dstore k => len == 2 && decide (k + 1 < m.2.2.1)
  | .istore_n k => len == 1 && decide ((k : Nat) < m.2.2.1)
  | .astore_n k => len == 1 && decide ((k : Nat) < m.2.2.1)
  | .fstore_n k => len == 1 && decide ((k : Nat) < m.2.2.1)
  | .lstore_n k => len == 1 && decide ((k : Nat) + 1 < m.2.2.1)
  | .dstore_n k => len == 1 && decide ((k : Nat) + 1 < m.2.2.1)
  | .iinc k _ => len == 3 && decide (k < m.2.2.1)
  | .goto off => len == 3 && am_to m pc off (am_x i 0)
  | .ifCond _ off => len == 3 && am_to m pc off (am_x i 0) && am_to m pc 3 (am_x i 1)
  | .if_icmp _ off => len == 3 && am_to m pc off (am_x i 0) && am_to m pc 3 (am_x i 1)
  | .ifnonnull off => len == 3 && am_to m pc off (am_x i 0)
  | .tableswitch d lo hi offs => (match i.2.1 with
    | .int l => decide (l.toInt = lo) && decide (-1000 ≤ lo) && decide (hi ≤ 1000) && decide (hi - lo + 1 = (offs.size : Int)) && am_to m pc d (am_x i 0) && am_tos m pc offs.toList (i.2.2.drop 1)
    | _ => false)
  | .lookupswitch d ps => am_asc ps.toList && ps.toList.all (fun q => decide (-1000 ≤ q.1) && decide (q.1 ≤ 1000)) && am_to m pc d (am_x i 0) && am_tos m pc (ps.toList.map (·.2)) (i.2.2.drop 1)
  | .getfield k => len == 3 && decide (am_x i 0 < 14) && decide (am_x i 1 < (am_cls i 0).2.2) && (if am_x i 3 = 0 then am_W i 2 (.fieldLink (am_ow m) k ((am_cls i 0).2.1 (am_x i 1)).1 ((am_cls i 0).2.1 (am_x i 1)).2.1 ((am_cls i 0).2.1 (am_x i 1)).2.2.1) else am_W i 2 (.fieldLinkNest (am_ow m) k ((am_cls i 0).2.1 (am_x i 1)).1 ((am_cls i 0).2.1 (am_x i 1)).2.1 ((am_cls i 0).2.1 (am_x i 1)).2.2.1 "MetricStore"))
  | .putfield k => len == 3 && decide (am_x i 0 < 14) && decide (am_x i 1 < (am_cls i 0).2.2) && decide (am_fk ((am_tyl.getD (am_x i 0) (fun _ => .int)) (am_x i 1)) = am_x i 2) && (if am_x i 4 = 0 then am_W i 3 (.fieldLink (am_ow m) k ((am_cls i 0).2.1 (am_x i 1)).1 ((am_cls i 0).2.1 (am_x i 1)).2.1 ((am_cls i 0).2.1 (am_x i 1)).2.2.1) else am_W i 3 (.fieldLinkNest (am_ow m) k ((am_cls i 0).2.1 (am_x i 1)).1 ((am_cls i 0).2.1 (am_x i 1)).2.1 ((am_cls i 0).2.1 (am_x i 1)).2.2.1 "MetricStore")) &&
      (!((am_cls i 0).2.1 (am_x i 1)).2.2.2 || (decide (m.1.name = "<init>") && decide (((am_cls i 0).2.1 (am_x i 1)).1 = am_ow m) && decide (am_x i 4 = 0)))
  | .new k => len == 3 && decide (am_x i 0 < 14) && decide ((am_cls i 0).2.2 = am_x i 1) && am_W i 2 (.classLink (am_ow m) k (am_cls i 0).1) && am_W i 3 (.instantiable (am_cls i 0).1 (am_x i 1)) && am_W i 4 (.initialized (am_cls i 0).1)
  | .newarray at' => len == 2 && decide (am_x i 0 < 5) && decide (newarray.typeOf at' = am_ty (am_x i 0)) && am_W i 1 (.arrayClass (am_ty (am_x i 0)))
  | .anewarray k => len == 3 && decide (5 ≤ am_x i 0) && (match am_ty (am_x i 0) with
    | .object C => am_W i 1 (.classLink (am_ow m) k C) && am_W i 2 (.arrayOver (.object C))
    | _ => false)
  | .multianewarray k dm => len == 4 && dm == 2 && decide (am_x i 1 < 2) && decide (5 ≤ am_x i 0) && decide (am_ty (am_x i 0) = .array (am_ty (am_x i 1))) && am_W i 2 (.classLink (am_ow m) k ("[" ++ (FieldType.array (am_ty (am_x i 1))).toString)) && am_W i 3 (.arrayOver (.array (am_ty (am_x i 1)))) && am_W i 4 (.arrayClass (am_ty (am_x i 1)))
  | .baload => len == 1 && (am_x i 0 == 3 || am_x i 0 == 4)
  | .bastore => len == 1 && (am_x i 0 == 3 || am_x i 0 == 4)
  | .aaload => len == 1 && (am_ty (am_x i 0)).isReference
  | .aastore => len == 1 && decide (am_x i 1 < 14) && decide (am_ty (am_x i 0) = .object (am_cls i 1).1)
  | .checkcast k => len == 3 && am_W i 0 (.classLink (am_ow m) k "[B")
  | .invokestatic k => len == 3 && (match am_x i 5 with
    | 0 => am_okC i && am_W i 6 (.methodLink (am_ow m) k (am_rec (am_x i 0)).1) && am_W i 7 (.static (am_rec (am_x i 0)).1) && am_W i 8 (.initialized (am_rec (am_x i 0)).1.cls) && am_W i 9 (am_code (am_rec (am_x i 0)))
    | 1 => am_okC i && am_W i 6 (.methodLinkNest (am_ow m) k (am_rec (am_x i 0)).1 "MetricStore") && am_W i 7 (.static (am_rec (am_x i 0)).1) && am_W i 8 (.initialized (am_rec (am_x i 0)).1.cls) && am_W i 9 (am_code (am_rec (am_x i 0)))
    | 8 => (am_x i 0 == 0 || am_x i 0 == 4) && am_W i 6 (.methodLink (am_ow m) k arraycopyName) && am_W i 7 (.native arraycopyName) && am_W i 8 (.static arraycopyName) && am_W i 9 (.initialized "java/lang/System")
    | 9 => am_W i 6 (.methodLink (am_ow m) k ⟨"java/lang/Float", "floatToRawIntBits", "(F)I"⟩) && am_W i 7 (.native ⟨"java/lang/Float", "floatToRawIntBits", "(F)I"⟩) && am_W i 8 (.static ⟨"java/lang/Float", "floatToRawIntBits", "(F)I"⟩) && am_W i 9 (.initialized "java/lang/Float")
    | _ => false)
  | .invokevirtual k => len == 3 && (match am_x i 5 with
    | 2 => am_okC i && decide (am_x i 4 < 14) && am_W i 6 (.methodLink (am_ow m) k (am_rec (am_x i 0)).1) && am_W i 7 (.instanceMethod (am_rec (am_x i 0)).1) && am_W i 8 (.selects (am_cls i 4).1 (am_rec (am_x i 0)).1 (am_rec (am_x i 0)).1) && am_W i 9 (.initialized (am_rec (am_x i 0)).1.cls) && am_W i 10 (am_code (am_rec (am_x i 0)))
    | 3 => am_okC i && decide (am_x i 4 < 14) && am_W i 6 (.methodLinkNest (am_ow m) k (am_rec (am_x i 0)).1 "MetricStore") && am_W i 7 (.instanceMethod (am_rec (am_x i 0)).1) && am_W i 8 (.selects (am_cls i 4).1 (am_rec (am_x i 0)).1 (am_rec (am_x i 0)).1) && am_W i 9 (.initialized (am_rec (am_x i 0)).1.cls) && am_W i 10 (am_code (am_rec (am_x i 0)))
    | 7 => am_okC i && decide (am_x i 4 < 14) && (match am_tbl[am_x i 6]? with
      | some (.methodLink _ _ x) => am_W i 6 (.methodLink (am_ow m) k x) && am_W i 7 (.sameMethod x.cls x.cls x.name x.desc) && am_W i 8 (.instanceMethod x) && am_W i 9 (.selects (am_cls i 4).1 x (am_rec (am_x i 0)).1) && am_noMH x.cls && am_np x (am_x i 1) && (match am_tbl[am_x i 13]? with
        | some (.code x' b n r) => decide (x' = x) && am_W i 13 (.code x' b n r)
        | _ => false)
      | _ => false) && am_W i 10 (.instanceMethod (am_rec (am_x i 0)).1) && am_W i 11 (.initialized (am_rec (am_x i 0)).1.cls) && am_W i 12 (am_code (am_rec (am_x i 0)))
    | 10 => am_W i 6 (.methodLink (am_ow m) k ⟨"[B", "clone", "()Ljava/lang/Object;"⟩) && am_W i 7 (.sameMethod "[B" "java/lang/Object" "clone" "()Ljava/lang/Object;") && am_W i 8 (.native ⟨"java/lang/Object", "clone", "()Ljava/lang/Object;"⟩) && am_W i 9 (.instanceMethod ⟨"java/lang/Object", "clone", "()Ljava/lang/Object;"⟩) && am_W i 10 (.selects "[B" ⟨"[B", "clone", "()Ljava/lang/Object;"⟩ ⟨"java/lang/Object", "clone", "()Ljava/lang/Object;"⟩) && am_W i 11 (.castable "[B" "java/lang/Cloneable")
    | _ => false)
  | .invokespecial k => len == 3 && (match am_x i 5 with
    | 4 => am_okC i && decide (am_x i 4 < 14) && decide ((am_rec (am_x i 0)).1.name = "<init>") && decide ((am_rec (am_x i 0)).2.2.2.1 = none) && am_W i 6 (.methodLink (am_ow m) k (am_rec (am_x i 0)).1) && am_W i 7 (.instanceMethod (am_rec (am_x i 0)).1) && am_W i 8 (.initialized (am_rec (am_x i 0)).1.cls) && am_W i 9 (am_code (am_rec (am_x i 0)))
    | 5 => am_okC i && decide (am_x i 4 < 14) && decide ((am_rec (am_x i 0)).1.name = "<init>") && decide ((am_rec (am_x i 0)).2.2.2.1 = none) && am_W i 6 (.methodLinkNest (am_ow m) k (am_rec (am_x i 0)).1 "MetricStore") && am_W i 7 (.instanceMethod (am_rec (am_x i 0)).1) && am_W i 8 (.initialized (am_rec (am_x i 0)).1.cls) && am_W i 9 (am_code (am_rec (am_x i 0)))
    | 6 => am_okC i && decide (am_x i 4 < 14) && decide ((am_rec (am_x i 0)).1.name ≠ "<init>") && am_W i 6 (.methodLink (am_ow m) k (am_rec (am_x i 0)).1) && am_W i 7 (.sameMethod (am_rec (am_x i 0)).1.cls (am_rec (am_x i 0)).1.cls (am_rec (am_x i 0)).1.name (am_rec (am_x i 0)).1.desc) && am_W i 8 (.superclass (am_ow m) (am_rec (am_x i 0)).1.cls) && am_W i 9 (.instanceMethod (am_rec (am_x i 0)).1) && am_W i 10 (.initialized (am_rec (am_x i 0)).1.cls) && am_W i 11 (am_code (am_rec (am_x i 0)))
    | 11 => am_W i 6 (.methodLink (am_ow m) k Lib.objectInit) && am_W i 7 (.instanceMethod Lib.objectInit) && am_W i 8 (.code Lib.objectInit ⟨#[0xb1]⟩ 1 none)
    | _ => false)
  | .dup => len == 1
  | .dup_x1 => len == 1
  | .dup2 => len == 1
  | .pop => len == 1
  | .pop2 => len == 1
  | .iadd => len == 1
  | .isub => len == 1
  | .imul => len == 1
  | .idiv => len == 1
  | .irem => len == 1
  | .ineg => len == 1
  | .iand => len == 1
  | .ior => len == 1
  | .ishl => len == 1
  | .ishr => len == 1
  | .ladd => len == 1
  | .lsub => len == 1
  | .lmul => len == 1
  | .ldiv => len == 1
  | .lrem => len == 1
  | .lneg => len == 1
  | .lcmp => len == 1
  | .i2l => len == 1
  | .l2i => len == 1
  | .i2b => len == 1
  | .i2c => len == 1
  | .i2d => len == 1
  | .l2d => len == 1
  | .l2f => len == 1
  | .d2i => len == 1
  | .d2l => len == 1
  | .f2d => len == 1
  | .d2f => len == 1
  | .dadd => len == 1
  | .dsub => len == 1
  | .dmul => len == 1
  | .ddiv => len == 1
  | .dneg => len == 1
  | .fneg => len == 1
  | .dcmp _ => len == 1
  | .fcmp _ => len == 1
  | .arraylength => len == 1
  | .iaload => len == 1
  | .laload => len == 1
  | .daload => len == 1
  | .iastore => len == 1
  | .lastore => len == 1
  | .dastore => len == 1
  | .return_ => len == 1
  | .ireturn => len == 1
  | .lreturn => len == 1
  | .dreturn => len == 1
  | .areturn => len == 1
  | _ => false
def am_okL (m : am_Rec) : Nat → List am_AI → Bool
  | _, [] => true
  | pc, i :: is => if i.1 = .nop then am_to m pc 0 (am_x i 0) else match decode m.2.1 pc with
    | .ok (j, len) => decide (j = i.1) && am_okI m pc len i && am_okL m (pc + len) is
    | .error _ => false
def am_okB (m : am_Rec) : Bool := decide (am_pc m 0 = some 0) && decide (am_rtc m.2.2.2.1 = m.2.2.2.2.2.1) && decide (m.2.2.2.2.2.1 ≠ 9)
def am_okM (m : am_Rec) : Bool := am_okB m && m.2.2.2.2.2.2.all (fun b => am_okL m b.1 b.2)
theorem am_okM_of {m : am_Rec} (h1 : am_okB m = true) (h2 : ∀ b ∈ m.2.2.2.2.2.2, am_okL m b.1 b.2 = true) : am_okM m = true := by
  unfold am_okM
  rw [h1, Bool.true_and]
  exact List.all_eq_true.mpr h2
