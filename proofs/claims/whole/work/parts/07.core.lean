/-! AN ABSTRACT MACHINE OVER BLOCKS OF INSTRUCTIONS: what a method's code does to locals, stack and a heap of typed cells; sound over the machine (part sound) -/
abbrev am_H : Type := Nat → Option va_E
abbrev am_K : Type := Option Value → am_H → Nat → Prop
abbrev am_C : Type := Nat × Nat
abbrev am_N : Type := List Value → List Value → am_H → Nat → am_C → Prop
abbrev am_CT : Type := Nat → List Value → am_H → Nat → am_K → Prop
/-- no value: what a local holds that is not to be read -/
def am_U : Value := .retAddr 0
/-- abstract addresses from here on are the run's own objects, those below are constants -/
def am_own (a : Nat) : Prop := 64 ≤ a
def am_lget : List Value → Nat → Value
  | [], _ => am_U
  | v :: _, 0 => v
  | _ :: t, k + 1 => am_lget t k
def am_inv : Value → Value
  | .long _ => am_U
  | .double _ => am_U
  | v => v
def am_lset1 : List Value → Nat → Value → List Value
  | [], _, _ => []
  | _ :: t, 0, v => v :: t
  | w :: t, 1, v => am_inv w :: am_lset1 t 0 v
  | w :: t, k + 2, v => w :: am_lset1 t (k + 1) v
def am_cut : List Value → List Value
  | [] => []
  | _ :: t => am_U :: t
def am_lset2 : List Value → Nat → Value → List Value
  | [], _, _ => []
  | _ :: t, 0, v => v :: am_cut t
  | w :: t, 1, v => am_inv w :: am_lset2 t 0 v
  | w :: t, k + 2, v => w :: am_lset2 t (k + 1) v
def am_I (v : Value) (f : Int32 → Prop) : Prop := match v with
  | .int x => f x
  | _ => False
def am_L (v : Value) (f : Int64 → Prop) : Prop := match v with
  | .long x => f x
  | _ => False
def am_D (v : Value) (f : UInt64 → Prop) : Prop := match v with
  | .double x => f x
  | _ => False
def am_F (v : Value) (f : UInt32 → Prop) : Prop := match v with
  | .float x => f x
  | _ => False
def am_R (v : Value) (f : Value → Prop) : Prop := match v with
  | .ref a => f (.ref a)
  | .null => f .null
  | _ => False
/-- an array's contents -/
abbrev am_X : Type := (Nat → Int32) ⊕ (Nat → Int64) ⊕ (Nat → UInt32) ⊕ (Nat → UInt64) ⊕ (Nat → Option Nat)
def am_el (x : am_X) (j : Nat) : Value := match x with
  | .inl f => .int (f j)
  | .inr (.inl f) => .long (f j)
  | .inr (.inr (.inl f)) => .float (f j)
  | .inr (.inr (.inr (.inl f))) => .double (f j)
  | .inr (.inr (.inr (.inr f))) => va_rf (f j)
abbrev am_xi (f : Nat → Int32) : am_X := .inl f
abbrev am_xl (f : Nat → Int64) : am_X := .inr (.inl f)
abbrev am_xd (f : Nat → UInt64) : am_X := .inr (.inr (.inr (.inl f)))
abbrev am_xq (f : Nat → Option Nat) : am_X := .inr (.inr (.inr (.inr f)))
/-- the cells: an array of the type t with n elements; an object of the class ci -/
abbrev am_ar (t n : Nat) (x : am_X) : va_E := .inl (t, n, x)
abbrev am_ob (ci : Nat) (fs : List Value) : va_E := .inr (ci, fs)
def am_up (h : am_H) (a : Nat) (e : va_E) : am_H := fun b => if b = a then some e else h b
def am_z (t : Nat) : am_X := match t with
  | 0 => am_xi fun _ => 0
  | 1 => am_xl fun _ => 0
  | 2 => am_xd fun _ => 0
  | 3 => am_xi fun _ => 0
  | 4 => am_xi fun _ => 0
  | _ => am_xq fun _ => none
def am_in (i : Int32) (n : Nat) : Prop := ¬ i < 0 ∧ i.toNatClampNeg < n
def am_ia (h : am_H) (a t : Nat) (f : Nat → (Nat → Int32) → Prop) : Prop := match h a with
  | some (.inl (t', n, .inl g)) => t' = t ∧ f n g
  | _ => False
def am_la (h : am_H) (a t : Nat) (f : Nat → (Nat → Int64) → Prop) : Prop := match h a with
  | some (.inl (t', n, .inr (.inl g))) => t' = t ∧ f n g
  | _ => False
def am_da (h : am_H) (a t : Nat) (f : Nat → (Nat → UInt64) → Prop) : Prop := match h a with
  | some (.inl (t', n, .inr (.inr (.inr (.inl g))))) => t' = t ∧ f n g
  | _ => False
def am_qa (h : am_H) (a t : Nat) (f : Nat → (Nat → Option Nat) → Prop) : Prop := match h a with
  | some (.inl (t', n, .inr (.inr (.inr (.inr g))))) => t' = t ∧ f n g
  | _ => False
def am_an (h : am_H) (a : Nat) (f : Nat → Prop) : Prop := match h a with
  | some (.inl (_, n, _)) => f n
  | _ => False
def am_oa (h : am_H) (a ci : Nat) (f : List Value → Prop) : Prop := match h a with
  | some (.inr (ci', fs)) => ci' = ci ∧ f fs
  | _ => False
/-- a field's kind takes this value as it is: 0 int, 1 boolean, 2 long, 3 double, 4 byte, 5 a reference -/
def am_okv (k : Nat) (v : Value) : Prop := match k, v with
  | 0, .int _ => True
  | 1, .int x => x = 0 ∨ x = 1
  | 2, .long _ => True
  | 3, .double _ => True
  | 4, .int x => x.toInt8.toInt32 = x
  | 5, .ref _ => True
  | 5, .null => True
  | _, _ => False
def am_cp {α : Type} (f g : Nat → α) (sp dp n : Nat) : Nat → α := fun j => if dp ≤ j ∧ j < dp + n then f (sp + (j - dp)) else g j
def am_if (c : Jvm.ClassFile.Cond) (x y : Int32) : Prop := match c with
  | .eq => x = y
  | .ne => ¬ x = y
  | .lt => x < y
  | .ge => y ≤ x
  | .gt => y < x
  | .le => x ≤ y
def am_sw (x : Int32) (BT : Nat → Prop) (d : Nat) : Int32 → List Nat → Prop
  | _, [] => BT d
  | k, t :: ts => (x = k → BT t) ∧ (¬ x = k → am_sw x BT d (k + 1) ts)
def am_sl (x : Int32) (BT : Nat → Prop) (d : Nat) : List (Int × Int) → List Nat → Prop
  | p :: ps, t :: ts => (x = Int32.ofInt p.1 → BT t) ∧ (¬ x = Int32.ofInt p.1 → am_sl x BT d ps ts)
  | _, _ => BT d
/-- the first k of a stack, the last pushed first; and what is below them -/
def am_pop : Nat → List Value → List Value → (List Value → List Value → Prop) → Prop
  | 0, as, st, f => f as st
  | k + 1, as, v :: st, f => am_pop k (v :: as) st f
  | _ + 1, _, [], _ => False
/-- what an answer is, by the method's return type: 0 nothing, 1 int, 2 boolean, 3 long, 4 double, 5 a reference, 6 char, 7 byte -/
def am_rt (k : Nat) (x : Int32) : Prop := match k with
  | 1 => True
  | 2 => x = 0 ∨ x = 1
  | 6 => (x.toUInt32 % 65536).toInt32 = x
  | 7 => x.toInt8.toInt32 = x
  | _ => False
def am_rets (rt : Nat) (v : Option Value) : Prop := match v with
  | none => rt = 0
  | some (.int x) => am_rt rt x
  | some (.long _) => rt = 3
  | some (.double _) => rt = 4
  | some (.ref _) => rt = 5
  | some .null => rt = 5
  | _ => False
def am_psh (r : Option Value) (st : List Value) : List Value := match r with
  | none => st
  | some v => v :: st
def am_b0 (c : am_C) (mc ms : Nat) (B : am_C) (f : am_C → Prop) : Prop := (mc = 0 ∧ ms = 0 → f c) ∧ (¬ (mc = 0 ∧ ms = 0) → c.1 + mc ≤ B.1 ∧ c.2 + ms ≤ B.2 ∧ f (c.1 + mc, c.2 + ms))
/-- how much may stand on the stack below a call of a kind -/
def am_lim : Nat → Nat
  | 2 => 8
  | _ => 4
/-- new fields of the classes -/
def am_dfv (ty : FieldType) : Value := defaultValue ty
/-- ONE INSTRUCTION: nx goes on behind it, BT at a block; CT calls; B the method's budget of cells and slots; rt its return type; K its end -/
def am_sem (CT : am_CT) (dfs : Nat → List Value) (BT : Nat → am_N) (B : am_C) (rt : Nat) (K : am_K) (i : am_AI) (nx : am_N) : am_N := fun ls st h n c =>
  match i.1 with
  | .nop => BT (am_x i 0) ls st h n c
  | .aconst_null => nx ls (.null :: st) h n c
  | .iconst _ => nx ls (i.2.1 :: st) h n c
  | .bipush _ => nx ls (i.2.1 :: st) h n c
  | .sipush _ => nx ls (i.2.1 :: st) h n c
  | .lconst _ => nx ls (i.2.1 :: st) h n c
  | .dconst _ => nx ls (i.2.1 :: st) h n c
  | .fconst _ => nx ls (i.2.1 :: st) h n c
  | .ldc _ => nx ls (i.2.1 :: st) h n c
  | .ldc_w _ => nx ls (i.2.1 :: st) h n c
  | .ldc2_w _ => nx ls (i.2.1 :: st) h n c
  | .getstatic _ => nx ls (i.2.1 :: st) h n c
  | .iload k => am_I (am_lget ls k) fun x => nx ls (.int x :: st) h n c
  | .iload_n k => am_I (am_lget ls k.val) fun x => nx ls (.int x :: st) h n c
  | .lload k => am_L (am_lget ls k) fun x => nx ls (.long x :: st) h n c
  | .lload_n k => am_L (am_lget ls k.val) fun x => nx ls (.long x :: st) h n c
  | .dload k => am_D (am_lget ls k) fun x => nx ls (.double x :: st) h n c
  | .dload_n k => am_D (am_lget ls k.val) fun x => nx ls (.double x :: st) h n c
  | .fload_n k => am_F (am_lget ls k.val) fun x => nx ls (.float x :: st) h n c
  | .aload k => am_R (am_lget ls k) fun v => nx ls (v :: st) h n c
  | .aload_n k => am_R (am_lget ls k.val) fun v => nx ls (v :: st) h n c
  | .istore k => match st with
    | .int x :: r => nx (am_lset1 ls k (.int x)) r h n c
    | _ => False
  | .istore_n k => match st with
    | .int x :: r => nx (am_lset1 ls k.val (.int x)) r h n c
    | _ => False
  | .lstore k => match st with
    | .long x :: r => nx (am_lset2 ls k (.long x)) r h n c
    | _ => False
  | .lstore_n k => match st with
    | .long x :: r => nx (am_lset2 ls k.val (.long x)) r h n c
    | _ => False
  | .dstore k => match st with
    | .double x :: r => nx (am_lset2 ls k (.double x)) r h n c
    | _ => False
  | .dstore_n k => match st with
    | .double x :: r => nx (am_lset2 ls k.val (.double x)) r h n c
    | _ => False
  | .fstore_n k => match st with
    | .float x :: r => nx (am_lset1 ls k.val (.float x)) r h n c
    | _ => False
  | .astore k => match st with
    | .ref x :: r => nx (am_lset1 ls k (.ref x)) r h n c
    | _ => False
  | .astore_n k => match st with
    | .ref x :: r => nx (am_lset1 ls k.val (.ref x)) r h n c
    | _ => False
  | .iinc k z => am_I (am_lget ls k) fun x => nx (am_lset1 ls k (.int (x + Int32.ofInt z))) st h n c
  | .dup => match st with
    | v :: r => v.category = 1 ∧ nx ls (v :: v :: r) h n c
    | _ => False
  | .dup_x1 => match st with
    | v :: w :: r => v.category = 1 ∧ w.category = 1 ∧ nx ls (v :: w :: v :: r) h n c
    | _ => False
  | .dup2 => match st with
    | v :: w :: r => v.category = 1 ∧ w.category = 1 ∧ nx ls (v :: w :: v :: w :: r) h n c
    | _ => False
  | .pop => match st with
    | v :: r => v.category = 1 ∧ nx ls r h n c
    | _ => False
  | .pop2 => match st with
    | v :: r => v.category = 2 ∧ nx ls r h n c
    | _ => False
  | .iadd => match st with
    | .int y :: .int x :: r => nx ls (.int (x + y) :: r) h n c
    | _ => False
  | .isub => match st with
    | .int y :: .int x :: r => nx ls (.int (x - y) :: r) h n c
    | _ => False
  | .imul => match st with
    | .int y :: .int x :: r => nx ls (.int (x * y) :: r) h n c
    | _ => False
  | .idiv => match st with
    | .int y :: .int x :: r => ¬ y = 0 ∧ nx ls (.int (x / y) :: r) h n c
    | _ => False
  | .irem => match st with
    | .int y :: .int x :: r => ¬ y = 0 ∧ nx ls (.int (x - x / y * y) :: r) h n c
    | _ => False
  | .ineg => match st with
    | .int x :: r => nx ls (.int (-x) :: r) h n c
    | _ => False
  | .iand => match st with
    | .int y :: .int x :: r => nx ls (.int (x &&& y) :: r) h n c
    | _ => False
  | .ior => match st with
    | .int y :: .int x :: r => nx ls (.int (x ||| y) :: r) h n c
    | _ => False
  | .ishl => match st with
    | .int y :: .int x :: r => nx ls (.int (x <<< (y &&& 31)) :: r) h n c
    | _ => False
  | .ishr => match st with
    | .int y :: .int x :: r => nx ls (.int (x >>> (y &&& 31)) :: r) h n c
    | _ => False
  | .ladd => match st with
    | .long y :: .long x :: r => nx ls (.long (x + y) :: r) h n c
    | _ => False
  | .lsub => match st with
    | .long y :: .long x :: r => nx ls (.long (x - y) :: r) h n c
    | _ => False
  | .lmul => match st with
    | .long y :: .long x :: r => nx ls (.long (x * y) :: r) h n c
    | _ => False
  | .ldiv => match st with
    | .long y :: .long x :: r => ¬ y = 0 ∧ nx ls (.long (x / y) :: r) h n c
    | _ => False
  | .lrem => match st with
    | .long y :: .long x :: r => ¬ y = 0 ∧ nx ls (.long (x - x / y * y) :: r) h n c
    | _ => False
  | .lneg => match st with
    | .long x :: r => nx ls (.long (-x) :: r) h n c
    | _ => False
  | .lcmp => match st with
    | .long y :: .long x :: r => nx ls (.int (lg_cmp x y) :: r) h n c
    | _ => False
  | .i2l => match st with
    | .int x :: r => nx ls (.long x.toInt64 :: r) h n c
    | _ => False
  | .l2i => match st with
    | .long x :: r => nx ls (.int x.toInt32 :: r) h n c
    | _ => False
  | .i2b => match st with
    | .int x :: r => nx ls (.int x.toInt8.toInt32 :: r) h n c
    | _ => False
  | .i2c => match st with
    | .int x :: r => nx ls (.int (x.toUInt32 % 65536).toInt32 :: r) h n c
    | _ => False
  | .i2d => match st with
    | .int x :: r => nx ls (.double (FP.i2d x) :: r) h n c
    | _ => False
  | .l2d => match st with
    | .long x :: r => nx ls (.double (FP.l2d x) :: r) h n c
    | _ => False
  | .l2f => match st with
    | .long x :: r => nx ls (.float (FP.l2f x) :: r) h n c
    | _ => False
  | .d2i => match st with
    | .double x :: r => nx ls (.int (FP.d2i x) :: r) h n c
    | _ => False
  | .d2l => match st with
    | .double x :: r => nx ls (.long (FP.d2l x) :: r) h n c
    | _ => False
  | .f2d => match st with
    | .float x :: r => ∀ y, alike64 y (FP.f2d x) = true → nx ls (.double y :: r) h n c
    | _ => False
  | .d2f => match st with
    | .double x :: r => ∀ y, alike32 y (FP.d2f x) = true → nx ls (.float y :: r) h n c
    | _ => False
  | .dadd => match st with
    | .double y :: .double x :: r => ∀ z, alike64 z (FP.dadd x y) = true → nx ls (.double z :: r) h n c
    | _ => False
  | .dsub => match st with
    | .double y :: .double x :: r => ∀ z, alike64 z (FP.dsub x y) = true → nx ls (.double z :: r) h n c
    | _ => False
  | .dmul => match st with
    | .double y :: .double x :: r => ∀ z, alike64 z (FP.dmul x y) = true → nx ls (.double z :: r) h n c
    | _ => False
  | .ddiv => match st with
    | .double y :: .double x :: r => ∀ z, alike64 z (FP.ddiv x y) = true → nx ls (.double z :: r) h n c
    | _ => False
  | .dneg => match st with
    | .double x :: r => nx ls (.double (FP.dneg x) :: r) h n c
    | _ => False
  | .fneg => match st with
    | .float x :: r => nx ls (.float (FP.fneg x) :: r) h n c
    | _ => False
  | .dcmp op => match st with
    | .double y :: .double x :: r => nx ls (.int (Op.cmpValue (FP.dcmp x y) op) :: r) h n c
    | _ => False
  | .fcmp op => match st with
    | .float y :: .float x :: r => nx ls (.int (Op.cmpValue (FP.fcmp x y) op) :: r) h n c
    | _ => False
  | .goto _ => BT (am_x i 0) ls st h n c
  | .ifCond cc _ => match st with
    | .int x :: r => (am_if cc x 0 → BT (am_x i 0) ls r h n c) ∧ (¬ am_if cc x 0 → BT (am_x i 1) ls r h n c)
    | _ => False
  | .if_icmp cc _ => match st with
    | .int y :: .int x :: r => (am_if cc x y → BT (am_x i 0) ls r h n c) ∧ (¬ am_if cc x y → BT (am_x i 1) ls r h n c)
    | _ => False
  | .ifnonnull _ => match st with
    | .ref a :: r => (h a).isSome = true ∧ BT (am_x i 0) ls r h n c
    | _ => False
  | .tableswitch _ _ _ _ => match st, i.2.1 with
    | .int x :: r, .int lo => am_sw x (fun b => BT b ls r h n c) (am_x i 0) lo (i.2.2.drop 1)
    | _, _ => False
  | .lookupswitch _ ps => match st with
    | .int x :: r => am_sl x (fun b => BT b ls r h n c) (am_x i 0) ps.toList (i.2.2.drop 1)
    | _ => False
  | .getfield _ => match st with
    | .ref a :: r => am_oa h a (am_x i 0) fun fs => match fs[am_x i 1]? with
      | some v => ¬ v = am_U ∧ nx ls (v :: r) h n c
      | none => False
    | _ => False
  | .putfield _ => match st with
    | v :: .ref a :: r => am_oa h a (am_x i 0) fun fs => 64 ≤ a ∧ am_okv (am_x i 2) v ∧ (match fs[am_x i 1]? with
      | some w => ¬ w = am_U ∧ nx ls r (am_up h a (am_ob (am_x i 0) (fs.set (am_x i 1) v))) n c
      | none => False)
    | _ => False
  | .new _ => c.1 + 1 ≤ B.1 ∧ c.2 + am_x i 1 ≤ B.2 ∧ nx ls (.ref n :: st) (am_up h n (am_ob (am_x i 0) (dfs (am_x i 0)))) (n + 1) (c.1 + 1, c.2 + am_x i 1)
  | .newarray _ => match st with
    | .int x :: r => ¬ x < 0 ∧ x.toNatClampNeg ≤ 4096 ∧ c.1 + 1 ≤ B.1 ∧ c.2 + x.toNatClampNeg ≤ B.2 ∧ nx ls (.ref n :: r) (am_up h n (am_ar (am_x i 0) x.toNatClampNeg (am_z (am_x i 0)))) (n + 1) (c.1 + 1, c.2 + x.toNatClampNeg)
    | _ => False
  | .anewarray _ => match st with
    | .int x :: r => ¬ x < 0 ∧ x.toNatClampNeg ≤ 4096 ∧ c.1 + 1 ≤ B.1 ∧ c.2 + x.toNatClampNeg ≤ B.2 ∧ ∃ f : Nat → Option Nat, (∀ j, j < x.toNatClampNeg → f j = none) ∧ nx ls (.ref n :: r) (am_up h n (am_ar (am_x i 0) x.toNatClampNeg (am_xq f))) (n + 1) (c.1 + 1, c.2 + x.toNatClampNeg)
    | _ => False
  | .multianewarray _ _ => match st with
    | .int k :: .int x :: r => ¬ x < 0 ∧ ¬ k < 0 ∧ x.toNatClampNeg ≤ 4096 ∧ k.toNatClampNeg ≤ 4096 ∧ c.1 + (1 + x.toNatClampNeg) ≤ B.1 ∧ c.2 + (x.toNatClampNeg + x.toNatClampNeg * k.toNatClampNeg) ≤ B.2 ∧
        nx ls (.ref n :: r) (fun b => if b = n then some (am_ar (am_x i 0) x.toNatClampNeg (am_xq fun j => some (n + 1 + j))) else if n < b ∧ b < n + 1 + x.toNatClampNeg then some (am_ar (am_x i 1) k.toNatClampNeg (am_z (am_x i 1))) else h b) (n + 1 + x.toNatClampNeg) (c.1 + (1 + x.toNatClampNeg), c.2 + (x.toNatClampNeg + x.toNatClampNeg * k.toNatClampNeg))
    | _ => False
  | .arraylength => match st with
    | .ref a :: r => am_an h a fun k => nx ls (.int (Int32.ofNat k) :: r) h n c
    | _ => False
  | .iaload => match st with
    | .int j :: .ref a :: r => am_ia h a 0 fun k f => am_in j k ∧ nx ls (.int (f j.toNatClampNeg) :: r) h n c
    | _ => False
  | .baload => match st with
    | .int j :: .ref a :: r => am_ia h a (am_x i 0) fun k f => am_in j k ∧ nx ls (.int (f j.toNatClampNeg) :: r) h n c
    | _ => False
  | .laload => match st with
    | .int j :: .ref a :: r => am_la h a 1 fun k f => am_in j k ∧ nx ls (.long (f j.toNatClampNeg) :: r) h n c
    | _ => False
  | .daload => match st with
    | .int j :: .ref a :: r => am_da h a 2 fun k f => am_in j k ∧ nx ls (.double (f j.toNatClampNeg) :: r) h n c
    | _ => False
  | .aaload => match st with
    | .int j :: .ref a :: r => am_qa h a (am_x i 0) fun k f => am_in j k ∧ nx ls (va_rf (f j.toNatClampNeg) :: r) h n c
    | _ => False
  | .iastore => match st with
    | .int x :: .int j :: .ref a :: r => am_ia h a 0 fun k f => 64 ≤ a ∧ am_in j k ∧ nx ls r (am_up h a (am_ar 0 k (am_xi (va_up f j.toNatClampNeg x)))) n c
    | _ => False
  | .bastore => match st with
    | .int x :: .int j :: .ref a :: r => am_ia h a (am_x i 0) fun k f => 64 ≤ a ∧ am_in j k ∧ (am_x i 0 = 3 → x = 0 ∨ x = 1) ∧ nx ls r (am_up h a (am_ar (am_x i 0) k (am_xi (va_up f j.toNatClampNeg (if am_x i 0 = 3 then x else x.toInt8.toInt32))))) n c
    | _ => False
  | .lastore => match st with
    | .long x :: .int j :: .ref a :: r => am_la h a 1 fun k f => 64 ≤ a ∧ am_in j k ∧ nx ls r (am_up h a (am_ar 1 k (am_xl (va_up f j.toNatClampNeg x)))) n c
    | _ => False
  | .dastore => match st with
    | .double x :: .int j :: .ref a :: r => am_da h a 2 fun k f => 64 ≤ a ∧ am_in j k ∧ nx ls r (am_up h a (am_ar 2 k (am_xd (va_up f j.toNatClampNeg x)))) n c
    | _ => False
  | .aastore => match st with
    | .ref x :: .int j :: .ref a :: r => am_qa h a (am_x i 0) fun k f => 64 ≤ a ∧ am_in j k ∧ am_oa h x (am_x i 1) fun _ => nx ls r (am_up h a (am_ar (am_x i 0) k (am_xq (va_up f j.toNatClampNeg (some x))))) n c
    | _ => False
  | .checkcast _ => match st with
    | .ref a :: r => am_ia h a 4 fun _ _ => 64 ≤ a ∧ nx ls (.ref a :: r) h n c
    | _ => False
  | .return_ => match st with
    | [] => rt = 0 ∧ K none h n
    | _ => False
  | .ireturn => match st with
    | [.int x] => am_rt rt x ∧ K (some (.int x)) h n
    | _ => False
  | .lreturn => match st with
    | [.long x] => rt = 3 ∧ K (some (.long x)) h n
    | _ => False
  | .dreturn => match st with
    | [.double x] => rt = 4 ∧ K (some (.double x)) h n
    | _ => False
  | .areturn => match st with
    | [.ref a] => rt = 5 ∧ K (some (.ref a)) h n
    | _ => False
  | .invokestatic _ =>
    if am_x i 5 = 8 then (match st with
      | .int k :: .int dp :: .ref d :: .int sp :: .ref a :: r => ¬ sp < 0 ∧ ¬ dp < 0 ∧ ¬ k < 0 ∧ r.length ≤ 4 ∧ am_ia h a (am_x i 0) fun n0 f => am_ia h d (am_x i 0) fun n1 g => 64 ≤ d ∧ sp.toNatClampNeg + k.toNatClampNeg ≤ n0 ∧ dp.toNatClampNeg + k.toNatClampNeg ≤ n1 ∧ (am_x i 0 = 4 → ∀ j, j < k.toNatClampNeg → (f (sp.toNatClampNeg + j)).toInt8.toInt32 = f (sp.toNatClampNeg + j)) ∧
          nx ls r (am_up h d (am_ar (am_x i 0) n1 (am_xi (am_cp f g sp.toNatClampNeg dp.toNatClampNeg k.toNatClampNeg)))) n c
      | _ => False)
    else if am_x i 5 = 9 then (match st with
      | .float x :: r => r.length ≤ 4 ∧ nx ls (.int x.toInt32 :: r) h n c
      | _ => False)
    else am_pop (am_x i 1) [] st fun as r => r.length ≤ 4 ∧ am_b0 c (am_x i 2) (am_x i 3) B fun c' => CT (am_x i 0) as h n fun v h' n' => nx ls (am_psh v r) h' n' c'
  | .invokevirtual _ =>
    if am_x i 5 = 10 then (match st with
      | .ref a :: r => r.length ≤ 4 ∧ am_ia h a 4 fun k f => 64 ≤ a ∧ c.1 + 1 ≤ B.1 ∧ c.2 + k ≤ B.2 ∧ (∀ j, j < k → (f j).toInt8.toInt32 = f j) ∧ nx ls (.ref n :: r) (am_up h n (am_ar 4 k (am_xi f))) (n + 1) (c.1 + 1, c.2 + k)
      | _ => False)
    else am_pop (am_x i 1) [] st fun as r => match r with
      | .ref a :: r => am_oa h a (am_x i 4) fun _ => r.length ≤ am_lim (am_x i 5) ∧ am_b0 c (am_x i 2) (am_x i 3) B fun c' => CT (am_x i 0) (.ref a :: as) h n fun v h' n' => nx ls (am_psh v r) h' n' c'
      | _ => False
  | .invokespecial _ =>
    if am_x i 5 = 11 then (match st with
      | .ref a :: r => r.length ≤ 4 ∧ (h a).isSome = true ∧ nx ls r h n c
      | _ => False)
    else am_pop (am_x i 1) [] st fun as r => match r with
      | .ref a :: r => am_oa h a (am_x i 4) fun _ => r.length ≤ 4 ∧ am_b0 c (am_x i 2) (am_x i 3) B fun c' => CT (am_x i 0) (.ref a :: as) h n fun v h' n' => nx ls (am_psh v r) h' n' c'
      | _ => False
  | _ => False
def am_ex (CT : am_CT) (dfs : Nat → List Value) (BT : Nat → am_N) (B : am_C) (rt : Nat) (K : am_K) : List am_AI → am_N
  | [] => fun _ _ _ _ _ => False
  | i :: is => am_sem CT dfs BT B rt K i (am_ex CT dfs BT B rt K is)
