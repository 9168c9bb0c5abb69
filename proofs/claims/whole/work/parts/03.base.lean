/-! AN ABSTRACT MACHINE OVER BLOCKS OF INSTRUCTIONS: its words -/
abbrev am_AI : Type := Instr × Value × List Nat
/-- the array types by their numbers: 0 int, 1 long, 2 double, 3 boolean, 4 byte, 5 Step, 6 Series, 7 Row, 8 Sample, 9 Rollups, 10 Measures, 11 long[], 12 int[] -/
def am_tys : List FieldType := [.int, .long, .double, .boolean, .byte, .object "MetricStore$Step", .object "MetricStore$Series", .object "MetricStore$Row", .object "MetricStore$Sample", .object "MetricStore$Rollups", .object "MetricStore$Measures", .array .long, .array .int]
def am_ty (t : Nat) : FieldType := am_tys.getD t .int
def am_x (i : am_AI) (k : Nat) : Nat := i.2.2.getD k 0
