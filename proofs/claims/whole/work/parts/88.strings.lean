def ic_of (C : Nat) : Nat := match C with
  | 0 => 0
  | 1 => 1
  | 2 => 4
  | 3 => 7
  | 4 => 31
  | 5 => 34
  | 6 => 35
  | 7 => 36
  | 8 => 37
  | 9 => 38
  | 10 => 39
  | 11 => 40
  | 12 => 41
  | 13 => 42
  | 14 => 46
  | 15 => 50
  | 16 => 51
  | 17 => 52
  | 18 => 56
  | 19 => 57
  | 20 => 58
  | 21 => 59
  | 22 => 60
  | 23 => 61
  | _ => 62
def ic_adr (q : List Nat) (adK adV : Nat → Nat) (b : Nat) (C s t : Nat) : Nat := if C = 24 then adK s else if C = 25 then adV s else if C = 27 then b else q.getD (ic_of C + s * ic_nt C + t) 0
theorem ic_spot (xs : Nat → Int32) (L s j : Nat) (hs : s < 3) : -1 = (ic_g0 xs L).1 s (63 + j) := by
  show -1 = (if s < 3 then (if 63 ≤ 63 + j then -1 else ic_gs (63 + j)) else _)
  rw [if_pos hs, if_pos (by omega)]
theorem ic_row0 (xs : Nat → Int32) (L j : Nat) : (if j = 2 then 1 else if j = 4 then 1 else if j = 5 then 1 else if j = 6 then 8 else 0) = (ic_g0 xs L).1 (3 + 0) (0 + j) := by
  rw [Nat.zero_add]
  rfl
def ic_tm (i : Nat) : Term := .string "IronCall$Tokens" (ic_str.getD i (0, "")).1
def ic_gv : Cond := Jvm.Cond.and given_1 narrow_1
def ic_fl : List Cond := [(Jvm.Cond.count (1 : Nat)),
  (Jvm.Cond.isRef (Jvm.Term.arg (0 : Nat))),
  (Jvm.Cond.arrayOf (Jvm.Term.arg (0 : Nat)) Jvm.ClassFile.FieldType.int),
  (Jvm.Cond.le (Jvm.Term.length (Jvm.Term.arg (0 : Nat))) (Jvm.Term.int (3072 : Int32))),
  (Jvm.Cond.eq (Jvm.Term.static "java/lang/String" "COMPACT_STRINGS" "Z") (Jvm.Term.int (1 : Int32))),
  (Jvm.Cond.isRef (Jvm.Term.static "jdk/internal/util/Preconditions" "SIOOBE_FORMATTER" "Ljava/util/function/BiFunction;")),
  (Jvm.Cond.eq (Jvm.Term.static "java/lang/StringUTF16" "$assertionsDisabled" "Z") (Jvm.Term.int (1 : Int32))),
  (Jvm.Cond.eq (Jvm.Term.static "java/lang/StringUTF16" "HI_BYTE_SHIFT" "I") (Jvm.Term.int (0 : Int32))),
  (Jvm.Cond.eq (Jvm.Term.static "java/lang/StringUTF16" "LO_BYTE_SHIFT" "I") (Jvm.Term.int (8 : Int32))),
  (Jvm.Cond.not (Jvm.Cond.castable "IronCall" "IronCall$Thing")),
  (Jvm.Cond.not (Jvm.Cond.castable "IronCall$Street" "IronCall$Thing")),
  (Jvm.Cond.not (Jvm.Cond.castable "IronCall$Tape" "IronCall$Thing")),
  (Jvm.Cond.not (Jvm.Cond.castable "IronCall$Tokens" "IronCall$Thing")),
  (Jvm.Cond.not (Jvm.Cond.castable "IronCall$Reader" "IronCall$Thing")),
  (Jvm.Cond.not (Jvm.Cond.castable "IronCall$Sheet" "IronCall$Thing")),
  (Jvm.Cond.not (Jvm.Cond.castable "IronCallModel" "IronCall$Thing")),
  (Jvm.Cond.not (Jvm.Cond.castable "java/lang/String" "IronCall$Thing")),
  (Jvm.Cond.not (Jvm.Cond.castable "IronCall" "IronCall$Sheet")),
  (Jvm.Cond.not (Jvm.Cond.castable "IronCall$Street" "IronCall$Sheet")),
  (Jvm.Cond.not (Jvm.Cond.castable "IronCall$Thing" "IronCall$Sheet")),
  (Jvm.Cond.not (Jvm.Cond.castable "IronCall$Tape" "IronCall$Sheet")),
  (Jvm.Cond.not (Jvm.Cond.castable "IronCall$Tokens" "IronCall$Sheet")),
  (Jvm.Cond.not (Jvm.Cond.castable "IronCall$Reader" "IronCall$Sheet")),
  (Jvm.Cond.not (Jvm.Cond.castable "IronCallModel" "IronCall$Sheet")),
  (Jvm.Cond.not (Jvm.Cond.castable "java/lang/String" "IronCall$Sheet")),
  (Jvm.Cond.exactly (Jvm.Term.string "IronCall$Tokens" (73 : Nat)) "java/lang/String"),
  (Jvm.Cond.eq (Jvm.Term.field (Jvm.Term.string "IronCall$Tokens" (73 : Nat)) "java/lang/String" "coder" "B") (Jvm.Term.int (0 : Int32))),
  (Jvm.Cond.arrayOf (Jvm.Term.field (Jvm.Term.string "IronCall$Tokens" (73 : Nat)) "java/lang/String" "value" "[B") Jvm.ClassFile.FieldType.byte),
  (Jvm.Cond.eq (Jvm.Term.length (Jvm.Term.field (Jvm.Term.string "IronCall$Tokens" (73 : Nat)) "java/lang/String" "value" "[B")) (Jvm.Term.int (5 : Int32))),
  (Jvm.Cond.eq (Jvm.Term.elem (Jvm.Term.field (Jvm.Term.string "IronCall$Tokens" (73 : Nat)) "java/lang/String" "value" "[B") (Jvm.Term.int (0 : Int32))) (Jvm.Term.int (116 : Int32))),
  (Jvm.Cond.eq (Jvm.Term.elem (Jvm.Term.field (Jvm.Term.string "IronCall$Tokens" (73 : Nat)) "java/lang/String" "value" "[B") (Jvm.Term.int (1 : Int32))) (Jvm.Term.int (104 : Int32))),
  (Jvm.Cond.eq (Jvm.Term.elem (Jvm.Term.field (Jvm.Term.string "IronCall$Tokens" (73 : Nat)) "java/lang/String" "value" "[B") (Jvm.Term.int (2 : Int32))) (Jvm.Term.int (105 : Int32))),
  (Jvm.Cond.eq (Jvm.Term.elem (Jvm.Term.field (Jvm.Term.string "IronCall$Tokens" (73 : Nat)) "java/lang/String" "value" "[B") (Jvm.Term.int (3 : Int32))) (Jvm.Term.int (110 : Int32))),
  (Jvm.Cond.eq (Jvm.Term.elem (Jvm.Term.field (Jvm.Term.string "IronCall$Tokens" (73 : Nat)) "java/lang/String" "value" "[B") (Jvm.Term.int (4 : Int32))) (Jvm.Term.int (103 : Int32))),
  (Jvm.Cond.exactly (Jvm.Term.string "IronCall$Tokens" (75 : Nat)) "java/lang/String"),
  (Jvm.Cond.eq (Jvm.Term.field (Jvm.Term.string "IronCall$Tokens" (75 : Nat)) "java/lang/String" "coder" "B") (Jvm.Term.int (0 : Int32))),
  (Jvm.Cond.arrayOf (Jvm.Term.field (Jvm.Term.string "IronCall$Tokens" (75 : Nat)) "java/lang/String" "value" "[B") Jvm.ClassFile.FieldType.byte),
  (Jvm.Cond.eq (Jvm.Term.length (Jvm.Term.field (Jvm.Term.string "IronCall$Tokens" (75 : Nat)) "java/lang/String" "value" "[B")) (Jvm.Term.int (4 : Int32))),
  (Jvm.Cond.eq (Jvm.Term.elem (Jvm.Term.field (Jvm.Term.string "IronCall$Tokens" (75 : Nat)) "java/lang/String" "value" "[B") (Jvm.Term.int (0 : Int32))) (Jvm.Term.int (105 : Int32))),
  (Jvm.Cond.eq (Jvm.Term.elem (Jvm.Term.field (Jvm.Term.string "IronCall$Tokens" (75 : Nat)) "java/lang/String" "value" "[B") (Jvm.Term.int (1 : Int32))) (Jvm.Term.int (114 : Int32))),
  (Jvm.Cond.eq (Jvm.Term.elem (Jvm.Term.field (Jvm.Term.string "IronCall$Tokens" (75 : Nat)) "java/lang/String" "value" "[B") (Jvm.Term.int (2 : Int32))) (Jvm.Term.int (111 : Int32))),
  (Jvm.Cond.eq (Jvm.Term.elem (Jvm.Term.field (Jvm.Term.string "IronCall$Tokens" (75 : Nat)) "java/lang/String" "value" "[B") (Jvm.Term.int (3 : Int32))) (Jvm.Term.int (110 : Int32))),
  (Jvm.Cond.not (Jvm.Cond.eq (Jvm.Term.string "IronCall$Tokens" (73 : Nat)) (Jvm.Term.string "IronCall$Tokens" (75 : Nat)))),
  (Jvm.Cond.exactly (Jvm.Term.string "IronCall$Tokens" (77 : Nat)) "java/lang/String"),
  (Jvm.Cond.eq (Jvm.Term.field (Jvm.Term.string "IronCall$Tokens" (77 : Nat)) "java/lang/String" "coder" "B") (Jvm.Term.int (0 : Int32))),
  (Jvm.Cond.arrayOf (Jvm.Term.field (Jvm.Term.string "IronCall$Tokens" (77 : Nat)) "java/lang/String" "value" "[B") Jvm.ClassFile.FieldType.byte),
  (Jvm.Cond.eq (Jvm.Term.length (Jvm.Term.field (Jvm.Term.string "IronCall$Tokens" (77 : Nat)) "java/lang/String" "value" "[B")) (Jvm.Term.int (4 : Int32))),
  (Jvm.Cond.eq (Jvm.Term.elem (Jvm.Term.field (Jvm.Term.string "IronCall$Tokens" (77 : Nat)) "java/lang/String" "value" "[B") (Jvm.Term.int (0 : Int32))) (Jvm.Term.int (103 : Int32))),
  (Jvm.Cond.eq (Jvm.Term.elem (Jvm.Term.field (Jvm.Term.string "IronCall$Tokens" (77 : Nat)) "java/lang/String" "value" "[B") (Jvm.Term.int (1 : Int32))) (Jvm.Term.int (111 : Int32))),
  (Jvm.Cond.eq (Jvm.Term.elem (Jvm.Term.field (Jvm.Term.string "IronCall$Tokens" (77 : Nat)) "java/lang/String" "value" "[B") (Jvm.Term.int (2 : Int32))) (Jvm.Term.int (108 : Int32))),
  (Jvm.Cond.eq (Jvm.Term.elem (Jvm.Term.field (Jvm.Term.string "IronCall$Tokens" (77 : Nat)) "java/lang/String" "value" "[B") (Jvm.Term.int (3 : Int32))) (Jvm.Term.int (100 : Int32))),
  (Jvm.Cond.not (Jvm.Cond.eq (Jvm.Term.string "IronCall$Tokens" (73 : Nat)) (Jvm.Term.string "IronCall$Tokens" (77 : Nat)))),
  (Jvm.Cond.not (Jvm.Cond.eq (Jvm.Term.string "IronCall$Tokens" (75 : Nat)) (Jvm.Term.string "IronCall$Tokens" (77 : Nat)))),
  (Jvm.Cond.exactly (Jvm.Term.string "IronCall$Tokens" (79 : Nat)) "java/lang/String"),
  (Jvm.Cond.eq (Jvm.Term.field (Jvm.Term.string "IronCall$Tokens" (79 : Nat)) "java/lang/String" "coder" "B") (Jvm.Term.int (0 : Int32))),
  (Jvm.Cond.arrayOf (Jvm.Term.field (Jvm.Term.string "IronCall$Tokens" (79 : Nat)) "java/lang/String" "value" "[B") Jvm.ClassFile.FieldType.byte),
  (Jvm.Cond.eq (Jvm.Term.length (Jvm.Term.field (Jvm.Term.string "IronCall$Tokens" (79 : Nat)) "java/lang/String" "value" "[B")) (Jvm.Term.int (5 : Int32))),
  (Jvm.Cond.eq (Jvm.Term.elem (Jvm.Term.field (Jvm.Term.string "IronCall$Tokens" (79 : Nat)) "java/lang/String" "value" "[B") (Jvm.Term.int (0 : Int32))) (Jvm.Term.int (115 : Int32))),
  (Jvm.Cond.eq (Jvm.Term.elem (Jvm.Term.field (Jvm.Term.string "IronCall$Tokens" (79 : Nat)) "java/lang/String" "value" "[B") (Jvm.Term.int (1 : Int32))) (Jvm.Term.int (119 : Int32))),
  (Jvm.Cond.eq (Jvm.Term.elem (Jvm.Term.field (Jvm.Term.string "IronCall$Tokens" (79 : Nat)) "java/lang/String" "value" "[B") (Jvm.Term.int (2 : Int32))) (Jvm.Term.int (111 : Int32))),
  (Jvm.Cond.eq (Jvm.Term.elem (Jvm.Term.field (Jvm.Term.string "IronCall$Tokens" (79 : Nat)) "java/lang/String" "value" "[B") (Jvm.Term.int (3 : Int32))) (Jvm.Term.int (114 : Int32))),
  (Jvm.Cond.eq (Jvm.Term.elem (Jvm.Term.field (Jvm.Term.string "IronCall$Tokens" (79 : Nat)) "java/lang/String" "value" "[B") (Jvm.Term.int (4 : Int32))) (Jvm.Term.int (100 : Int32))),
  (Jvm.Cond.not (Jvm.Cond.eq (Jvm.Term.string "IronCall$Tokens" (73 : Nat)) (Jvm.Term.string "IronCall$Tokens" (79 : Nat)))),
  (Jvm.Cond.not (Jvm.Cond.eq (Jvm.Term.string "IronCall$Tokens" (75 : Nat)) (Jvm.Term.string "IronCall$Tokens" (79 : Nat)))),
  (Jvm.Cond.not (Jvm.Cond.eq (Jvm.Term.string "IronCall$Tokens" (77 : Nat)) (Jvm.Term.string "IronCall$Tokens" (79 : Nat)))),
  (Jvm.Cond.exactly (Jvm.Term.string "IronCall$Tokens" (81 : Nat)) "java/lang/String"),
  (Jvm.Cond.eq (Jvm.Term.field (Jvm.Term.string "IronCall$Tokens" (81 : Nat)) "java/lang/String" "coder" "B") (Jvm.Term.int (0 : Int32))),
  (Jvm.Cond.arrayOf (Jvm.Term.field (Jvm.Term.string "IronCall$Tokens" (81 : Nat)) "java/lang/String" "value" "[B") Jvm.ClassFile.FieldType.byte),
  (Jvm.Cond.eq (Jvm.Term.length (Jvm.Term.field (Jvm.Term.string "IronCall$Tokens" (81 : Nat)) "java/lang/String" "value" "[B")) (Jvm.Term.int (3 : Int32))),
  (Jvm.Cond.eq (Jvm.Term.elem (Jvm.Term.field (Jvm.Term.string "IronCall$Tokens" (81 : Nat)) "java/lang/String" "value" "[B") (Jvm.Term.int (0 : Int32))) (Jvm.Term.int (98 : Int32))),
  (Jvm.Cond.eq (Jvm.Term.elem (Jvm.Term.field (Jvm.Term.string "IronCall$Tokens" (81 : Nat)) "java/lang/String" "value" "[B") (Jvm.Term.int (1 : Int32))) (Jvm.Term.int (101 : Int32))),
  (Jvm.Cond.eq (Jvm.Term.elem (Jvm.Term.field (Jvm.Term.string "IronCall$Tokens" (81 : Nat)) "java/lang/String" "value" "[B") (Jvm.Term.int (2 : Int32))) (Jvm.Term.int (100 : Int32))),
  (Jvm.Cond.not (Jvm.Cond.eq (Jvm.Term.string "IronCall$Tokens" (73 : Nat)) (Jvm.Term.string "IronCall$Tokens" (81 : Nat)))),
  (Jvm.Cond.not (Jvm.Cond.eq (Jvm.Term.string "IronCall$Tokens" (75 : Nat)) (Jvm.Term.string "IronCall$Tokens" (81 : Nat)))),
  (Jvm.Cond.not (Jvm.Cond.eq (Jvm.Term.string "IronCall$Tokens" (77 : Nat)) (Jvm.Term.string "IronCall$Tokens" (81 : Nat)))),
  (Jvm.Cond.not (Jvm.Cond.eq (Jvm.Term.string "IronCall$Tokens" (79 : Nat)) (Jvm.Term.string "IronCall$Tokens" (81 : Nat)))),
  (Jvm.Cond.exactly (Jvm.Term.string "IronCall$Tokens" (83 : Nat)) "java/lang/String"),
  (Jvm.Cond.eq (Jvm.Term.field (Jvm.Term.string "IronCall$Tokens" (83 : Nat)) "java/lang/String" "coder" "B") (Jvm.Term.int (0 : Int32))),
  (Jvm.Cond.arrayOf (Jvm.Term.field (Jvm.Term.string "IronCall$Tokens" (83 : Nat)) "java/lang/String" "value" "[B") Jvm.ClassFile.FieldType.byte),
  (Jvm.Cond.eq (Jvm.Term.length (Jvm.Term.field (Jvm.Term.string "IronCall$Tokens" (83 : Nat)) "java/lang/String" "value" "[B")) (Jvm.Term.int (6 : Int32))),
  (Jvm.Cond.eq (Jvm.Term.elem (Jvm.Term.field (Jvm.Term.string "IronCall$Tokens" (83 : Nat)) "java/lang/String" "value" "[B") (Jvm.Term.int (0 : Int32))) (Jvm.Term.int (110 : Int32))),
  (Jvm.Cond.eq (Jvm.Term.elem (Jvm.Term.field (Jvm.Term.string "IronCall$Tokens" (83 : Nat)) "java/lang/String" "value" "[B") (Jvm.Term.int (1 : Int32))) (Jvm.Term.int (101 : Int32))),
  (Jvm.Cond.eq (Jvm.Term.elem (Jvm.Term.field (Jvm.Term.string "IronCall$Tokens" (83 : Nat)) "java/lang/String" "value" "[B") (Jvm.Term.int (2 : Int32))) (Jvm.Term.int (101 : Int32))),
  (Jvm.Cond.eq (Jvm.Term.elem (Jvm.Term.field (Jvm.Term.string "IronCall$Tokens" (83 : Nat)) "java/lang/String" "value" "[B") (Jvm.Term.int (3 : Int32))) (Jvm.Term.int (100 : Int32))),
  (Jvm.Cond.eq (Jvm.Term.elem (Jvm.Term.field (Jvm.Term.string "IronCall$Tokens" (83 : Nat)) "java/lang/String" "value" "[B") (Jvm.Term.int (4 : Int32))) (Jvm.Term.int (108 : Int32))),
  (Jvm.Cond.eq (Jvm.Term.elem (Jvm.Term.field (Jvm.Term.string "IronCall$Tokens" (83 : Nat)) "java/lang/String" "value" "[B") (Jvm.Term.int (5 : Int32))) (Jvm.Term.int (101 : Int32))),
  (Jvm.Cond.not (Jvm.Cond.eq (Jvm.Term.string "IronCall$Tokens" (73 : Nat)) (Jvm.Term.string "IronCall$Tokens" (83 : Nat)))),
  (Jvm.Cond.not (Jvm.Cond.eq (Jvm.Term.string "IronCall$Tokens" (75 : Nat)) (Jvm.Term.string "IronCall$Tokens" (83 : Nat)))),
  (Jvm.Cond.not (Jvm.Cond.eq (Jvm.Term.string "IronCall$Tokens" (77 : Nat)) (Jvm.Term.string "IronCall$Tokens" (83 : Nat)))),
  (Jvm.Cond.not (Jvm.Cond.eq (Jvm.Term.string "IronCall$Tokens" (79 : Nat)) (Jvm.Term.string "IronCall$Tokens" (83 : Nat)))),
  (Jvm.Cond.not (Jvm.Cond.eq (Jvm.Term.string "IronCall$Tokens" (81 : Nat)) (Jvm.Term.string "IronCall$Tokens" (83 : Nat)))),
  (Jvm.Cond.exactly (Jvm.Term.string "IronCall$Tokens" (85 : Nat)) "java/lang/String"),
  (Jvm.Cond.eq (Jvm.Term.field (Jvm.Term.string "IronCall$Tokens" (85 : Nat)) "java/lang/String" "coder" "B") (Jvm.Term.int (0 : Int32))),
  (Jvm.Cond.arrayOf (Jvm.Term.field (Jvm.Term.string "IronCall$Tokens" (85 : Nat)) "java/lang/String" "value" "[B") Jvm.ClassFile.FieldType.byte),
  (Jvm.Cond.eq (Jvm.Term.length (Jvm.Term.field (Jvm.Term.string "IronCall$Tokens" (85 : Nat)) "java/lang/String" "value" "[B")) (Jvm.Term.int (5 : Int32))),
  (Jvm.Cond.eq (Jvm.Term.elem (Jvm.Term.field (Jvm.Term.string "IronCall$Tokens" (85 : Nat)) "java/lang/String" "value" "[B") (Jvm.Term.int (0 : Int32))) (Jvm.Term.int (99 : Int32))),
  (Jvm.Cond.eq (Jvm.Term.elem (Jvm.Term.field (Jvm.Term.string "IronCall$Tokens" (85 : Nat)) "java/lang/String" "value" "[B") (Jvm.Term.int (1 : Int32))) (Jvm.Term.int (114 : Int32))),
  (Jvm.Cond.eq (Jvm.Term.elem (Jvm.Term.field (Jvm.Term.string "IronCall$Tokens" (85 : Nat)) "java/lang/String" "value" "[B") (Jvm.Term.int (2 : Int32))) (Jvm.Term.int (111 : Int32))),
  (Jvm.Cond.eq (Jvm.Term.elem (Jvm.Term.field (Jvm.Term.string "IronCall$Tokens" (85 : Nat)) "java/lang/String" "value" "[B") (Jvm.Term.int (3 : Int32))) (Jvm.Term.int (119 : Int32))),
  (Jvm.Cond.eq (Jvm.Term.elem (Jvm.Term.field (Jvm.Term.string "IronCall$Tokens" (85 : Nat)) "java/lang/String" "value" "[B") (Jvm.Term.int (4 : Int32))) (Jvm.Term.int (110 : Int32))),
  (Jvm.Cond.not (Jvm.Cond.eq (Jvm.Term.string "IronCall$Tokens" (73 : Nat)) (Jvm.Term.string "IronCall$Tokens" (85 : Nat)))),
  (Jvm.Cond.not (Jvm.Cond.eq (Jvm.Term.string "IronCall$Tokens" (75 : Nat)) (Jvm.Term.string "IronCall$Tokens" (85 : Nat)))),
  (Jvm.Cond.not (Jvm.Cond.eq (Jvm.Term.string "IronCall$Tokens" (77 : Nat)) (Jvm.Term.string "IronCall$Tokens" (85 : Nat)))),
  (Jvm.Cond.not (Jvm.Cond.eq (Jvm.Term.string "IronCall$Tokens" (79 : Nat)) (Jvm.Term.string "IronCall$Tokens" (85 : Nat)))),
  (Jvm.Cond.not (Jvm.Cond.eq (Jvm.Term.string "IronCall$Tokens" (81 : Nat)) (Jvm.Term.string "IronCall$Tokens" (85 : Nat)))),
  (Jvm.Cond.not (Jvm.Cond.eq (Jvm.Term.string "IronCall$Tokens" (83 : Nat)) (Jvm.Term.string "IronCall$Tokens" (85 : Nat)))),
  (Jvm.Cond.exactly (Jvm.Term.string "IronCall$Tokens" (87 : Nat)) "java/lang/String"),
  (Jvm.Cond.eq (Jvm.Term.field (Jvm.Term.string "IronCall$Tokens" (87 : Nat)) "java/lang/String" "coder" "B") (Jvm.Term.int (0 : Int32))),
  (Jvm.Cond.arrayOf (Jvm.Term.field (Jvm.Term.string "IronCall$Tokens" (87 : Nat)) "java/lang/String" "value" "[B") Jvm.ClassFile.FieldType.byte),
  (Jvm.Cond.eq (Jvm.Term.length (Jvm.Term.field (Jvm.Term.string "IronCall$Tokens" (87 : Nat)) "java/lang/String" "value" "[B")) (Jvm.Term.int (2 : Int32))),
  (Jvm.Cond.eq (Jvm.Term.elem (Jvm.Term.field (Jvm.Term.string "IronCall$Tokens" (87 : Nat)) "java/lang/String" "value" "[B") (Jvm.Term.int (0 : Int32))) (Jvm.Term.int (97 : Int32))),
  (Jvm.Cond.eq (Jvm.Term.elem (Jvm.Term.field (Jvm.Term.string "IronCall$Tokens" (87 : Nat)) "java/lang/String" "value" "[B") (Jvm.Term.int (1 : Int32))) (Jvm.Term.int (116 : Int32))),
  (Jvm.Cond.not (Jvm.Cond.eq (Jvm.Term.string "IronCall$Tokens" (73 : Nat)) (Jvm.Term.string "IronCall$Tokens" (87 : Nat)))),
  (Jvm.Cond.not (Jvm.Cond.eq (Jvm.Term.string "IronCall$Tokens" (75 : Nat)) (Jvm.Term.string "IronCall$Tokens" (87 : Nat)))),
  (Jvm.Cond.not (Jvm.Cond.eq (Jvm.Term.string "IronCall$Tokens" (77 : Nat)) (Jvm.Term.string "IronCall$Tokens" (87 : Nat)))),
  (Jvm.Cond.not (Jvm.Cond.eq (Jvm.Term.string "IronCall$Tokens" (79 : Nat)) (Jvm.Term.string "IronCall$Tokens" (87 : Nat)))),
  (Jvm.Cond.not (Jvm.Cond.eq (Jvm.Term.string "IronCall$Tokens" (81 : Nat)) (Jvm.Term.string "IronCall$Tokens" (87 : Nat)))),
  (Jvm.Cond.not (Jvm.Cond.eq (Jvm.Term.string "IronCall$Tokens" (83 : Nat)) (Jvm.Term.string "IronCall$Tokens" (87 : Nat)))),
  (Jvm.Cond.not (Jvm.Cond.eq (Jvm.Term.string "IronCall$Tokens" (85 : Nat)) (Jvm.Term.string "IronCall$Tokens" (87 : Nat)))),
  (Jvm.Cond.exactly (Jvm.Term.string "IronCall$Tokens" (89 : Nat)) "java/lang/String"),
  (Jvm.Cond.eq (Jvm.Term.field (Jvm.Term.string "IronCall$Tokens" (89 : Nat)) "java/lang/String" "coder" "B") (Jvm.Term.int (0 : Int32))),
  (Jvm.Cond.arrayOf (Jvm.Term.field (Jvm.Term.string "IronCall$Tokens" (89 : Nat)) "java/lang/String" "value" "[B") Jvm.ClassFile.FieldType.byte),
  (Jvm.Cond.eq (Jvm.Term.length (Jvm.Term.field (Jvm.Term.string "IronCall$Tokens" (89 : Nat)) "java/lang/String" "value" "[B")) (Jvm.Term.int (5 : Int32))),
  (Jvm.Cond.eq (Jvm.Term.elem (Jvm.Term.field (Jvm.Term.string "IronCall$Tokens" (89 : Nat)) "java/lang/String" "value" "[B") (Jvm.Term.int (0 : Int32))) (Jvm.Term.int (104 : Int32))),
  (Jvm.Cond.eq (Jvm.Term.elem (Jvm.Term.field (Jvm.Term.string "IronCall$Tokens" (89 : Nat)) "java/lang/String" "value" "[B") (Jvm.Term.int (1 : Int32))) (Jvm.Term.int (101 : Int32))),
  (Jvm.Cond.eq (Jvm.Term.elem (Jvm.Term.field (Jvm.Term.string "IronCall$Tokens" (89 : Nat)) "java/lang/String" "value" "[B") (Jvm.Term.int (2 : Int32))) (Jvm.Term.int (97 : Int32))),
  (Jvm.Cond.eq (Jvm.Term.elem (Jvm.Term.field (Jvm.Term.string "IronCall$Tokens" (89 : Nat)) "java/lang/String" "value" "[B") (Jvm.Term.int (3 : Int32))) (Jvm.Term.int (118 : Int32))),
  (Jvm.Cond.eq (Jvm.Term.elem (Jvm.Term.field (Jvm.Term.string "IronCall$Tokens" (89 : Nat)) "java/lang/String" "value" "[B") (Jvm.Term.int (4 : Int32))) (Jvm.Term.int (121 : Int32))),
  (Jvm.Cond.not (Jvm.Cond.eq (Jvm.Term.string "IronCall$Tokens" (73 : Nat)) (Jvm.Term.string "IronCall$Tokens" (89 : Nat)))),
  (Jvm.Cond.not (Jvm.Cond.eq (Jvm.Term.string "IronCall$Tokens" (75 : Nat)) (Jvm.Term.string "IronCall$Tokens" (89 : Nat)))),
  (Jvm.Cond.not (Jvm.Cond.eq (Jvm.Term.string "IronCall$Tokens" (77 : Nat)) (Jvm.Term.string "IronCall$Tokens" (89 : Nat)))),
  (Jvm.Cond.not (Jvm.Cond.eq (Jvm.Term.string "IronCall$Tokens" (79 : Nat)) (Jvm.Term.string "IronCall$Tokens" (89 : Nat)))),
  (Jvm.Cond.not (Jvm.Cond.eq (Jvm.Term.string "IronCall$Tokens" (81 : Nat)) (Jvm.Term.string "IronCall$Tokens" (89 : Nat)))),
  (Jvm.Cond.not (Jvm.Cond.eq (Jvm.Term.string "IronCall$Tokens" (83 : Nat)) (Jvm.Term.string "IronCall$Tokens" (89 : Nat)))),
  (Jvm.Cond.not (Jvm.Cond.eq (Jvm.Term.string "IronCall$Tokens" (85 : Nat)) (Jvm.Term.string "IronCall$Tokens" (89 : Nat)))),
  (Jvm.Cond.not (Jvm.Cond.eq (Jvm.Term.string "IronCall$Tokens" (87 : Nat)) (Jvm.Term.string "IronCall$Tokens" (89 : Nat)))),
  (Jvm.Cond.exactly (Jvm.Term.string "IronCall$Tokens" (91 : Nat)) "java/lang/String"),
  (Jvm.Cond.eq (Jvm.Term.field (Jvm.Term.string "IronCall$Tokens" (91 : Nat)) "java/lang/String" "coder" "B") (Jvm.Term.int (0 : Int32))),
  (Jvm.Cond.arrayOf (Jvm.Term.field (Jvm.Term.string "IronCall$Tokens" (91 : Nat)) "java/lang/String" "value" "[B") Jvm.ClassFile.FieldType.byte),
  (Jvm.Cond.eq (Jvm.Term.length (Jvm.Term.field (Jvm.Term.string "IronCall$Tokens" (91 : Nat)) "java/lang/String" "value" "[B")) (Jvm.Term.int (6 : Int32))),
  (Jvm.Cond.eq (Jvm.Term.elem (Jvm.Term.field (Jvm.Term.string "IronCall$Tokens" (91 : Nat)) "java/lang/String" "value" "[B") (Jvm.Term.int (0 : Int32))) (Jvm.Term.int (112 : Int32))),
  (Jvm.Cond.eq (Jvm.Term.elem (Jvm.Term.field (Jvm.Term.string "IronCall$Tokens" (91 : Nat)) "java/lang/String" "value" "[B") (Jvm.Term.int (1 : Int32))) (Jvm.Term.int (117 : Int32))),
  (Jvm.Cond.eq (Jvm.Term.elem (Jvm.Term.field (Jvm.Term.string "IronCall$Tokens" (91 : Nat)) "java/lang/String" "value" "[B") (Jvm.Term.int (2 : Int32))) (Jvm.Term.int (108 : Int32))),
  (Jvm.Cond.eq (Jvm.Term.elem (Jvm.Term.field (Jvm.Term.string "IronCall$Tokens" (91 : Nat)) "java/lang/String" "value" "[B") (Jvm.Term.int (3 : Int32))) (Jvm.Term.int (108 : Int32))),
  (Jvm.Cond.eq (Jvm.Term.elem (Jvm.Term.field (Jvm.Term.string "IronCall$Tokens" (91 : Nat)) "java/lang/String" "value" "[B") (Jvm.Term.int (4 : Int32))) (Jvm.Term.int (101 : Int32))),
  (Jvm.Cond.eq (Jvm.Term.elem (Jvm.Term.field (Jvm.Term.string "IronCall$Tokens" (91 : Nat)) "java/lang/String" "value" "[B") (Jvm.Term.int (5 : Int32))) (Jvm.Term.int (100 : Int32))),
  (Jvm.Cond.not (Jvm.Cond.eq (Jvm.Term.string "IronCall$Tokens" (73 : Nat)) (Jvm.Term.string "IronCall$Tokens" (91 : Nat)))),
  (Jvm.Cond.not (Jvm.Cond.eq (Jvm.Term.string "IronCall$Tokens" (75 : Nat)) (Jvm.Term.string "IronCall$Tokens" (91 : Nat)))),
  (Jvm.Cond.not (Jvm.Cond.eq (Jvm.Term.string "IronCall$Tokens" (77 : Nat)) (Jvm.Term.string "IronCall$Tokens" (91 : Nat)))),
  (Jvm.Cond.not (Jvm.Cond.eq (Jvm.Term.string "IronCall$Tokens" (79 : Nat)) (Jvm.Term.string "IronCall$Tokens" (91 : Nat)))),
  (Jvm.Cond.not (Jvm.Cond.eq (Jvm.Term.string "IronCall$Tokens" (81 : Nat)) (Jvm.Term.string "IronCall$Tokens" (91 : Nat)))),
  (Jvm.Cond.not (Jvm.Cond.eq (Jvm.Term.string "IronCall$Tokens" (83 : Nat)) (Jvm.Term.string "IronCall$Tokens" (91 : Nat)))),
  (Jvm.Cond.not (Jvm.Cond.eq (Jvm.Term.string "IronCall$Tokens" (85 : Nat)) (Jvm.Term.string "IronCall$Tokens" (91 : Nat)))),
  (Jvm.Cond.not (Jvm.Cond.eq (Jvm.Term.string "IronCall$Tokens" (87 : Nat)) (Jvm.Term.string "IronCall$Tokens" (91 : Nat)))),
  (Jvm.Cond.not (Jvm.Cond.eq (Jvm.Term.string "IronCall$Tokens" (89 : Nat)) (Jvm.Term.string "IronCall$Tokens" (91 : Nat)))),
  (Jvm.Cond.exactly (Jvm.Term.string "IronCall$Tokens" (93 : Nat)) "java/lang/String"),
  (Jvm.Cond.eq (Jvm.Term.field (Jvm.Term.string "IronCall$Tokens" (93 : Nat)) "java/lang/String" "coder" "B") (Jvm.Term.int (0 : Int32))),
  (Jvm.Cond.arrayOf (Jvm.Term.field (Jvm.Term.string "IronCall$Tokens" (93 : Nat)) "java/lang/String" "value" "[B") Jvm.ClassFile.FieldType.byte),
  (Jvm.Cond.eq (Jvm.Term.length (Jvm.Term.field (Jvm.Term.string "IronCall$Tokens" (93 : Nat)) "java/lang/String" "value" "[B")) (Jvm.Term.int (4 : Int32))),
  (Jvm.Cond.eq (Jvm.Term.elem (Jvm.Term.field (Jvm.Term.string "IronCall$Tokens" (93 : Nat)) "java/lang/String" "value" "[B") (Jvm.Term.int (0 : Int32))) (Jvm.Term.int (104 : Int32))),
  (Jvm.Cond.eq (Jvm.Term.elem (Jvm.Term.field (Jvm.Term.string "IronCall$Tokens" (93 : Nat)) "java/lang/String" "value" "[B") (Jvm.Term.int (1 : Int32))) (Jvm.Term.int (101 : Int32))),
  (Jvm.Cond.eq (Jvm.Term.elem (Jvm.Term.field (Jvm.Term.string "IronCall$Tokens" (93 : Nat)) "java/lang/String" "value" "[B") (Jvm.Term.int (2 : Int32))) (Jvm.Term.int (108 : Int32))),
  (Jvm.Cond.eq (Jvm.Term.elem (Jvm.Term.field (Jvm.Term.string "IronCall$Tokens" (93 : Nat)) "java/lang/String" "value" "[B") (Jvm.Term.int (3 : Int32))) (Jvm.Term.int (100 : Int32))),
  (Jvm.Cond.not (Jvm.Cond.eq (Jvm.Term.string "IronCall$Tokens" (73 : Nat)) (Jvm.Term.string "IronCall$Tokens" (93 : Nat)))),
  (Jvm.Cond.not (Jvm.Cond.eq (Jvm.Term.string "IronCall$Tokens" (75 : Nat)) (Jvm.Term.string "IronCall$Tokens" (93 : Nat)))),
  (Jvm.Cond.not (Jvm.Cond.eq (Jvm.Term.string "IronCall$Tokens" (77 : Nat)) (Jvm.Term.string "IronCall$Tokens" (93 : Nat)))),
  (Jvm.Cond.not (Jvm.Cond.eq (Jvm.Term.string "IronCall$Tokens" (79 : Nat)) (Jvm.Term.string "IronCall$Tokens" (93 : Nat)))),
  (Jvm.Cond.not (Jvm.Cond.eq (Jvm.Term.string "IronCall$Tokens" (81 : Nat)) (Jvm.Term.string "IronCall$Tokens" (93 : Nat)))),
  (Jvm.Cond.not (Jvm.Cond.eq (Jvm.Term.string "IronCall$Tokens" (83 : Nat)) (Jvm.Term.string "IronCall$Tokens" (93 : Nat)))),
  (Jvm.Cond.not (Jvm.Cond.eq (Jvm.Term.string "IronCall$Tokens" (85 : Nat)) (Jvm.Term.string "IronCall$Tokens" (93 : Nat)))),
  (Jvm.Cond.not (Jvm.Cond.eq (Jvm.Term.string "IronCall$Tokens" (87 : Nat)) (Jvm.Term.string "IronCall$Tokens" (93 : Nat)))),
  (Jvm.Cond.not (Jvm.Cond.eq (Jvm.Term.string "IronCall$Tokens" (89 : Nat)) (Jvm.Term.string "IronCall$Tokens" (93 : Nat)))),
  (Jvm.Cond.not (Jvm.Cond.eq (Jvm.Term.string "IronCall$Tokens" (91 : Nat)) (Jvm.Term.string "IronCall$Tokens" (93 : Nat)))),
  (Jvm.Cond.exactly (Jvm.Term.string "IronCall$Tokens" (95 : Nat)) "java/lang/String"),
  (Jvm.Cond.eq (Jvm.Term.field (Jvm.Term.string "IronCall$Tokens" (95 : Nat)) "java/lang/String" "coder" "B") (Jvm.Term.int (0 : Int32))),
  (Jvm.Cond.arrayOf (Jvm.Term.field (Jvm.Term.string "IronCall$Tokens" (95 : Nat)) "java/lang/String" "value" "[B") Jvm.ClassFile.FieldType.byte),
  (Jvm.Cond.eq (Jvm.Term.length (Jvm.Term.field (Jvm.Term.string "IronCall$Tokens" (95 : Nat)) "java/lang/String" "value" "[B")) (Jvm.Term.int (4 : Int32))),
  (Jvm.Cond.eq (Jvm.Term.elem (Jvm.Term.field (Jvm.Term.string "IronCall$Tokens" (95 : Nat)) "java/lang/String" "value" "[B") (Jvm.Term.int (0 : Int32))) (Jvm.Term.int (99 : Int32))),
  (Jvm.Cond.eq (Jvm.Term.elem (Jvm.Term.field (Jvm.Term.string "IronCall$Tokens" (95 : Nat)) "java/lang/String" "value" "[B") (Jvm.Term.int (1 : Int32))) (Jvm.Term.int (97 : Int32))),
  (Jvm.Cond.eq (Jvm.Term.elem (Jvm.Term.field (Jvm.Term.string "IronCall$Tokens" (95 : Nat)) "java/lang/String" "value" "[B") (Jvm.Term.int (2 : Int32))) (Jvm.Term.int (114 : Int32))),
  (Jvm.Cond.eq (Jvm.Term.elem (Jvm.Term.field (Jvm.Term.string "IronCall$Tokens" (95 : Nat)) "java/lang/String" "value" "[B") (Jvm.Term.int (3 : Int32))) (Jvm.Term.int (116 : Int32))),
  (Jvm.Cond.not (Jvm.Cond.eq (Jvm.Term.string "IronCall$Tokens" (73 : Nat)) (Jvm.Term.string "IronCall$Tokens" (95 : Nat)))),
  (Jvm.Cond.not (Jvm.Cond.eq (Jvm.Term.string "IronCall$Tokens" (75 : Nat)) (Jvm.Term.string "IronCall$Tokens" (95 : Nat)))),
  (Jvm.Cond.not (Jvm.Cond.eq (Jvm.Term.string "IronCall$Tokens" (77 : Nat)) (Jvm.Term.string "IronCall$Tokens" (95 : Nat)))),
  (Jvm.Cond.not (Jvm.Cond.eq (Jvm.Term.string "IronCall$Tokens" (79 : Nat)) (Jvm.Term.string "IronCall$Tokens" (95 : Nat)))),
  (Jvm.Cond.not (Jvm.Cond.eq (Jvm.Term.string "IronCall$Tokens" (81 : Nat)) (Jvm.Term.string "IronCall$Tokens" (95 : Nat)))),
  (Jvm.Cond.not (Jvm.Cond.eq (Jvm.Term.string "IronCall$Tokens" (83 : Nat)) (Jvm.Term.string "IronCall$Tokens" (95 : Nat)))),
  (Jvm.Cond.not (Jvm.Cond.eq (Jvm.Term.string "IronCall$Tokens" (85 : Nat)) (Jvm.Term.string "IronCall$Tokens" (95 : Nat)))),
  (Jvm.Cond.not (Jvm.Cond.eq (Jvm.Term.string "IronCall$Tokens" (87 : Nat)) (Jvm.Term.string "IronCall$Tokens" (95 : Nat)))),
  (Jvm.Cond.not (Jvm.Cond.eq (Jvm.Term.string "IronCall$Tokens" (89 : Nat)) (Jvm.Term.string "IronCall$Tokens" (95 : Nat)))),
  (Jvm.Cond.not (Jvm.Cond.eq (Jvm.Term.string "IronCall$Tokens" (91 : Nat)) (Jvm.Term.string "IronCall$Tokens" (95 : Nat)))),
  (Jvm.Cond.not (Jvm.Cond.eq (Jvm.Term.string "IronCall$Tokens" (93 : Nat)) (Jvm.Term.string "IronCall$Tokens" (95 : Nat)))),
  (Jvm.Cond.exactly (Jvm.Term.string "IronCall$Tokens" (97 : Nat)) "java/lang/String"),
  (Jvm.Cond.eq (Jvm.Term.field (Jvm.Term.string "IronCall$Tokens" (97 : Nat)) "java/lang/String" "coder" "B") (Jvm.Term.int (0 : Int32))),
  (Jvm.Cond.arrayOf (Jvm.Term.field (Jvm.Term.string "IronCall$Tokens" (97 : Nat)) "java/lang/String" "value" "[B") Jvm.ClassFile.FieldType.byte),
  (Jvm.Cond.eq (Jvm.Term.length (Jvm.Term.field (Jvm.Term.string "IronCall$Tokens" (97 : Nat)) "java/lang/String" "value" "[B")) (Jvm.Term.int (4 : Int32))),
  (Jvm.Cond.eq (Jvm.Term.elem (Jvm.Term.field (Jvm.Term.string "IronCall$Tokens" (97 : Nat)) "java/lang/String" "value" "[B") (Jvm.Term.int (0 : Int32))) (Jvm.Term.int (98 : Int32))),
  (Jvm.Cond.eq (Jvm.Term.elem (Jvm.Term.field (Jvm.Term.string "IronCall$Tokens" (97 : Nat)) "java/lang/String" "value" "[B") (Jvm.Term.int (1 : Int32))) (Jvm.Term.int (97 : Int32))),
  (Jvm.Cond.eq (Jvm.Term.elem (Jvm.Term.field (Jvm.Term.string "IronCall$Tokens" (97 : Nat)) "java/lang/String" "value" "[B") (Jvm.Term.int (2 : Int32))) (Jvm.Term.int (99 : Int32))),
  (Jvm.Cond.eq (Jvm.Term.elem (Jvm.Term.field (Jvm.Term.string "IronCall$Tokens" (97 : Nat)) "java/lang/String" "value" "[B") (Jvm.Term.int (3 : Int32))) (Jvm.Term.int (107 : Int32))),
  (Jvm.Cond.not (Jvm.Cond.eq (Jvm.Term.string "IronCall$Tokens" (73 : Nat)) (Jvm.Term.string "IronCall$Tokens" (97 : Nat)))),
  (Jvm.Cond.not (Jvm.Cond.eq (Jvm.Term.string "IronCall$Tokens" (75 : Nat)) (Jvm.Term.string "IronCall$Tokens" (97 : Nat)))),
  (Jvm.Cond.not (Jvm.Cond.eq (Jvm.Term.string "IronCall$Tokens" (77 : Nat)) (Jvm.Term.string "IronCall$Tokens" (97 : Nat)))),
  (Jvm.Cond.not (Jvm.Cond.eq (Jvm.Term.string "IronCall$Tokens" (79 : Nat)) (Jvm.Term.string "IronCall$Tokens" (97 : Nat)))),
  (Jvm.Cond.not (Jvm.Cond.eq (Jvm.Term.string "IronCall$Tokens" (81 : Nat)) (Jvm.Term.string "IronCall$Tokens" (97 : Nat)))),
  (Jvm.Cond.not (Jvm.Cond.eq (Jvm.Term.string "IronCall$Tokens" (83 : Nat)) (Jvm.Term.string "IronCall$Tokens" (97 : Nat)))),
  (Jvm.Cond.not (Jvm.Cond.eq (Jvm.Term.string "IronCall$Tokens" (85 : Nat)) (Jvm.Term.string "IronCall$Tokens" (97 : Nat)))),
  (Jvm.Cond.not (Jvm.Cond.eq (Jvm.Term.string "IronCall$Tokens" (87 : Nat)) (Jvm.Term.string "IronCall$Tokens" (97 : Nat)))),
  (Jvm.Cond.not (Jvm.Cond.eq (Jvm.Term.string "IronCall$Tokens" (89 : Nat)) (Jvm.Term.string "IronCall$Tokens" (97 : Nat)))),
  (Jvm.Cond.not (Jvm.Cond.eq (Jvm.Term.string "IronCall$Tokens" (91 : Nat)) (Jvm.Term.string "IronCall$Tokens" (97 : Nat)))),
  (Jvm.Cond.not (Jvm.Cond.eq (Jvm.Term.string "IronCall$Tokens" (93 : Nat)) (Jvm.Term.string "IronCall$Tokens" (97 : Nat)))),
  (Jvm.Cond.not (Jvm.Cond.eq (Jvm.Term.string "IronCall$Tokens" (95 : Nat)) (Jvm.Term.string "IronCall$Tokens" (97 : Nat)))),
  (Jvm.Cond.exactly (Jvm.Term.string "IronCall$Tokens" (99 : Nat)) "java/lang/String"),
  (Jvm.Cond.eq (Jvm.Term.field (Jvm.Term.string "IronCall$Tokens" (99 : Nat)) "java/lang/String" "coder" "B") (Jvm.Term.int (0 : Int32))),
  (Jvm.Cond.arrayOf (Jvm.Term.field (Jvm.Term.string "IronCall$Tokens" (99 : Nat)) "java/lang/String" "value" "[B") Jvm.ClassFile.FieldType.byte),
  (Jvm.Cond.eq (Jvm.Term.length (Jvm.Term.field (Jvm.Term.string "IronCall$Tokens" (99 : Nat)) "java/lang/String" "value" "[B")) (Jvm.Term.int (4 : Int32))),
  (Jvm.Cond.eq (Jvm.Term.elem (Jvm.Term.field (Jvm.Term.string "IronCall$Tokens" (99 : Nat)) "java/lang/String" "value" "[B") (Jvm.Term.int (0 : Int32))) (Jvm.Term.int (112 : Int32))),
  (Jvm.Cond.eq (Jvm.Term.elem (Jvm.Term.field (Jvm.Term.string "IronCall$Tokens" (99 : Nat)) "java/lang/String" "value" "[B") (Jvm.Term.int (1 : Int32))) (Jvm.Term.int (97 : Int32))),
  (Jvm.Cond.eq (Jvm.Term.elem (Jvm.Term.field (Jvm.Term.string "IronCall$Tokens" (99 : Nat)) "java/lang/String" "value" "[B") (Jvm.Term.int (2 : Int32))) (Jvm.Term.int (99 : Int32))),
  (Jvm.Cond.eq (Jvm.Term.elem (Jvm.Term.field (Jvm.Term.string "IronCall$Tokens" (99 : Nat)) "java/lang/String" "value" "[B") (Jvm.Term.int (3 : Int32))) (Jvm.Term.int (101 : Int32))),
  (Jvm.Cond.not (Jvm.Cond.eq (Jvm.Term.string "IronCall$Tokens" (73 : Nat)) (Jvm.Term.string "IronCall$Tokens" (99 : Nat)))),
  (Jvm.Cond.not (Jvm.Cond.eq (Jvm.Term.string "IronCall$Tokens" (75 : Nat)) (Jvm.Term.string "IronCall$Tokens" (99 : Nat)))),
  (Jvm.Cond.not (Jvm.Cond.eq (Jvm.Term.string "IronCall$Tokens" (77 : Nat)) (Jvm.Term.string "IronCall$Tokens" (99 : Nat)))),
  (Jvm.Cond.not (Jvm.Cond.eq (Jvm.Term.string "IronCall$Tokens" (79 : Nat)) (Jvm.Term.string "IronCall$Tokens" (99 : Nat)))),
  (Jvm.Cond.not (Jvm.Cond.eq (Jvm.Term.string "IronCall$Tokens" (81 : Nat)) (Jvm.Term.string "IronCall$Tokens" (99 : Nat)))),
  (Jvm.Cond.not (Jvm.Cond.eq (Jvm.Term.string "IronCall$Tokens" (83 : Nat)) (Jvm.Term.string "IronCall$Tokens" (99 : Nat)))),
  (Jvm.Cond.not (Jvm.Cond.eq (Jvm.Term.string "IronCall$Tokens" (85 : Nat)) (Jvm.Term.string "IronCall$Tokens" (99 : Nat)))),
  (Jvm.Cond.not (Jvm.Cond.eq (Jvm.Term.string "IronCall$Tokens" (87 : Nat)) (Jvm.Term.string "IronCall$Tokens" (99 : Nat)))),
  (Jvm.Cond.not (Jvm.Cond.eq (Jvm.Term.string "IronCall$Tokens" (89 : Nat)) (Jvm.Term.string "IronCall$Tokens" (99 : Nat)))),
  (Jvm.Cond.not (Jvm.Cond.eq (Jvm.Term.string "IronCall$Tokens" (91 : Nat)) (Jvm.Term.string "IronCall$Tokens" (99 : Nat)))),
  (Jvm.Cond.not (Jvm.Cond.eq (Jvm.Term.string "IronCall$Tokens" (93 : Nat)) (Jvm.Term.string "IronCall$Tokens" (99 : Nat)))),
  (Jvm.Cond.not (Jvm.Cond.eq (Jvm.Term.string "IronCall$Tokens" (95 : Nat)) (Jvm.Term.string "IronCall$Tokens" (99 : Nat)))),
  (Jvm.Cond.not (Jvm.Cond.eq (Jvm.Term.string "IronCall$Tokens" (97 : Nat)) (Jvm.Term.string "IronCall$Tokens" (99 : Nat)))),
  (Jvm.Cond.exactly (Jvm.Term.string "IronCall$Tokens" (101 : Nat)) "java/lang/String"),
  (Jvm.Cond.eq (Jvm.Term.field (Jvm.Term.string "IronCall$Tokens" (101 : Nat)) "java/lang/String" "coder" "B") (Jvm.Term.int (0 : Int32))),
  (Jvm.Cond.arrayOf (Jvm.Term.field (Jvm.Term.string "IronCall$Tokens" (101 : Nat)) "java/lang/String" "value" "[B") Jvm.ClassFile.FieldType.byte),
  (Jvm.Cond.eq (Jvm.Term.length (Jvm.Term.field (Jvm.Term.string "IronCall$Tokens" (101 : Nat)) "java/lang/String" "value" "[B")) (Jvm.Term.int (4 : Int32))),
  (Jvm.Cond.eq (Jvm.Term.elem (Jvm.Term.field (Jvm.Term.string "IronCall$Tokens" (101 : Nat)) "java/lang/String" "value" "[B") (Jvm.Term.int (0 : Int32))) (Jvm.Term.int (108 : Int32))),
  (Jvm.Cond.eq (Jvm.Term.elem (Jvm.Term.field (Jvm.Term.string "IronCall$Tokens" (101 : Nat)) "java/lang/String" "value" "[B") (Jvm.Term.int (1 : Int32))) (Jvm.Term.int (111 : Int32))),
  (Jvm.Cond.eq (Jvm.Term.elem (Jvm.Term.field (Jvm.Term.string "IronCall$Tokens" (101 : Nat)) "java/lang/String" "value" "[B") (Jvm.Term.int (2 : Int32))) (Jvm.Term.int (117 : Int32))),
  (Jvm.Cond.eq (Jvm.Term.elem (Jvm.Term.field (Jvm.Term.string "IronCall$Tokens" (101 : Nat)) "java/lang/String" "value" "[B") (Jvm.Term.int (3 : Int32))) (Jvm.Term.int (100 : Int32))),
  (Jvm.Cond.not (Jvm.Cond.eq (Jvm.Term.string "IronCall$Tokens" (73 : Nat)) (Jvm.Term.string "IronCall$Tokens" (101 : Nat)))),
  (Jvm.Cond.not (Jvm.Cond.eq (Jvm.Term.string "IronCall$Tokens" (75 : Nat)) (Jvm.Term.string "IronCall$Tokens" (101 : Nat)))),
  (Jvm.Cond.not (Jvm.Cond.eq (Jvm.Term.string "IronCall$Tokens" (77 : Nat)) (Jvm.Term.string "IronCall$Tokens" (101 : Nat)))),
  (Jvm.Cond.not (Jvm.Cond.eq (Jvm.Term.string "IronCall$Tokens" (79 : Nat)) (Jvm.Term.string "IronCall$Tokens" (101 : Nat)))),
  (Jvm.Cond.not (Jvm.Cond.eq (Jvm.Term.string "IronCall$Tokens" (81 : Nat)) (Jvm.Term.string "IronCall$Tokens" (101 : Nat)))),
  (Jvm.Cond.not (Jvm.Cond.eq (Jvm.Term.string "IronCall$Tokens" (83 : Nat)) (Jvm.Term.string "IronCall$Tokens" (101 : Nat)))),
  (Jvm.Cond.not (Jvm.Cond.eq (Jvm.Term.string "IronCall$Tokens" (85 : Nat)) (Jvm.Term.string "IronCall$Tokens" (101 : Nat)))),
  (Jvm.Cond.not (Jvm.Cond.eq (Jvm.Term.string "IronCall$Tokens" (87 : Nat)) (Jvm.Term.string "IronCall$Tokens" (101 : Nat)))),
  (Jvm.Cond.not (Jvm.Cond.eq (Jvm.Term.string "IronCall$Tokens" (89 : Nat)) (Jvm.Term.string "IronCall$Tokens" (101 : Nat)))),
  (Jvm.Cond.not (Jvm.Cond.eq (Jvm.Term.string "IronCall$Tokens" (91 : Nat)) (Jvm.Term.string "IronCall$Tokens" (101 : Nat)))),
  (Jvm.Cond.not (Jvm.Cond.eq (Jvm.Term.string "IronCall$Tokens" (93 : Nat)) (Jvm.Term.string "IronCall$Tokens" (101 : Nat)))),
  (Jvm.Cond.not (Jvm.Cond.eq (Jvm.Term.string "IronCall$Tokens" (95 : Nat)) (Jvm.Term.string "IronCall$Tokens" (101 : Nat)))),
  (Jvm.Cond.not (Jvm.Cond.eq (Jvm.Term.string "IronCall$Tokens" (97 : Nat)) (Jvm.Term.string "IronCall$Tokens" (101 : Nat)))),
  (Jvm.Cond.not (Jvm.Cond.eq (Jvm.Term.string "IronCall$Tokens" (99 : Nat)) (Jvm.Term.string "IronCall$Tokens" (101 : Nat)))),
  (Jvm.Cond.exactly (Jvm.Term.string "IronCall$Tokens" (103 : Nat)) "java/lang/String"),
  (Jvm.Cond.eq (Jvm.Term.field (Jvm.Term.string "IronCall$Tokens" (103 : Nat)) "java/lang/String" "coder" "B") (Jvm.Term.int (0 : Int32))),
  (Jvm.Cond.arrayOf (Jvm.Term.field (Jvm.Term.string "IronCall$Tokens" (103 : Nat)) "java/lang/String" "value" "[B") Jvm.ClassFile.FieldType.byte),
  (Jvm.Cond.eq (Jvm.Term.length (Jvm.Term.field (Jvm.Term.string "IronCall$Tokens" (103 : Nat)) "java/lang/String" "value" "[B")) (Jvm.Term.int (0 : Int32))),
  (Jvm.Cond.not (Jvm.Cond.eq (Jvm.Term.string "IronCall$Tokens" (73 : Nat)) (Jvm.Term.string "IronCall$Tokens" (103 : Nat)))),
  (Jvm.Cond.not (Jvm.Cond.eq (Jvm.Term.string "IronCall$Tokens" (75 : Nat)) (Jvm.Term.string "IronCall$Tokens" (103 : Nat)))),
  (Jvm.Cond.not (Jvm.Cond.eq (Jvm.Term.string "IronCall$Tokens" (77 : Nat)) (Jvm.Term.string "IronCall$Tokens" (103 : Nat)))),
  (Jvm.Cond.not (Jvm.Cond.eq (Jvm.Term.string "IronCall$Tokens" (79 : Nat)) (Jvm.Term.string "IronCall$Tokens" (103 : Nat)))),
  (Jvm.Cond.not (Jvm.Cond.eq (Jvm.Term.string "IronCall$Tokens" (81 : Nat)) (Jvm.Term.string "IronCall$Tokens" (103 : Nat)))),
  (Jvm.Cond.not (Jvm.Cond.eq (Jvm.Term.string "IronCall$Tokens" (83 : Nat)) (Jvm.Term.string "IronCall$Tokens" (103 : Nat)))),
  (Jvm.Cond.not (Jvm.Cond.eq (Jvm.Term.string "IronCall$Tokens" (85 : Nat)) (Jvm.Term.string "IronCall$Tokens" (103 : Nat)))),
  (Jvm.Cond.not (Jvm.Cond.eq (Jvm.Term.string "IronCall$Tokens" (87 : Nat)) (Jvm.Term.string "IronCall$Tokens" (103 : Nat)))),
  (Jvm.Cond.not (Jvm.Cond.eq (Jvm.Term.string "IronCall$Tokens" (89 : Nat)) (Jvm.Term.string "IronCall$Tokens" (103 : Nat)))),
  (Jvm.Cond.not (Jvm.Cond.eq (Jvm.Term.string "IronCall$Tokens" (91 : Nat)) (Jvm.Term.string "IronCall$Tokens" (103 : Nat)))),
  (Jvm.Cond.not (Jvm.Cond.eq (Jvm.Term.string "IronCall$Tokens" (93 : Nat)) (Jvm.Term.string "IronCall$Tokens" (103 : Nat)))),
  (Jvm.Cond.not (Jvm.Cond.eq (Jvm.Term.string "IronCall$Tokens" (95 : Nat)) (Jvm.Term.string "IronCall$Tokens" (103 : Nat)))),
  (Jvm.Cond.not (Jvm.Cond.eq (Jvm.Term.string "IronCall$Tokens" (97 : Nat)) (Jvm.Term.string "IronCall$Tokens" (103 : Nat)))),
  (Jvm.Cond.not (Jvm.Cond.eq (Jvm.Term.string "IronCall$Tokens" (99 : Nat)) (Jvm.Term.string "IronCall$Tokens" (103 : Nat)))),
  (Jvm.Cond.not (Jvm.Cond.eq (Jvm.Term.string "IronCall$Tokens" (101 : Nat)) (Jvm.Term.string "IronCall$Tokens" (103 : Nat))))]
def ic_pp : List (List Nat) := [[0, 42, 51, 62, 72, 86, 100, 112, 128, 146, 163, 181, 200, 220, 241, 259], [42, 0, 52, 63, 73, 87, 101, 113, 129, 147, 164, 182, 201, 221, 242, 260], [51, 52, 0, 64, 74, 88, 102, 114, 130, 148, 165, 183, 202, 222, 243, 261], [62, 63, 64, 0, 75, 89, 103, 115, 131, 149, 166, 184, 203, 223, 244, 262], [72, 73, 74, 75, 0, 90, 104, 116, 132, 150, 167, 185, 204, 224, 245, 263], [86, 87, 88, 89, 90, 0, 105, 117, 133, 151, 168, 186, 205, 225, 246, 264], [100, 101, 102, 103, 104, 105, 0, 118, 134, 152, 169, 187, 206, 226, 247, 265], [112, 113, 114, 115, 116, 117, 118, 0, 135, 153, 170, 188, 207, 227, 248, 266], [128, 129, 130, 131, 132, 133, 134, 135, 0, 154, 171, 189, 208, 228, 249, 267], [146, 147, 148, 149, 150, 151, 152, 153, 154, 0, 172, 190, 209, 229, 250, 268], [163, 164, 165, 166, 167, 168, 169, 170, 171, 172, 0, 191, 210, 230, 251, 269], [181, 182, 183, 184, 185, 186, 187, 188, 189, 190, 191, 0, 211, 231, 252, 270], [200, 201, 202, 203, 204, 205, 206, 207, 208, 209, 210, 211, 0, 232, 253, 271], [220, 221, 222, 223, 224, 225, 226, 227, 228, 229, 230, 231, 232, 0, 254, 272], [241, 242, 243, 244, 245, 246, 247, 248, 249, 250, 251, 252, 253, 254, 0, 273], [259, 260, 261, 262, 263, 264, 265, 266, 267, 268, 269, 270, 271, 272, 273, 0]]
theorem ic_fl_eq : flatC ic_gv = ic_fl := by decide +kernel
theorem ic_s1a : ((List.range 16).all fun i => decide (Cond.exactly (ic_tm i) "java/lang/String" ∈ ic_fl)) = true := by decide +kernel
theorem ic_s1b : ((List.range 16).all fun i => decide (Cond.eq (.field (ic_tm i) "java/lang/String" "coder" "B") (.int 0) ∈ ic_fl)) = true := by decide +kernel
theorem ic_s1c : ((List.range 16).all fun i => decide (Cond.arrayOf (.field (ic_tm i) "java/lang/String" "value" "[B") .byte ∈ ic_fl)) = true := by decide +kernel
theorem ic_s1d : ((List.range 16).all fun i => decide (Cond.eq (.length (.field (ic_tm i) "java/lang/String" "value" "[B")) (.int (Int32.ofNat (ic_slen.getD i 0))) ∈ ic_fl)) = true := by decide +kernel
theorem ic_s1e : ((List.range 16).all fun i => (List.range (ic_slen.getD i 0)).all fun j => decide (Cond.eq (.elem (.field (ic_tm i) "java/lang/String" "value" "[B") (.int (Int32.ofNat j))) (.int ((ic_sbyt.getD i []).getD j 0)) ∈ ic_fl)) = true := by decide +kernel
theorem ic_s1f : ((List.range 16).all fun i => (List.range 16).all fun j => decide (i = j) || (decide (ic_fl[(ic_pp.getD i []).getD j 0]? = some (Cond.not (Cond.eq (ic_tm i) (ic_tm j)))) || decide (ic_fl[(ic_pp.getD i []).getD j 0]? = some (Cond.not (Cond.eq (ic_tm j) (ic_tm i)))))) = true := by decide +kernel
theorem ic_s1g : Cond.eq (.static "java/lang/String" "COMPACT_STRINGS" "Z") (.int 1) ∈ ic_fl ∧ Cond.isRef (.static "jdk/internal/util/Preconditions" "SIOOBE_FORMATTER" "Ljava/util/function/BiFunction;") ∈ ic_fl := by decide +kernel
theorem ic_s1h : ((List.range 16).all fun i => decide (Cond.stringRef "IronCall$Tokens" (ic_str.getD i (0, "")).1 (ic_str.getD i (0, "")).2 ∈ lw_tbl)) = true := by decide +kernel
theorem ic_s1i : (ic_nst.all fun q => decide (Cond.methodLinkNest q.1 q.2.1 q.2.2.1 q.2.2.2 ∈ lw_tbl)) = true := by decide +kernel
theorem ic_s1j : (Cond.laysStatic "java/lang/String" "COMPACT_STRINGS" "Z" ∈ lw_tbl ∧ Cond.initialized "java/lang/String" ∈ lw_tbl) ∧ Cond.laysStatic "jdk/internal/util/Preconditions" "SIOOBE_FORMATTER" "Ljava/util/function/BiFunction;" ∈ lw_tbl ∧ Cond.initialized "jdk/internal/util/Preconditions" ∈ lw_tbl := by decide +kernel
theorem ic_s1k : Cond.arrayOver (.object "IronCall$Thing") ∈ lw_tbl ∧ Cond.arrayOver (.object "IronCall$Sheet") ∈ lw_tbl := by decide +kernel
theorem ic_rg {n : Nat} {f : Nat → Bool} (h : (List.range n).all f = true) {i : Nat} (hi : i < n) : f i = true := List.all_eq_true.mp h i (List.mem_range.mpr hi)
/-- what stands still, at the law's entry -/
theorem ic_F0 {s : State} {b : Nat} {A : Nat → Prop} (hts : ∀ w ∈ lw_tbl, w.before #[Value.ref b] s = true) (hgv : ic_gv.before #[Value.ref b] s = true) (hA : ∀ a : Nat, a < s.heap.size → ¬ A a) :
    ∃ (D : va_G) (c0 : Nat → ClassId) (fm : Option Nat) (adK adV : Nat → Nat), va_K D ic_cls (cn_tl c0) s ∧ vk_S 16 ic_slen ic_sbyt adK adV A s s.heap ∧ (∀ (i : Nat) (q : Nat × String), ic_str[i]? = some q → vk_R "IronCall$Tokens" q.1 q.2 (adK i) s) ∧
      va_Z "java/lang/String" "COMPACT_STRINGS" "Z" (.int 1) A s s.heap ∧ va_Z "jdk/internal/util/Preconditions" "SIOOBE_FORMATTER" "Ljava/util/function/BiFunction;" (va_rf fm) A s s.heap ∧ (∀ q ∈ ic_nst, va_Nw (.methodLinkNest q.1 q.2.1 q.2.2.1 q.2.2.2) s) := by
  have hfl : ∀ c ∈ ic_fl, c.before #[Value.ref b] s = true := by
    rw [← ic_fl_eq]
    exact flat_of_before _ hgv
  have htg : ∀ w ∈ lw_gd, w.before #[Value.ref b] s = true := fun w hw => hts w (lw_gd_in w hw)
  obtain ⟨d0, s0, hn0⟩ := u_known (C := "IronCall$Reader") (T := TX0) (N := 4) (n := 4) htg inX0 (htg _ insX0)
  obtain ⟨d1, s1, hn1⟩ := u_known (C := "IronCall$Sheet") (T := TX1) (N := 3) (n := 3) htg inX1 (htg _ insX1)
  obtain ⟨d2, s2, hn2⟩ := u_known (C := "IronCall$Street") (T := TX2) (N := 9) (n := 9) htg inX2 (htg _ insX2)
  obtain ⟨d3, s3, hn3⟩ := u_known (C := "IronCall$Tape") (T := TX3) (N := 2) (n := 2) htg inX3 (htg _ insX3)
  obtain ⟨d4, s4, hn4⟩ := u_known (C := "IronCall$Thing") (T := TX4) (N := 8) (n := 8) htg inX4 (htg _ insX4)
  obtain ⟨d5, s5, hn5⟩ := u_known (C := "IronCall$Tokens") (T := TX5) (N := 5) (n := 5) htg inX5 (htg _ insX5)
  obtain ⟨d6, s6, hn6⟩ := u_known (C := "IronCall") (T := TX6) (N := 9) (n := 9) htg inX6 (htg _ insX6)
  obtain ⟨d7, s7, hn7⟩ := u_known (C := "IronCallModel") (T := TX7) (N := 17) (n := 17) htg inX7 (htg _ insX7)
  obtain ⟨cI, kI, pI, i1, i2, i3⟩ := Cond.arrayClass_spec (htg _ arc_int)
  obtain ⟨cB, kB, pB, b1, b2, b3⟩ := Cond.arrayClass_spec (htg _ arc_byte)
  obtain ⟨pT, cT, kT, t1, t2, t3, t4, t5⟩ := Cond.arrayOver_spec (hts _ ic_s1k.1)
  obtain ⟨pS, cS, kS, u1, u2, u3, u4, u5⟩ := Cond.arrayOver_spec (hts _ ic_s1k.2)
  obtain ⟨adK, adV, hSS, hev⟩ := vk_Sof (args := #[Value.ref b]) (N := 16) (tm := ic_tm) (len := ic_slen) (byt := ic_sbyt) (A := A) (by decide)
    (fun i hi => hfl _ (of_decide_eq_true (ic_rg ic_s1a hi))) (fun i hi => hfl _ (of_decide_eq_true (ic_rg ic_s1b hi))) (fun i hi => hfl _ (of_decide_eq_true (ic_rg ic_s1c hi))) (fun i hi => hfl _ (of_decide_eq_true (ic_rg ic_s1d hi)))
    (fun i hi j hj => hfl _ (of_decide_eq_true (ic_rg (ic_rg ic_s1e hi) hj)))
    (fun i j hi hj hne => by
      have h := ic_rg (ic_rg ic_s1f hi) hj
      simp only [Bool.or_eq_true, decide_eq_true_eq] at h
      rcases h with h | h | h
      · exact absurd h hne
      · exact Or.inl (hfl _ (List.mem_of_getElem? h))
      · exact Or.inr (hfl _ (List.mem_of_getElem? h))) hA
  have hcs := va_Zof (hts _ ic_s1j.1.1) (hts _ ic_s1j.1.2) (va_eqi (hfl _ ic_s1g.1)) hA
  obtain ⟨fm, hfm⟩ : ∃ fm : Option Nat, va_Z "jdk/internal/util/Preconditions" "SIOOBE_FORMATTER" "Ljava/util/function/BiFunction;" (va_rf fm) A s s.heap := by
    rcases va_Zqof (hts _ ic_s1j.2.1) (hts _ ic_s1j.2.2) (hfl _ ic_s1g.2) hA with h | ⟨t, h⟩
    · exact ⟨none, h⟩
    · exact ⟨some t, h⟩
  refine ⟨(fun k => [d0, d1, d2, d3, d4, d5, d6, d7].getD k d0, fun k => [s0, s1, s2, s3, s4, s5, s6, s7].getD k s0), fun k => [cI, cB, cT, cS].getD k cI, fm, adK, adV, ⟨?_, ?_⟩, hSS, ?_, hcs, hfm, ?_⟩
  · intro k q hq
    match k, hq with
    | 0, hq => cases hq; exact hn0
    | 1, hq => cases hq; exact hn1
    | 2, hq => cases hq; exact hn2
    | 3, hq => cases hq; exact hn3
    | 4, hq => cases hq; exact hn4
    | 5, hq => cases hq; exact hn5
    | 6, hq => cases hq; exact hn6
    | 7, hq => cases hq; exact hn7
    | k + 8, hq => simp at hq
  · intro k q hq
    match k, hq with
    | 0, hq => cases hq; exact ⟨fun n z => ⟨(fun k h => by cases h), kI, i2, pI, i3⟩, i1⟩
    | 1, hq => cases hq; exact ⟨fun n z => ⟨(fun k h => by cases h), kB, b2, pB, b3⟩, b1⟩
    | 2, hq => cases hq; exact ⟨fun n z => ⟨(fun k h => by cases h), kT, t3, pT, t4⟩, kT, pT, t3, t4, t1, t5⟩
    | 3, hq => cases hq; exact ⟨fun n z => ⟨(fun k h => by cases h), kS, u3, pS, u4⟩, kS, pS, u3, u4, u1, u5⟩
    | k + 4, hq => simp at hq
  · intro i q hq
    have hi : i < 16 := by
      have := (List.getElem?_eq_some_iff.mp hq).1
      simpa [ic_str] using this
    have e : ic_str.getD i (0, "") = q := by rw [List.getD_eq_getElem?_getD, hq]; rfl
    have h1 := hts _ (of_decide_eq_true (ic_rg ic_s1h hi))
    have h2 := hev i hi
    unfold ic_tm at h2
    rw [e] at h1 h2
    exact vk_R.of h1 ((Term.string_eval_of_vm (args := #[Value.ref b]) rfl).symm.trans h2 |> fun z => z)
  · intro q hq
    exact va_Nw.of rfl (hts _ (of_decide_eq_true (List.all_eq_true.mp ic_s1i q hq)))
