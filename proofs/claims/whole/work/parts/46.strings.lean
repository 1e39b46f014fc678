def narrowL : List Jvm.Cond := [(Jvm.Cond.arrayOf (Jvm.Term.arg (0 : Nat)) Jvm.ClassFile.FieldType.int),
  (Jvm.Cond.le (Jvm.Term.length (Jvm.Term.arg (0 : Nat))) (Jvm.Term.int (3584 : Int32))),
  (Jvm.Cond.eq (Jvm.Term.static "java/lang/String" "COMPACT_STRINGS" "Z") (Jvm.Term.int (1 : Int32))),
  (Jvm.Cond.isRef (Jvm.Term.static "jdk/internal/util/Preconditions" "SIOOBE_FORMATTER" "Ljava/util/function/BiFunction;")),
  (Jvm.Cond.eq (Jvm.Term.static "java/lang/StringUTF16" "$assertionsDisabled" "Z") (Jvm.Term.int (1 : Int32))),
  (Jvm.Cond.eq (Jvm.Term.static "java/lang/StringUTF16" "HI_BYTE_SHIFT" "I") (Jvm.Term.int (0 : Int32))),
  (Jvm.Cond.eq (Jvm.Term.static "java/lang/StringUTF16" "LO_BYTE_SHIFT" "I") (Jvm.Term.int (8 : Int32))),
  (Jvm.Cond.exactly (Jvm.Term.string "StiltTown$Tokens" (87 : Nat)) "java/lang/String"),
  (Jvm.Cond.eq (Jvm.Term.field (Jvm.Term.string "StiltTown$Tokens" (87 : Nat)) "java/lang/String" "coder" "B") (Jvm.Term.int (0 : Int32))),
  (Jvm.Cond.arrayOf (Jvm.Term.field (Jvm.Term.string "StiltTown$Tokens" (87 : Nat)) "java/lang/String" "value" "[B") Jvm.ClassFile.FieldType.byte),
  (Jvm.Cond.eq (Jvm.Term.length (Jvm.Term.field (Jvm.Term.string "StiltTown$Tokens" (87 : Nat)) "java/lang/String" "value" "[B")) (Jvm.Term.int (5 : Int32))),
  (Jvm.Cond.eq (Jvm.Term.elem (Jvm.Term.field (Jvm.Term.string "StiltTown$Tokens" (87 : Nat)) "java/lang/String" "value" "[B") (Jvm.Term.int (0 : Int32))) (Jvm.Term.int (104 : Int32))),
  (Jvm.Cond.eq (Jvm.Term.elem (Jvm.Term.field (Jvm.Term.string "StiltTown$Tokens" (87 : Nat)) "java/lang/String" "value" "[B") (Jvm.Term.int (1 : Int32))) (Jvm.Term.int (111 : Int32))),
  (Jvm.Cond.eq (Jvm.Term.elem (Jvm.Term.field (Jvm.Term.string "StiltTown$Tokens" (87 : Nat)) "java/lang/String" "value" "[B") (Jvm.Term.int (2 : Int32))) (Jvm.Term.int (117 : Int32))),
  (Jvm.Cond.eq (Jvm.Term.elem (Jvm.Term.field (Jvm.Term.string "StiltTown$Tokens" (87 : Nat)) "java/lang/String" "value" "[B") (Jvm.Term.int (3 : Int32))) (Jvm.Term.int (115 : Int32))),
  (Jvm.Cond.eq (Jvm.Term.elem (Jvm.Term.field (Jvm.Term.string "StiltTown$Tokens" (87 : Nat)) "java/lang/String" "value" "[B") (Jvm.Term.int (4 : Int32))) (Jvm.Term.int (101 : Int32))),
  (Jvm.Cond.exactly (Jvm.Term.string "StiltTown$Tokens" (89 : Nat)) "java/lang/String"),
  (Jvm.Cond.eq (Jvm.Term.field (Jvm.Term.string "StiltTown$Tokens" (89 : Nat)) "java/lang/String" "coder" "B") (Jvm.Term.int (0 : Int32))),
  (Jvm.Cond.arrayOf (Jvm.Term.field (Jvm.Term.string "StiltTown$Tokens" (89 : Nat)) "java/lang/String" "value" "[B") Jvm.ClassFile.FieldType.byte),
  (Jvm.Cond.eq (Jvm.Term.length (Jvm.Term.field (Jvm.Term.string "StiltTown$Tokens" (89 : Nat)) "java/lang/String" "value" "[B")) (Jvm.Term.int (6 : Int32))),
  (Jvm.Cond.eq (Jvm.Term.elem (Jvm.Term.field (Jvm.Term.string "StiltTown$Tokens" (89 : Nat)) "java/lang/String" "value" "[B") (Jvm.Term.int (0 : Int32))) (Jvm.Term.int (111 : Int32))),
  (Jvm.Cond.eq (Jvm.Term.elem (Jvm.Term.field (Jvm.Term.string "StiltTown$Tokens" (89 : Nat)) "java/lang/String" "value" "[B") (Jvm.Term.int (1 : Int32))) (Jvm.Term.int (102 : Int32))),
  (Jvm.Cond.eq (Jvm.Term.elem (Jvm.Term.field (Jvm.Term.string "StiltTown$Tokens" (89 : Nat)) "java/lang/String" "value" "[B") (Jvm.Term.int (2 : Int32))) (Jvm.Term.int (102 : Int32))),
  (Jvm.Cond.eq (Jvm.Term.elem (Jvm.Term.field (Jvm.Term.string "StiltTown$Tokens" (89 : Nat)) "java/lang/String" "value" "[B") (Jvm.Term.int (3 : Int32))) (Jvm.Term.int (105 : Int32))),
  (Jvm.Cond.eq (Jvm.Term.elem (Jvm.Term.field (Jvm.Term.string "StiltTown$Tokens" (89 : Nat)) "java/lang/String" "value" "[B") (Jvm.Term.int (4 : Int32))) (Jvm.Term.int (99 : Int32))),
  (Jvm.Cond.eq (Jvm.Term.elem (Jvm.Term.field (Jvm.Term.string "StiltTown$Tokens" (89 : Nat)) "java/lang/String" "value" "[B") (Jvm.Term.int (5 : Int32))) (Jvm.Term.int (101 : Int32))),
  (Jvm.Cond.exactly (Jvm.Term.string "StiltTown$Tokens" (91 : Nat)) "java/lang/String"),
  (Jvm.Cond.eq (Jvm.Term.field (Jvm.Term.string "StiltTown$Tokens" (91 : Nat)) "java/lang/String" "coder" "B") (Jvm.Term.int (0 : Int32))),
  (Jvm.Cond.arrayOf (Jvm.Term.field (Jvm.Term.string "StiltTown$Tokens" (91 : Nat)) "java/lang/String" "value" "[B") Jvm.ClassFile.FieldType.byte),
  (Jvm.Cond.eq (Jvm.Term.length (Jvm.Term.field (Jvm.Term.string "StiltTown$Tokens" (91 : Nat)) "java/lang/String" "value" "[B")) (Jvm.Term.int (2 : Int32))),
  (Jvm.Cond.eq (Jvm.Term.elem (Jvm.Term.field (Jvm.Term.string "StiltTown$Tokens" (91 : Nat)) "java/lang/String" "value" "[B") (Jvm.Term.int (0 : Int32))) (Jvm.Term.int (105 : Int32))),
  (Jvm.Cond.eq (Jvm.Term.elem (Jvm.Term.field (Jvm.Term.string "StiltTown$Tokens" (91 : Nat)) "java/lang/String" "value" "[B") (Jvm.Term.int (1 : Int32))) (Jvm.Term.int (110 : Int32))),
  (Jvm.Cond.exactly (Jvm.Term.string "StiltTown$Tokens" (93 : Nat)) "java/lang/String"),
  (Jvm.Cond.eq (Jvm.Term.field (Jvm.Term.string "StiltTown$Tokens" (93 : Nat)) "java/lang/String" "coder" "B") (Jvm.Term.int (0 : Int32))),
  (Jvm.Cond.arrayOf (Jvm.Term.field (Jvm.Term.string "StiltTown$Tokens" (93 : Nat)) "java/lang/String" "value" "[B") Jvm.ClassFile.FieldType.byte),
  (Jvm.Cond.eq (Jvm.Term.length (Jvm.Term.field (Jvm.Term.string "StiltTown$Tokens" (93 : Nat)) "java/lang/String" "value" "[B")) (Jvm.Term.int (5 : Int32))),
  (Jvm.Cond.eq (Jvm.Term.elem (Jvm.Term.field (Jvm.Term.string "StiltTown$Tokens" (93 : Nat)) "java/lang/String" "value" "[B") (Jvm.Term.int (0 : Int32))) (Jvm.Term.int (115 : Int32))),
  (Jvm.Cond.eq (Jvm.Term.elem (Jvm.Term.field (Jvm.Term.string "StiltTown$Tokens" (93 : Nat)) "java/lang/String" "value" "[B") (Jvm.Term.int (1 : Int32))) (Jvm.Term.int (116 : Int32))),
  (Jvm.Cond.eq (Jvm.Term.elem (Jvm.Term.field (Jvm.Term.string "StiltTown$Tokens" (93 : Nat)) "java/lang/String" "value" "[B") (Jvm.Term.int (2 : Int32))) (Jvm.Term.int (97 : Int32))),
  (Jvm.Cond.eq (Jvm.Term.elem (Jvm.Term.field (Jvm.Term.string "StiltTown$Tokens" (93 : Nat)) "java/lang/String" "value" "[B") (Jvm.Term.int (3 : Int32))) (Jvm.Term.int (105 : Int32))),
  (Jvm.Cond.eq (Jvm.Term.elem (Jvm.Term.field (Jvm.Term.string "StiltTown$Tokens" (93 : Nat)) "java/lang/String" "value" "[B") (Jvm.Term.int (4 : Int32))) (Jvm.Term.int (114 : Int32))),
  (Jvm.Cond.exactly (Jvm.Term.string "StiltTown$Tokens" (95 : Nat)) "java/lang/String"),
  (Jvm.Cond.eq (Jvm.Term.field (Jvm.Term.string "StiltTown$Tokens" (95 : Nat)) "java/lang/String" "coder" "B") (Jvm.Term.int (0 : Int32))),
  (Jvm.Cond.arrayOf (Jvm.Term.field (Jvm.Term.string "StiltTown$Tokens" (95 : Nat)) "java/lang/String" "value" "[B") Jvm.ClassFile.FieldType.byte),
  (Jvm.Cond.eq (Jvm.Term.length (Jvm.Term.field (Jvm.Term.string "StiltTown$Tokens" (95 : Nat)) "java/lang/String" "value" "[B")) (Jvm.Term.int (4 : Int32))),
  (Jvm.Cond.eq (Jvm.Term.elem (Jvm.Term.field (Jvm.Term.string "StiltTown$Tokens" (95 : Nat)) "java/lang/String" "value" "[B") (Jvm.Term.int (0 : Int32))) (Jvm.Term.int (113 : Int32))),
  (Jvm.Cond.eq (Jvm.Term.elem (Jvm.Term.field (Jvm.Term.string "StiltTown$Tokens" (95 : Nat)) "java/lang/String" "value" "[B") (Jvm.Term.int (1 : Int32))) (Jvm.Term.int (117 : Int32))),
  (Jvm.Cond.eq (Jvm.Term.elem (Jvm.Term.field (Jvm.Term.string "StiltTown$Tokens" (95 : Nat)) "java/lang/String" "value" "[B") (Jvm.Term.int (2 : Int32))) (Jvm.Term.int (97 : Int32))),
  (Jvm.Cond.eq (Jvm.Term.elem (Jvm.Term.field (Jvm.Term.string "StiltTown$Tokens" (95 : Nat)) "java/lang/String" "value" "[B") (Jvm.Term.int (3 : Int32))) (Jvm.Term.int (121 : Int32))),
  (Jvm.Cond.exactly (Jvm.Term.string "StiltTown$Tokens" (97 : Nat)) "java/lang/String"),
  (Jvm.Cond.eq (Jvm.Term.field (Jvm.Term.string "StiltTown$Tokens" (97 : Nat)) "java/lang/String" "coder" "B") (Jvm.Term.int (0 : Int32))),
  (Jvm.Cond.arrayOf (Jvm.Term.field (Jvm.Term.string "StiltTown$Tokens" (97 : Nat)) "java/lang/String" "value" "[B") Jvm.ClassFile.FieldType.byte),
  (Jvm.Cond.eq (Jvm.Term.length (Jvm.Term.field (Jvm.Term.string "StiltTown$Tokens" (97 : Nat)) "java/lang/String" "value" "[B")) (Jvm.Term.int (4 : Int32))),
  (Jvm.Cond.eq (Jvm.Term.elem (Jvm.Term.field (Jvm.Term.string "StiltTown$Tokens" (97 : Nat)) "java/lang/String" "value" "[B") (Jvm.Term.int (0 : Int32))) (Jvm.Term.int (119 : Int32))),
  (Jvm.Cond.eq (Jvm.Term.elem (Jvm.Term.field (Jvm.Term.string "StiltTown$Tokens" (97 : Nat)) "java/lang/String" "value" "[B") (Jvm.Term.int (1 : Int32))) (Jvm.Term.int (111 : Int32))),
  (Jvm.Cond.eq (Jvm.Term.elem (Jvm.Term.field (Jvm.Term.string "StiltTown$Tokens" (97 : Nat)) "java/lang/String" "value" "[B") (Jvm.Term.int (2 : Int32))) (Jvm.Term.int (111 : Int32))),
  (Jvm.Cond.eq (Jvm.Term.elem (Jvm.Term.field (Jvm.Term.string "StiltTown$Tokens" (97 : Nat)) "java/lang/String" "value" "[B") (Jvm.Term.int (3 : Int32))) (Jvm.Term.int (100 : Int32))),
  (Jvm.Cond.exactly (Jvm.Term.string "StiltTown$Tokens" (99 : Nat)) "java/lang/String"),
  (Jvm.Cond.eq (Jvm.Term.field (Jvm.Term.string "StiltTown$Tokens" (99 : Nat)) "java/lang/String" "coder" "B") (Jvm.Term.int (0 : Int32))),
  (Jvm.Cond.arrayOf (Jvm.Term.field (Jvm.Term.string "StiltTown$Tokens" (99 : Nat)) "java/lang/String" "value" "[B") Jvm.ClassFile.FieldType.byte),
  (Jvm.Cond.eq (Jvm.Term.length (Jvm.Term.field (Jvm.Term.string "StiltTown$Tokens" (99 : Nat)) "java/lang/String" "value" "[B")) (Jvm.Term.int (5 : Int32))),
  (Jvm.Cond.eq (Jvm.Term.elem (Jvm.Term.field (Jvm.Term.string "StiltTown$Tokens" (99 : Nat)) "java/lang/String" "value" "[B") (Jvm.Term.int (0 : Int32))) (Jvm.Term.int (99 : Int32))),
  (Jvm.Cond.eq (Jvm.Term.elem (Jvm.Term.field (Jvm.Term.string "StiltTown$Tokens" (99 : Nat)) "java/lang/String" "value" "[B") (Jvm.Term.int (1 : Int32))) (Jvm.Term.int (114 : Int32))),
  (Jvm.Cond.eq (Jvm.Term.elem (Jvm.Term.field (Jvm.Term.string "StiltTown$Tokens" (99 : Nat)) "java/lang/String" "value" "[B") (Jvm.Term.int (2 : Int32))) (Jvm.Term.int (101 : Int32))),
  (Jvm.Cond.eq (Jvm.Term.elem (Jvm.Term.field (Jvm.Term.string "StiltTown$Tokens" (99 : Nat)) "java/lang/String" "value" "[B") (Jvm.Term.int (3 : Int32))) (Jvm.Term.int (119 : Int32))),
  (Jvm.Cond.eq (Jvm.Term.elem (Jvm.Term.field (Jvm.Term.string "StiltTown$Tokens" (99 : Nat)) "java/lang/String" "value" "[B") (Jvm.Term.int (4 : Int32))) (Jvm.Term.int (115 : Int32))),
  (Jvm.Cond.exactly (Jvm.Term.string "StiltTown$Tokens" (101 : Nat)) "java/lang/String"),
  (Jvm.Cond.eq (Jvm.Term.field (Jvm.Term.string "StiltTown$Tokens" (101 : Nat)) "java/lang/String" "coder" "B") (Jvm.Term.int (0 : Int32))),
  (Jvm.Cond.arrayOf (Jvm.Term.field (Jvm.Term.string "StiltTown$Tokens" (101 : Nat)) "java/lang/String" "value" "[B") Jvm.ClassFile.FieldType.byte),
  (Jvm.Cond.eq (Jvm.Term.length (Jvm.Term.field (Jvm.Term.string "StiltTown$Tokens" (101 : Nat)) "java/lang/String" "value" "[B")) (Jvm.Term.int (4 : Int32))),
  (Jvm.Cond.eq (Jvm.Term.elem (Jvm.Term.field (Jvm.Term.string "StiltTown$Tokens" (101 : Nat)) "java/lang/String" "value" "[B") (Jvm.Term.int (0 : Int32))) (Jvm.Term.int (106 : Int32))),
  (Jvm.Cond.eq (Jvm.Term.elem (Jvm.Term.field (Jvm.Term.string "StiltTown$Tokens" (101 : Nat)) "java/lang/String" "value" "[B") (Jvm.Term.int (1 : Int32))) (Jvm.Term.int (97 : Int32))),
  (Jvm.Cond.eq (Jvm.Term.elem (Jvm.Term.field (Jvm.Term.string "StiltTown$Tokens" (101 : Nat)) "java/lang/String" "value" "[B") (Jvm.Term.int (2 : Int32))) (Jvm.Term.int (99 : Int32))),
  (Jvm.Cond.eq (Jvm.Term.elem (Jvm.Term.field (Jvm.Term.string "StiltTown$Tokens" (101 : Nat)) "java/lang/String" "value" "[B") (Jvm.Term.int (3 : Int32))) (Jvm.Term.int (107 : Int32))),
  (Jvm.Cond.exactly (Jvm.Term.string "StiltTown$Tokens" (103 : Nat)) "java/lang/String"),
  (Jvm.Cond.eq (Jvm.Term.field (Jvm.Term.string "StiltTown$Tokens" (103 : Nat)) "java/lang/String" "coder" "B") (Jvm.Term.int (0 : Int32))),
  (Jvm.Cond.arrayOf (Jvm.Term.field (Jvm.Term.string "StiltTown$Tokens" (103 : Nat)) "java/lang/String" "value" "[B") Jvm.ClassFile.FieldType.byte),
  (Jvm.Cond.eq (Jvm.Term.length (Jvm.Term.field (Jvm.Term.string "StiltTown$Tokens" (103 : Nat)) "java/lang/String" "value" "[B")) (Jvm.Term.int (5 : Int32))),
  (Jvm.Cond.eq (Jvm.Term.elem (Jvm.Term.field (Jvm.Term.string "StiltTown$Tokens" (103 : Nat)) "java/lang/String" "value" "[B") (Jvm.Term.int (0 : Int32))) (Jvm.Term.int (102 : Int32))),
  (Jvm.Cond.eq (Jvm.Term.elem (Jvm.Term.field (Jvm.Term.string "StiltTown$Tokens" (103 : Nat)) "java/lang/String" "value" "[B") (Jvm.Term.int (1 : Int32))) (Jvm.Term.int (97 : Int32))),
  (Jvm.Cond.eq (Jvm.Term.elem (Jvm.Term.field (Jvm.Term.string "StiltTown$Tokens" (103 : Nat)) "java/lang/String" "value" "[B") (Jvm.Term.int (2 : Int32))) (Jvm.Term.int (108 : Int32))),
  (Jvm.Cond.eq (Jvm.Term.elem (Jvm.Term.field (Jvm.Term.string "StiltTown$Tokens" (103 : Nat)) "java/lang/String" "value" "[B") (Jvm.Term.int (3 : Int32))) (Jvm.Term.int (108 : Int32))),
  (Jvm.Cond.eq (Jvm.Term.elem (Jvm.Term.field (Jvm.Term.string "StiltTown$Tokens" (103 : Nat)) "java/lang/String" "value" "[B") (Jvm.Term.int (4 : Int32))) (Jvm.Term.int (115 : Int32))),
  (Jvm.Cond.exactly (Jvm.Term.string "StiltTown$Tokens" (105 : Nat)) "java/lang/String"),
  (Jvm.Cond.eq (Jvm.Term.field (Jvm.Term.string "StiltTown$Tokens" (105 : Nat)) "java/lang/String" "coder" "B") (Jvm.Term.int (0 : Int32))),
  (Jvm.Cond.arrayOf (Jvm.Term.field (Jvm.Term.string "StiltTown$Tokens" (105 : Nat)) "java/lang/String" "value" "[B") Jvm.ClassFile.FieldType.byte),
  (Jvm.Cond.eq (Jvm.Term.length (Jvm.Term.field (Jvm.Term.string "StiltTown$Tokens" (105 : Nat)) "java/lang/String" "value" "[B")) (Jvm.Term.int (3 : Int32))),
  (Jvm.Cond.eq (Jvm.Term.elem (Jvm.Term.field (Jvm.Term.string "StiltTown$Tokens" (105 : Nat)) "java/lang/String" "value" "[B") (Jvm.Term.int (0 : Int32))) (Jvm.Term.int (98 : Int32))),
  (Jvm.Cond.eq (Jvm.Term.elem (Jvm.Term.field (Jvm.Term.string "StiltTown$Tokens" (105 : Nat)) "java/lang/String" "value" "[B") (Jvm.Term.int (1 : Int32))) (Jvm.Term.int (97 : Int32))),
  (Jvm.Cond.eq (Jvm.Term.elem (Jvm.Term.field (Jvm.Term.string "StiltTown$Tokens" (105 : Nat)) "java/lang/String" "value" "[B") (Jvm.Term.int (2 : Int32))) (Jvm.Term.int (100 : Int32))),
  (Jvm.Cond.exactly (Jvm.Term.string "StiltTown$Tokens" (107 : Nat)) "java/lang/String"),
  (Jvm.Cond.eq (Jvm.Term.field (Jvm.Term.string "StiltTown$Tokens" (107 : Nat)) "java/lang/String" "coder" "B") (Jvm.Term.int (0 : Int32))),
  (Jvm.Cond.arrayOf (Jvm.Term.field (Jvm.Term.string "StiltTown$Tokens" (107 : Nat)) "java/lang/String" "value" "[B") Jvm.ClassFile.FieldType.byte),
  (Jvm.Cond.eq (Jvm.Term.length (Jvm.Term.field (Jvm.Term.string "StiltTown$Tokens" (107 : Nat)) "java/lang/String" "value" "[B")) (Jvm.Term.int (4 : Int32))),
  (Jvm.Cond.eq (Jvm.Term.elem (Jvm.Term.field (Jvm.Term.string "StiltTown$Tokens" (107 : Nat)) "java/lang/String" "value" "[B") (Jvm.Term.int (0 : Int32))) (Jvm.Term.int (116 : Int32))),
  (Jvm.Cond.eq (Jvm.Term.elem (Jvm.Term.field (Jvm.Term.string "StiltTown$Tokens" (107 : Nat)) "java/lang/String" "value" "[B") (Jvm.Term.int (1 : Int32))) (Jvm.Term.int (105 : Int32))),
  (Jvm.Cond.eq (Jvm.Term.elem (Jvm.Term.field (Jvm.Term.string "StiltTown$Tokens" (107 : Nat)) "java/lang/String" "value" "[B") (Jvm.Term.int (2 : Int32))) (Jvm.Term.int (100 : Int32))),
  (Jvm.Cond.eq (Jvm.Term.elem (Jvm.Term.field (Jvm.Term.string "StiltTown$Tokens" (107 : Nat)) "java/lang/String" "value" "[B") (Jvm.Term.int (3 : Int32))) (Jvm.Term.int (101 : Int32))),
  (Jvm.Cond.exactly (Jvm.Term.string "StiltTown$Tokens" (109 : Nat)) "java/lang/String"),
  (Jvm.Cond.eq (Jvm.Term.field (Jvm.Term.string "StiltTown$Tokens" (109 : Nat)) "java/lang/String" "coder" "B") (Jvm.Term.int (0 : Int32))),
  (Jvm.Cond.arrayOf (Jvm.Term.field (Jvm.Term.string "StiltTown$Tokens" (109 : Nat)) "java/lang/String" "value" "[B") Jvm.ClassFile.FieldType.byte),
  (Jvm.Cond.eq (Jvm.Term.length (Jvm.Term.field (Jvm.Term.string "StiltTown$Tokens" (109 : Nat)) "java/lang/String" "value" "[B")) (Jvm.Term.int (3 : Int32))),
  (Jvm.Cond.eq (Jvm.Term.elem (Jvm.Term.field (Jvm.Term.string "StiltTown$Tokens" (109 : Nat)) "java/lang/String" "value" "[B") (Jvm.Term.int (0 : Int32))) (Jvm.Term.int (100 : Int32))),
  (Jvm.Cond.eq (Jvm.Term.elem (Jvm.Term.field (Jvm.Term.string "StiltTown$Tokens" (109 : Nat)) "java/lang/String" "value" "[B") (Jvm.Term.int (1 : Int32))) (Jvm.Term.int (117 : Int32))),
  (Jvm.Cond.eq (Jvm.Term.elem (Jvm.Term.field (Jvm.Term.string "StiltTown$Tokens" (109 : Nat)) "java/lang/String" "value" "[B") (Jvm.Term.int (2 : Int32))) (Jvm.Term.int (101 : Int32))),
  (Jvm.Cond.exactly (Jvm.Term.string "StiltTown$Tokens" (111 : Nat)) "java/lang/String"),
  (Jvm.Cond.eq (Jvm.Term.field (Jvm.Term.string "StiltTown$Tokens" (111 : Nat)) "java/lang/String" "coder" "B") (Jvm.Term.int (0 : Int32))),
  (Jvm.Cond.arrayOf (Jvm.Term.field (Jvm.Term.string "StiltTown$Tokens" (111 : Nat)) "java/lang/String" "value" "[B") Jvm.ClassFile.FieldType.byte),
  (Jvm.Cond.eq (Jvm.Term.length (Jvm.Term.field (Jvm.Term.string "StiltTown$Tokens" (111 : Nat)) "java/lang/String" "value" "[B")) (Jvm.Term.int (4 : Int32))),
  (Jvm.Cond.eq (Jvm.Term.elem (Jvm.Term.field (Jvm.Term.string "StiltTown$Tokens" (111 : Nat)) "java/lang/String" "value" "[B") (Jvm.Term.int (0 : Int32))) (Jvm.Term.int (115 : Int32))),
  (Jvm.Cond.eq (Jvm.Term.elem (Jvm.Term.field (Jvm.Term.string "StiltTown$Tokens" (111 : Nat)) "java/lang/String" "value" "[B") (Jvm.Term.int (1 : Int32))) (Jvm.Term.int (119 : Int32))),
  (Jvm.Cond.eq (Jvm.Term.elem (Jvm.Term.field (Jvm.Term.string "StiltTown$Tokens" (111 : Nat)) "java/lang/String" "value" "[B") (Jvm.Term.int (2 : Int32))) (Jvm.Term.int (97 : Int32))),
  (Jvm.Cond.eq (Jvm.Term.elem (Jvm.Term.field (Jvm.Term.string "StiltTown$Tokens" (111 : Nat)) "java/lang/String" "value" "[B") (Jvm.Term.int (3 : Int32))) (Jvm.Term.int (121 : Int32))),
  (Jvm.Cond.exactly (Jvm.Term.string "StiltTown$Tokens" (113 : Nat)) "java/lang/String"),
  (Jvm.Cond.eq (Jvm.Term.field (Jvm.Term.string "StiltTown$Tokens" (113 : Nat)) "java/lang/String" "coder" "B") (Jvm.Term.int (0 : Int32))),
  (Jvm.Cond.arrayOf (Jvm.Term.field (Jvm.Term.string "StiltTown$Tokens" (113 : Nat)) "java/lang/String" "value" "[B") Jvm.ClassFile.FieldType.byte),
  (Jvm.Cond.eq (Jvm.Term.length (Jvm.Term.field (Jvm.Term.string "StiltTown$Tokens" (113 : Nat)) "java/lang/String" "value" "[B")) (Jvm.Term.int (6 : Int32))),
  (Jvm.Cond.eq (Jvm.Term.elem (Jvm.Term.field (Jvm.Term.string "StiltTown$Tokens" (113 : Nat)) "java/lang/String" "value" "[B") (Jvm.Term.int (0 : Int32))) (Jvm.Term.int (104 : Int32))),
  (Jvm.Cond.eq (Jvm.Term.elem (Jvm.Term.field (Jvm.Term.string "StiltTown$Tokens" (113 : Nat)) "java/lang/String" "value" "[B") (Jvm.Term.int (1 : Int32))) (Jvm.Term.int (101 : Int32))),
  (Jvm.Cond.eq (Jvm.Term.elem (Jvm.Term.field (Jvm.Term.string "StiltTown$Tokens" (113 : Nat)) "java/lang/String" "value" "[B") (Jvm.Term.int (2 : Int32))) (Jvm.Term.int (105 : Int32))),
  (Jvm.Cond.eq (Jvm.Term.elem (Jvm.Term.field (Jvm.Term.string "StiltTown$Tokens" (113 : Nat)) "java/lang/String" "value" "[B") (Jvm.Term.int (3 : Int32))) (Jvm.Term.int (103 : Int32))),
  (Jvm.Cond.eq (Jvm.Term.elem (Jvm.Term.field (Jvm.Term.string "StiltTown$Tokens" (113 : Nat)) "java/lang/String" "value" "[B") (Jvm.Term.int (4 : Int32))) (Jvm.Term.int (104 : Int32))),
  (Jvm.Cond.eq (Jvm.Term.elem (Jvm.Term.field (Jvm.Term.string "StiltTown$Tokens" (113 : Nat)) "java/lang/String" "value" "[B") (Jvm.Term.int (5 : Int32))) (Jvm.Term.int (116 : Int32))),
  (Jvm.Cond.exactly (Jvm.Term.string "StiltTown$Tokens" (115 : Nat)) "java/lang/String"),
  (Jvm.Cond.eq (Jvm.Term.field (Jvm.Term.string "StiltTown$Tokens" (115 : Nat)) "java/lang/String" "coder" "B") (Jvm.Term.int (0 : Int32))),
  (Jvm.Cond.arrayOf (Jvm.Term.field (Jvm.Term.string "StiltTown$Tokens" (115 : Nat)) "java/lang/String" "value" "[B") Jvm.ClassFile.FieldType.byte),
  (Jvm.Cond.eq (Jvm.Term.length (Jvm.Term.field (Jvm.Term.string "StiltTown$Tokens" (115 : Nat)) "java/lang/String" "value" "[B")) (Jvm.Term.int (4 : Int32))),
  (Jvm.Cond.eq (Jvm.Term.elem (Jvm.Term.field (Jvm.Term.string "StiltTown$Tokens" (115 : Nat)) "java/lang/String" "value" "[B") (Jvm.Term.int (0 : Int32))) (Jvm.Term.int (114 : Int32))),
  (Jvm.Cond.eq (Jvm.Term.elem (Jvm.Term.field (Jvm.Term.string "StiltTown$Tokens" (115 : Nat)) "java/lang/String" "value" "[B") (Jvm.Term.int (1 : Int32))) (Jvm.Term.int (97 : Int32))),
  (Jvm.Cond.eq (Jvm.Term.elem (Jvm.Term.field (Jvm.Term.string "StiltTown$Tokens" (115 : Nat)) "java/lang/String" "value" "[B") (Jvm.Term.int (2 : Int32))) (Jvm.Term.int (110 : Int32))),
  (Jvm.Cond.eq (Jvm.Term.elem (Jvm.Term.field (Jvm.Term.string "StiltTown$Tokens" (115 : Nat)) "java/lang/String" "value" "[B") (Jvm.Term.int (3 : Int32))) (Jvm.Term.int (107 : Int32))),
  (Jvm.Cond.exactly (Jvm.Term.string "StiltTown$Tokens" (117 : Nat)) "java/lang/String"),
  (Jvm.Cond.eq (Jvm.Term.field (Jvm.Term.string "StiltTown$Tokens" (117 : Nat)) "java/lang/String" "coder" "B") (Jvm.Term.int (0 : Int32))),
  (Jvm.Cond.arrayOf (Jvm.Term.field (Jvm.Term.string "StiltTown$Tokens" (117 : Nat)) "java/lang/String" "value" "[B") Jvm.ClassFile.FieldType.byte),
  (Jvm.Cond.eq (Jvm.Term.length (Jvm.Term.field (Jvm.Term.string "StiltTown$Tokens" (117 : Nat)) "java/lang/String" "value" "[B")) (Jvm.Term.int (4 : Int32))),
  (Jvm.Cond.eq (Jvm.Term.elem (Jvm.Term.field (Jvm.Term.string "StiltTown$Tokens" (117 : Nat)) "java/lang/String" "value" "[B") (Jvm.Term.int (0 : Int32))) (Jvm.Term.int (108 : Int32))),
  (Jvm.Cond.eq (Jvm.Term.elem (Jvm.Term.field (Jvm.Term.string "StiltTown$Tokens" (117 : Nat)) "java/lang/String" "value" "[B") (Jvm.Term.int (1 : Int32))) (Jvm.Term.int (111 : Int32))),
  (Jvm.Cond.eq (Jvm.Term.elem (Jvm.Term.field (Jvm.Term.string "StiltTown$Tokens" (117 : Nat)) "java/lang/String" "value" "[B") (Jvm.Term.int (2 : Int32))) (Jvm.Term.int (97 : Int32))),
  (Jvm.Cond.eq (Jvm.Term.elem (Jvm.Term.field (Jvm.Term.string "StiltTown$Tokens" (117 : Nat)) "java/lang/String" "value" "[B") (Jvm.Term.int (3 : Int32))) (Jvm.Term.int (100 : Int32))),
  (Jvm.Cond.exactly (Jvm.Term.string "StiltTown$Tokens" (119 : Nat)) "java/lang/String"),
  (Jvm.Cond.eq (Jvm.Term.field (Jvm.Term.string "StiltTown$Tokens" (119 : Nat)) "java/lang/String" "coder" "B") (Jvm.Term.int (0 : Int32))),
  (Jvm.Cond.arrayOf (Jvm.Term.field (Jvm.Term.string "StiltTown$Tokens" (119 : Nat)) "java/lang/String" "value" "[B") Jvm.ClassFile.FieldType.byte),
  (Jvm.Cond.eq (Jvm.Term.length (Jvm.Term.field (Jvm.Term.string "StiltTown$Tokens" (119 : Nat)) "java/lang/String" "value" "[B")) (Jvm.Term.int (1 : Int32))),
  (Jvm.Cond.eq (Jvm.Term.elem (Jvm.Term.field (Jvm.Term.string "StiltTown$Tokens" (119 : Nat)) "java/lang/String" "value" "[B") (Jvm.Term.int (0 : Int32))) (Jvm.Term.int (120 : Int32))),
  (Jvm.Cond.exactly (Jvm.Term.string "StiltTown$Tokens" (121 : Nat)) "java/lang/String"),
  (Jvm.Cond.eq (Jvm.Term.field (Jvm.Term.string "StiltTown$Tokens" (121 : Nat)) "java/lang/String" "coder" "B") (Jvm.Term.int (0 : Int32))),
  (Jvm.Cond.arrayOf (Jvm.Term.field (Jvm.Term.string "StiltTown$Tokens" (121 : Nat)) "java/lang/String" "value" "[B") Jvm.ClassFile.FieldType.byte),
  (Jvm.Cond.eq (Jvm.Term.length (Jvm.Term.field (Jvm.Term.string "StiltTown$Tokens" (121 : Nat)) "java/lang/String" "value" "[B")) (Jvm.Term.int (4 : Int32))),
  (Jvm.Cond.eq (Jvm.Term.elem (Jvm.Term.field (Jvm.Term.string "StiltTown$Tokens" (121 : Nat)) "java/lang/String" "value" "[B") (Jvm.Term.int (0 : Int32))) (Jvm.Term.int (104 : Int32))),
  (Jvm.Cond.eq (Jvm.Term.elem (Jvm.Term.field (Jvm.Term.string "StiltTown$Tokens" (121 : Nat)) "java/lang/String" "value" "[B") (Jvm.Term.int (1 : Int32))) (Jvm.Term.int (111 : Int32))),
  (Jvm.Cond.eq (Jvm.Term.elem (Jvm.Term.field (Jvm.Term.string "StiltTown$Tokens" (121 : Nat)) "java/lang/String" "value" "[B") (Jvm.Term.int (2 : Int32))) (Jvm.Term.int (117 : Int32))),
  (Jvm.Cond.eq (Jvm.Term.elem (Jvm.Term.field (Jvm.Term.string "StiltTown$Tokens" (121 : Nat)) "java/lang/String" "value" "[B") (Jvm.Term.int (3 : Int32))) (Jvm.Term.int (114 : Int32))),
  (Jvm.Cond.exactly (Jvm.Term.string "StiltTown$Tokens" (123 : Nat)) "java/lang/String"),
  (Jvm.Cond.eq (Jvm.Term.field (Jvm.Term.string "StiltTown$Tokens" (123 : Nat)) "java/lang/String" "coder" "B") (Jvm.Term.int (0 : Int32))),
  (Jvm.Cond.arrayOf (Jvm.Term.field (Jvm.Term.string "StiltTown$Tokens" (123 : Nat)) "java/lang/String" "value" "[B") Jvm.ClassFile.FieldType.byte),
  (Jvm.Cond.eq (Jvm.Term.length (Jvm.Term.field (Jvm.Term.string "StiltTown$Tokens" (123 : Nat)) "java/lang/String" "value" "[B")) (Jvm.Term.int (5 : Int32))),
  (Jvm.Cond.eq (Jvm.Term.elem (Jvm.Term.field (Jvm.Term.string "StiltTown$Tokens" (123 : Nat)) "java/lang/String" "value" "[B") (Jvm.Term.int (0 : Int32))) (Jvm.Term.int (109 : Int32))),
  (Jvm.Cond.eq (Jvm.Term.elem (Jvm.Term.field (Jvm.Term.string "StiltTown$Tokens" (123 : Nat)) "java/lang/String" "value" "[B") (Jvm.Term.int (1 : Int32))) (Jvm.Term.int (111 : Int32))),
  (Jvm.Cond.eq (Jvm.Term.elem (Jvm.Term.field (Jvm.Term.string "StiltTown$Tokens" (123 : Nat)) "java/lang/String" "value" "[B") (Jvm.Term.int (2 : Int32))) (Jvm.Term.int (110 : Int32))),
  (Jvm.Cond.eq (Jvm.Term.elem (Jvm.Term.field (Jvm.Term.string "StiltTown$Tokens" (123 : Nat)) "java/lang/String" "value" "[B") (Jvm.Term.int (3 : Int32))) (Jvm.Term.int (116 : Int32))),
  (Jvm.Cond.eq (Jvm.Term.elem (Jvm.Term.field (Jvm.Term.string "StiltTown$Tokens" (123 : Nat)) "java/lang/String" "value" "[B") (Jvm.Term.int (4 : Int32))) (Jvm.Term.int (104 : Int32))),
  (Jvm.Cond.exactly (Jvm.Term.string "StiltTown$Tokens" (125 : Nat)) "java/lang/String"),
  (Jvm.Cond.eq (Jvm.Term.field (Jvm.Term.string "StiltTown$Tokens" (125 : Nat)) "java/lang/String" "coder" "B") (Jvm.Term.int (0 : Int32))),
  (Jvm.Cond.arrayOf (Jvm.Term.field (Jvm.Term.string "StiltTown$Tokens" (125 : Nat)) "java/lang/String" "value" "[B") Jvm.ClassFile.FieldType.byte),
  (Jvm.Cond.eq (Jvm.Term.length (Jvm.Term.field (Jvm.Term.string "StiltTown$Tokens" (125 : Nat)) "java/lang/String" "value" "[B")) (Jvm.Term.int (4 : Int32))),
  (Jvm.Cond.eq (Jvm.Term.elem (Jvm.Term.field (Jvm.Term.string "StiltTown$Tokens" (125 : Nat)) "java/lang/String" "value" "[B") (Jvm.Term.int (0 : Int32))) (Jvm.Term.int (119 : Int32))),
  (Jvm.Cond.eq (Jvm.Term.elem (Jvm.Term.field (Jvm.Term.string "StiltTown$Tokens" (125 : Nat)) "java/lang/String" "value" "[B") (Jvm.Term.int (1 : Int32))) (Jvm.Term.int (105 : Int32))),
  (Jvm.Cond.eq (Jvm.Term.elem (Jvm.Term.field (Jvm.Term.string "StiltTown$Tokens" (125 : Nat)) "java/lang/String" "value" "[B") (Jvm.Term.int (2 : Int32))) (Jvm.Term.int (110 : Int32))),
  (Jvm.Cond.eq (Jvm.Term.elem (Jvm.Term.field (Jvm.Term.string "StiltTown$Tokens" (125 : Nat)) "java/lang/String" "value" "[B") (Jvm.Term.int (3 : Int32))) (Jvm.Term.int (100 : Int32))),
  (Jvm.Cond.exactly (Jvm.Term.string "StiltTown$Tokens" (127 : Nat)) "java/lang/String"),
  (Jvm.Cond.eq (Jvm.Term.field (Jvm.Term.string "StiltTown$Tokens" (127 : Nat)) "java/lang/String" "coder" "B") (Jvm.Term.int (0 : Int32))),
  (Jvm.Cond.arrayOf (Jvm.Term.field (Jvm.Term.string "StiltTown$Tokens" (127 : Nat)) "java/lang/String" "value" "[B") Jvm.ClassFile.FieldType.byte),
  (Jvm.Cond.eq (Jvm.Term.length (Jvm.Term.field (Jvm.Term.string "StiltTown$Tokens" (127 : Nat)) "java/lang/String" "value" "[B")) (Jvm.Term.int (4 : Int32))),
  (Jvm.Cond.eq (Jvm.Term.elem (Jvm.Term.field (Jvm.Term.string "StiltTown$Tokens" (127 : Nat)) "java/lang/String" "value" "[B") (Jvm.Term.int (0 : Int32))) (Jvm.Term.int (103 : Int32))),
  (Jvm.Cond.eq (Jvm.Term.elem (Jvm.Term.field (Jvm.Term.string "StiltTown$Tokens" (127 : Nat)) "java/lang/String" "value" "[B") (Jvm.Term.int (1 : Int32))) (Jvm.Term.int (111 : Int32))),
  (Jvm.Cond.eq (Jvm.Term.elem (Jvm.Term.field (Jvm.Term.string "StiltTown$Tokens" (127 : Nat)) "java/lang/String" "value" "[B") (Jvm.Term.int (2 : Int32))) (Jvm.Term.int (110 : Int32))),
  (Jvm.Cond.eq (Jvm.Term.elem (Jvm.Term.field (Jvm.Term.string "StiltTown$Tokens" (127 : Nat)) "java/lang/String" "value" "[B") (Jvm.Term.int (3 : Int32))) (Jvm.Term.int (101 : Int32))),
  (Jvm.Cond.exactly (Jvm.Term.string "StiltTown$Tokens" (129 : Nat)) "java/lang/String"),
  (Jvm.Cond.eq (Jvm.Term.field (Jvm.Term.string "StiltTown$Tokens" (129 : Nat)) "java/lang/String" "coder" "B") (Jvm.Term.int (0 : Int32))),
  (Jvm.Cond.arrayOf (Jvm.Term.field (Jvm.Term.string "StiltTown$Tokens" (129 : Nat)) "java/lang/String" "value" "[B") Jvm.ClassFile.FieldType.byte),
  (Jvm.Cond.eq (Jvm.Term.length (Jvm.Term.field (Jvm.Term.string "StiltTown$Tokens" (129 : Nat)) "java/lang/String" "value" "[B")) (Jvm.Term.int (6 : Int32))),
  (Jvm.Cond.eq (Jvm.Term.elem (Jvm.Term.field (Jvm.Term.string "StiltTown$Tokens" (129 : Nat)) "java/lang/String" "value" "[B") (Jvm.Term.int (0 : Int32))) (Jvm.Term.int (103 : Int32))),
  (Jvm.Cond.eq (Jvm.Term.elem (Jvm.Term.field (Jvm.Term.string "StiltTown$Tokens" (129 : Nat)) "java/lang/String" "value" "[B") (Jvm.Term.int (1 : Int32))) (Jvm.Term.int (114 : Int32))),
  (Jvm.Cond.eq (Jvm.Term.elem (Jvm.Term.field (Jvm.Term.string "StiltTown$Tokens" (129 : Nat)) "java/lang/String" "value" "[B") (Jvm.Term.int (2 : Int32))) (Jvm.Term.int (111 : Int32))),
  (Jvm.Cond.eq (Jvm.Term.elem (Jvm.Term.field (Jvm.Term.string "StiltTown$Tokens" (129 : Nat)) "java/lang/String" "value" "[B") (Jvm.Term.int (3 : Int32))) (Jvm.Term.int (117 : Int32))),
  (Jvm.Cond.eq (Jvm.Term.elem (Jvm.Term.field (Jvm.Term.string "StiltTown$Tokens" (129 : Nat)) "java/lang/String" "value" "[B") (Jvm.Term.int (4 : Int32))) (Jvm.Term.int (110 : Int32))),
  (Jvm.Cond.eq (Jvm.Term.elem (Jvm.Term.field (Jvm.Term.string "StiltTown$Tokens" (129 : Nat)) "java/lang/String" "value" "[B") (Jvm.Term.int (5 : Int32))) (Jvm.Term.int (100 : Int32))),
  (Jvm.Cond.exactly (Jvm.Term.string "StiltTown$Tokens" (131 : Nat)) "java/lang/String"),
  (Jvm.Cond.eq (Jvm.Term.field (Jvm.Term.string "StiltTown$Tokens" (131 : Nat)) "java/lang/String" "coder" "B") (Jvm.Term.int (0 : Int32))),
  (Jvm.Cond.arrayOf (Jvm.Term.field (Jvm.Term.string "StiltTown$Tokens" (131 : Nat)) "java/lang/String" "value" "[B") Jvm.ClassFile.FieldType.byte),
  (Jvm.Cond.eq (Jvm.Term.length (Jvm.Term.field (Jvm.Term.string "StiltTown$Tokens" (131 : Nat)) "java/lang/String" "value" "[B")) (Jvm.Term.int (2 : Int32))),
  (Jvm.Cond.eq (Jvm.Term.elem (Jvm.Term.field (Jvm.Term.string "StiltTown$Tokens" (131 : Nat)) "java/lang/String" "value" "[B") (Jvm.Term.int (0 : Int32))) (Jvm.Term.int (105 : Int32))),
  (Jvm.Cond.eq (Jvm.Term.elem (Jvm.Term.field (Jvm.Term.string "StiltTown$Tokens" (131 : Nat)) "java/lang/String" "value" "[B") (Jvm.Term.int (1 : Int32))) (Jvm.Term.int (102 : Int32))),
  (Jvm.Cond.exactly (Jvm.Term.string "StiltTown$Tokens" (133 : Nat)) "java/lang/String"),
  (Jvm.Cond.eq (Jvm.Term.field (Jvm.Term.string "StiltTown$Tokens" (133 : Nat)) "java/lang/String" "coder" "B") (Jvm.Term.int (0 : Int32))),
  (Jvm.Cond.arrayOf (Jvm.Term.field (Jvm.Term.string "StiltTown$Tokens" (133 : Nat)) "java/lang/String" "value" "[B") Jvm.ClassFile.FieldType.byte),
  (Jvm.Cond.eq (Jvm.Term.length (Jvm.Term.field (Jvm.Term.string "StiltTown$Tokens" (133 : Nat)) "java/lang/String" "value" "[B")) (Jvm.Term.int (2 : Int32))),
  (Jvm.Cond.eq (Jvm.Term.elem (Jvm.Term.field (Jvm.Term.string "StiltTown$Tokens" (133 : Nat)) "java/lang/String" "value" "[B") (Jvm.Term.int (0 : Int32))) (Jvm.Term.int (111 : Int32))),
  (Jvm.Cond.eq (Jvm.Term.elem (Jvm.Term.field (Jvm.Term.string "StiltTown$Tokens" (133 : Nat)) "java/lang/String" "value" "[B") (Jvm.Term.int (1 : Int32))) (Jvm.Term.int (114 : Int32))),
  (Jvm.Cond.exactly (Jvm.Term.string "StiltTown$Tokens" (135 : Nat)) "java/lang/String"),
  (Jvm.Cond.eq (Jvm.Term.field (Jvm.Term.string "StiltTown$Tokens" (135 : Nat)) "java/lang/String" "coder" "B") (Jvm.Term.int (0 : Int32))),
  (Jvm.Cond.arrayOf (Jvm.Term.field (Jvm.Term.string "StiltTown$Tokens" (135 : Nat)) "java/lang/String" "value" "[B") Jvm.ClassFile.FieldType.byte),
  (Jvm.Cond.eq (Jvm.Term.length (Jvm.Term.field (Jvm.Term.string "StiltTown$Tokens" (135 : Nat)) "java/lang/String" "value" "[B")) (Jvm.Term.int (3 : Int32))),
  (Jvm.Cond.eq (Jvm.Term.elem (Jvm.Term.field (Jvm.Term.string "StiltTown$Tokens" (135 : Nat)) "java/lang/String" "value" "[B") (Jvm.Term.int (0 : Int32))) (Jvm.Term.int (97 : Int32))),
  (Jvm.Cond.eq (Jvm.Term.elem (Jvm.Term.field (Jvm.Term.string "StiltTown$Tokens" (135 : Nat)) "java/lang/String" "value" "[B") (Jvm.Term.int (1 : Int32))) (Jvm.Term.int (110 : Int32))),
  (Jvm.Cond.eq (Jvm.Term.elem (Jvm.Term.field (Jvm.Term.string "StiltTown$Tokens" (135 : Nat)) "java/lang/String" "value" "[B") (Jvm.Term.int (2 : Int32))) (Jvm.Term.int (100 : Int32))),
  (Jvm.Cond.exactly (Jvm.Term.string "StiltTown$Tokens" (137 : Nat)) "java/lang/String"),
  (Jvm.Cond.eq (Jvm.Term.field (Jvm.Term.string "StiltTown$Tokens" (137 : Nat)) "java/lang/String" "coder" "B") (Jvm.Term.int (0 : Int32))),
  (Jvm.Cond.arrayOf (Jvm.Term.field (Jvm.Term.string "StiltTown$Tokens" (137 : Nat)) "java/lang/String" "value" "[B") Jvm.ClassFile.FieldType.byte),
  (Jvm.Cond.eq (Jvm.Term.length (Jvm.Term.field (Jvm.Term.string "StiltTown$Tokens" (137 : Nat)) "java/lang/String" "value" "[B")) (Jvm.Term.int (3 : Int32))),
  (Jvm.Cond.eq (Jvm.Term.elem (Jvm.Term.field (Jvm.Term.string "StiltTown$Tokens" (137 : Nat)) "java/lang/String" "value" "[B") (Jvm.Term.int (0 : Int32))) (Jvm.Term.int (110 : Int32))),
  (Jvm.Cond.eq (Jvm.Term.elem (Jvm.Term.field (Jvm.Term.string "StiltTown$Tokens" (137 : Nat)) "java/lang/String" "value" "[B") (Jvm.Term.int (1 : Int32))) (Jvm.Term.int (111 : Int32))),
  (Jvm.Cond.eq (Jvm.Term.elem (Jvm.Term.field (Jvm.Term.string "StiltTown$Tokens" (137 : Nat)) "java/lang/String" "value" "[B") (Jvm.Term.int (2 : Int32))) (Jvm.Term.int (116 : Int32))),
  (Jvm.Cond.exactly (Jvm.Term.string "StiltTown$Tokens" (139 : Nat)) "java/lang/String"),
  (Jvm.Cond.eq (Jvm.Term.field (Jvm.Term.string "StiltTown$Tokens" (139 : Nat)) "java/lang/String" "coder" "B") (Jvm.Term.int (0 : Int32))),
  (Jvm.Cond.arrayOf (Jvm.Term.field (Jvm.Term.string "StiltTown$Tokens" (139 : Nat)) "java/lang/String" "value" "[B") Jvm.ClassFile.FieldType.byte),
  (Jvm.Cond.eq (Jvm.Term.length (Jvm.Term.field (Jvm.Term.string "StiltTown$Tokens" (139 : Nat)) "java/lang/String" "value" "[B")) (Jvm.Term.int (0 : Int32)))]
set_option maxRecDepth 100000 in
theorem narrowL_eq : flatC narrow_1 = narrowL := rfl
theorem nr {args : Array Value} {s : State} (hg : (Jvm.Cond.and given_1 narrow_1).before args s = true) {n : Nat} {w : Jvm.Cond} (h : narrowL[n]? = some w) : w.before args s = true := by
  refine flat_of_before _ hg w ?_
  show w ∈ flatC given_1 ++ flatC narrow_1
  rw [narrowL_eq]
  exact List.mem_append_right _ (List.mem_of_getElem? h)
def tmI : List Nat := [87, 89, 91, 93, 95, 97, 99, 101, 103, 105, 107, 109, 111, 113, 115, 117, 119, 121, 123, 125, 127, 129, 131, 133, 135, 137, 139]
def tmS (i : Nat) : Term := Term.string "StiltTown$Tokens" (tmI.getD i 0)
theorem s_ex {args : Array Value} {s : State} (hg : (Jvm.Cond.and given_1 narrow_1).before args s = true) : ∀ i : Nat, i < 27 → (Cond.exactly (tmS i) "java/lang/String").before args s = true := by
  intro i hi
  match i, hi with
  | 0, _ => exact nr hg (n := 7) rfl
  | 1, _ => exact nr hg (n := 16) rfl
  | 2, _ => exact nr hg (n := 26) rfl
  | 3, _ => exact nr hg (n := 32) rfl
  | 4, _ => exact nr hg (n := 41) rfl
  | 5, _ => exact nr hg (n := 49) rfl
  | 6, _ => exact nr hg (n := 57) rfl
  | 7, _ => exact nr hg (n := 66) rfl
  | 8, _ => exact nr hg (n := 74) rfl
  | 9, _ => exact nr hg (n := 83) rfl
  | 10, _ => exact nr hg (n := 90) rfl
  | 11, _ => exact nr hg (n := 98) rfl
  | 12, _ => exact nr hg (n := 105) rfl
  | 13, _ => exact nr hg (n := 113) rfl
  | 14, _ => exact nr hg (n := 123) rfl
  | 15, _ => exact nr hg (n := 131) rfl
  | 16, _ => exact nr hg (n := 139) rfl
  | 17, _ => exact nr hg (n := 144) rfl
  | 18, _ => exact nr hg (n := 152) rfl
  | 19, _ => exact nr hg (n := 161) rfl
  | 20, _ => exact nr hg (n := 169) rfl
  | 21, _ => exact nr hg (n := 177) rfl
  | 22, _ => exact nr hg (n := 187) rfl
  | 23, _ => exact nr hg (n := 193) rfl
  | 24, _ => exact nr hg (n := 199) rfl
  | 25, _ => exact nr hg (n := 206) rfl
  | 26, _ => exact nr hg (n := 213) rfl
  | _ + 27, h => exact absurd h (by omega)
theorem s_co {args : Array Value} {s : State} (hg : (Jvm.Cond.and given_1 narrow_1).before args s = true) : ∀ i : Nat, i < 27 → (Cond.eq (.field (tmS i) "java/lang/String" "coder" "B") (.int 0)).before args s = true := by
  intro i hi
  match i, hi with
  | 0, _ => exact nr hg (n := 8) rfl
  | 1, _ => exact nr hg (n := 17) rfl
  | 2, _ => exact nr hg (n := 27) rfl
  | 3, _ => exact nr hg (n := 33) rfl
  | 4, _ => exact nr hg (n := 42) rfl
  | 5, _ => exact nr hg (n := 50) rfl
  | 6, _ => exact nr hg (n := 58) rfl
  | 7, _ => exact nr hg (n := 67) rfl
  | 8, _ => exact nr hg (n := 75) rfl
  | 9, _ => exact nr hg (n := 84) rfl
  | 10, _ => exact nr hg (n := 91) rfl
  | 11, _ => exact nr hg (n := 99) rfl
  | 12, _ => exact nr hg (n := 106) rfl
  | 13, _ => exact nr hg (n := 114) rfl
  | 14, _ => exact nr hg (n := 124) rfl
  | 15, _ => exact nr hg (n := 132) rfl
  | 16, _ => exact nr hg (n := 140) rfl
  | 17, _ => exact nr hg (n := 145) rfl
  | 18, _ => exact nr hg (n := 153) rfl
  | 19, _ => exact nr hg (n := 162) rfl
  | 20, _ => exact nr hg (n := 170) rfl
  | 21, _ => exact nr hg (n := 178) rfl
  | 22, _ => exact nr hg (n := 188) rfl
  | 23, _ => exact nr hg (n := 194) rfl
  | 24, _ => exact nr hg (n := 200) rfl
  | 25, _ => exact nr hg (n := 207) rfl
  | 26, _ => exact nr hg (n := 214) rfl
  | _ + 27, h => exact absurd h (by omega)
theorem s_ar {args : Array Value} {s : State} (hg : (Jvm.Cond.and given_1 narrow_1).before args s = true) : ∀ i : Nat, i < 27 → (Cond.arrayOf (.field (tmS i) "java/lang/String" "value" "[B") .byte).before args s = true := by
  intro i hi
  match i, hi with
  | 0, _ => exact nr hg (n := 9) rfl
  | 1, _ => exact nr hg (n := 18) rfl
  | 2, _ => exact nr hg (n := 28) rfl
  | 3, _ => exact nr hg (n := 34) rfl
  | 4, _ => exact nr hg (n := 43) rfl
  | 5, _ => exact nr hg (n := 51) rfl
  | 6, _ => exact nr hg (n := 59) rfl
  | 7, _ => exact nr hg (n := 68) rfl
  | 8, _ => exact nr hg (n := 76) rfl
  | 9, _ => exact nr hg (n := 85) rfl
  | 10, _ => exact nr hg (n := 92) rfl
  | 11, _ => exact nr hg (n := 100) rfl
  | 12, _ => exact nr hg (n := 107) rfl
  | 13, _ => exact nr hg (n := 115) rfl
  | 14, _ => exact nr hg (n := 125) rfl
  | 15, _ => exact nr hg (n := 133) rfl
  | 16, _ => exact nr hg (n := 141) rfl
  | 17, _ => exact nr hg (n := 146) rfl
  | 18, _ => exact nr hg (n := 154) rfl
  | 19, _ => exact nr hg (n := 163) rfl
  | 20, _ => exact nr hg (n := 171) rfl
  | 21, _ => exact nr hg (n := 179) rfl
  | 22, _ => exact nr hg (n := 189) rfl
  | 23, _ => exact nr hg (n := 195) rfl
  | 24, _ => exact nr hg (n := 201) rfl
  | 25, _ => exact nr hg (n := 208) rfl
  | 26, _ => exact nr hg (n := 215) rfl
  | _ + 27, h => exact absurd h (by omega)
theorem s_le {args : Array Value} {s : State} (hg : (Jvm.Cond.and given_1 narrow_1).before args s = true) : ∀ i : Nat, i < 27 → (Cond.eq (.length (.field (tmS i) "java/lang/String" "value" "[B")) (.int (Int32.ofNat (strLen.getD i 0)))).before args s = true := by
  intro i hi
  match i, hi with
  | 0, _ => exact nr hg (n := 10) rfl
  | 1, _ => exact nr hg (n := 19) rfl
  | 2, _ => exact nr hg (n := 29) rfl
  | 3, _ => exact nr hg (n := 35) rfl
  | 4, _ => exact nr hg (n := 44) rfl
  | 5, _ => exact nr hg (n := 52) rfl
  | 6, _ => exact nr hg (n := 60) rfl
  | 7, _ => exact nr hg (n := 69) rfl
  | 8, _ => exact nr hg (n := 77) rfl
  | 9, _ => exact nr hg (n := 86) rfl
  | 10, _ => exact nr hg (n := 93) rfl
  | 11, _ => exact nr hg (n := 101) rfl
  | 12, _ => exact nr hg (n := 108) rfl
  | 13, _ => exact nr hg (n := 116) rfl
  | 14, _ => exact nr hg (n := 126) rfl
  | 15, _ => exact nr hg (n := 134) rfl
  | 16, _ => exact nr hg (n := 142) rfl
  | 17, _ => exact nr hg (n := 147) rfl
  | 18, _ => exact nr hg (n := 155) rfl
  | 19, _ => exact nr hg (n := 164) rfl
  | 20, _ => exact nr hg (n := 172) rfl
  | 21, _ => exact nr hg (n := 180) rfl
  | 22, _ => exact nr hg (n := 190) rfl
  | 23, _ => exact nr hg (n := 196) rfl
  | 24, _ => exact nr hg (n := 202) rfl
  | 25, _ => exact nr hg (n := 209) rfl
  | 26, _ => exact nr hg (n := 216) rfl
  | _ + 27, h => exact absurd h (by omega)
theorem s_el {args : Array Value} {s : State} (hg : (Jvm.Cond.and given_1 narrow_1).before args s = true) : ∀ i : Nat, i < 27 → ∀ j : Nat, j < strLen.getD i 0 → (Cond.eq (.elem (.field (tmS i) "java/lang/String" "value" "[B") (.int (Int32.ofNat j))) (.int ((strByt.getD i []).getD j 0))).before args s = true := by
  intro i hi
  match i, hi with
  | 0, _ => intro j hj; match j, hj with
    | 0, _ => exact nr hg (n := 11) rfl
    | 1, _ => exact nr hg (n := 12) rfl
    | 2, _ => exact nr hg (n := 13) rfl
    | 3, _ => exact nr hg (n := 14) rfl
    | 4, _ => exact nr hg (n := 15) rfl
    | q + 5, h => exact absurd (show q + 5 < 5 from h) (by omega)
  | 1, _ => intro j hj; match j, hj with
    | 0, _ => exact nr hg (n := 20) rfl
    | 1, _ => exact nr hg (n := 21) rfl
    | 2, _ => exact nr hg (n := 22) rfl
    | 3, _ => exact nr hg (n := 23) rfl
    | 4, _ => exact nr hg (n := 24) rfl
    | 5, _ => exact nr hg (n := 25) rfl
    | q + 6, h => exact absurd (show q + 6 < 6 from h) (by omega)
  | 2, _ => intro j hj; match j, hj with
    | 0, _ => exact nr hg (n := 30) rfl
    | 1, _ => exact nr hg (n := 31) rfl
    | q + 2, h => exact absurd (show q + 2 < 2 from h) (by omega)
  | 3, _ => intro j hj; match j, hj with
    | 0, _ => exact nr hg (n := 36) rfl
    | 1, _ => exact nr hg (n := 37) rfl
    | 2, _ => exact nr hg (n := 38) rfl
    | 3, _ => exact nr hg (n := 39) rfl
    | 4, _ => exact nr hg (n := 40) rfl
    | q + 5, h => exact absurd (show q + 5 < 5 from h) (by omega)
  | 4, _ => intro j hj; match j, hj with
    | 0, _ => exact nr hg (n := 45) rfl
    | 1, _ => exact nr hg (n := 46) rfl
    | 2, _ => exact nr hg (n := 47) rfl
    | 3, _ => exact nr hg (n := 48) rfl
    | q + 4, h => exact absurd (show q + 4 < 4 from h) (by omega)
  | 5, _ => intro j hj; match j, hj with
    | 0, _ => exact nr hg (n := 53) rfl
    | 1, _ => exact nr hg (n := 54) rfl
    | 2, _ => exact nr hg (n := 55) rfl
    | 3, _ => exact nr hg (n := 56) rfl
    | q + 4, h => exact absurd (show q + 4 < 4 from h) (by omega)
  | 6, _ => intro j hj; match j, hj with
    | 0, _ => exact nr hg (n := 61) rfl
    | 1, _ => exact nr hg (n := 62) rfl
    | 2, _ => exact nr hg (n := 63) rfl
    | 3, _ => exact nr hg (n := 64) rfl
    | 4, _ => exact nr hg (n := 65) rfl
    | q + 5, h => exact absurd (show q + 5 < 5 from h) (by omega)
  | 7, _ => intro j hj; match j, hj with
    | 0, _ => exact nr hg (n := 70) rfl
    | 1, _ => exact nr hg (n := 71) rfl
    | 2, _ => exact nr hg (n := 72) rfl
    | 3, _ => exact nr hg (n := 73) rfl
    | q + 4, h => exact absurd (show q + 4 < 4 from h) (by omega)
  | 8, _ => intro j hj; match j, hj with
    | 0, _ => exact nr hg (n := 78) rfl
    | 1, _ => exact nr hg (n := 79) rfl
    | 2, _ => exact nr hg (n := 80) rfl
    | 3, _ => exact nr hg (n := 81) rfl
    | 4, _ => exact nr hg (n := 82) rfl
    | q + 5, h => exact absurd (show q + 5 < 5 from h) (by omega)
  | 9, _ => intro j hj; match j, hj with
    | 0, _ => exact nr hg (n := 87) rfl
    | 1, _ => exact nr hg (n := 88) rfl
    | 2, _ => exact nr hg (n := 89) rfl
    | q + 3, h => exact absurd (show q + 3 < 3 from h) (by omega)
  | 10, _ => intro j hj; match j, hj with
    | 0, _ => exact nr hg (n := 94) rfl
    | 1, _ => exact nr hg (n := 95) rfl
    | 2, _ => exact nr hg (n := 96) rfl
    | 3, _ => exact nr hg (n := 97) rfl
    | q + 4, h => exact absurd (show q + 4 < 4 from h) (by omega)
  | 11, _ => intro j hj; match j, hj with
    | 0, _ => exact nr hg (n := 102) rfl
    | 1, _ => exact nr hg (n := 103) rfl
    | 2, _ => exact nr hg (n := 104) rfl
    | q + 3, h => exact absurd (show q + 3 < 3 from h) (by omega)
  | 12, _ => intro j hj; match j, hj with
    | 0, _ => exact nr hg (n := 109) rfl
    | 1, _ => exact nr hg (n := 110) rfl
    | 2, _ => exact nr hg (n := 111) rfl
    | 3, _ => exact nr hg (n := 112) rfl
    | q + 4, h => exact absurd (show q + 4 < 4 from h) (by omega)
  | 13, _ => intro j hj; match j, hj with
    | 0, _ => exact nr hg (n := 117) rfl
    | 1, _ => exact nr hg (n := 118) rfl
    | 2, _ => exact nr hg (n := 119) rfl
    | 3, _ => exact nr hg (n := 120) rfl
    | 4, _ => exact nr hg (n := 121) rfl
    | 5, _ => exact nr hg (n := 122) rfl
    | q + 6, h => exact absurd (show q + 6 < 6 from h) (by omega)
  | 14, _ => intro j hj; match j, hj with
    | 0, _ => exact nr hg (n := 127) rfl
    | 1, _ => exact nr hg (n := 128) rfl
    | 2, _ => exact nr hg (n := 129) rfl
    | 3, _ => exact nr hg (n := 130) rfl
    | q + 4, h => exact absurd (show q + 4 < 4 from h) (by omega)
  | 15, _ => intro j hj; match j, hj with
    | 0, _ => exact nr hg (n := 135) rfl
    | 1, _ => exact nr hg (n := 136) rfl
    | 2, _ => exact nr hg (n := 137) rfl
    | 3, _ => exact nr hg (n := 138) rfl
    | q + 4, h => exact absurd (show q + 4 < 4 from h) (by omega)
  | 16, _ => intro j hj; match j, hj with
    | 0, _ => exact nr hg (n := 143) rfl
    | q + 1, h => exact absurd (show q + 1 < 1 from h) (by omega)
  | 17, _ => intro j hj; match j, hj with
    | 0, _ => exact nr hg (n := 148) rfl
    | 1, _ => exact nr hg (n := 149) rfl
    | 2, _ => exact nr hg (n := 150) rfl
    | 3, _ => exact nr hg (n := 151) rfl
    | q + 4, h => exact absurd (show q + 4 < 4 from h) (by omega)
  | 18, _ => intro j hj; match j, hj with
    | 0, _ => exact nr hg (n := 156) rfl
    | 1, _ => exact nr hg (n := 157) rfl
    | 2, _ => exact nr hg (n := 158) rfl
    | 3, _ => exact nr hg (n := 159) rfl
    | 4, _ => exact nr hg (n := 160) rfl
    | q + 5, h => exact absurd (show q + 5 < 5 from h) (by omega)
  | 19, _ => intro j hj; match j, hj with
    | 0, _ => exact nr hg (n := 165) rfl
    | 1, _ => exact nr hg (n := 166) rfl
    | 2, _ => exact nr hg (n := 167) rfl
    | 3, _ => exact nr hg (n := 168) rfl
    | q + 4, h => exact absurd (show q + 4 < 4 from h) (by omega)
  | 20, _ => intro j hj; match j, hj with
    | 0, _ => exact nr hg (n := 173) rfl
    | 1, _ => exact nr hg (n := 174) rfl
    | 2, _ => exact nr hg (n := 175) rfl
    | 3, _ => exact nr hg (n := 176) rfl
    | q + 4, h => exact absurd (show q + 4 < 4 from h) (by omega)
  | 21, _ => intro j hj; match j, hj with
    | 0, _ => exact nr hg (n := 181) rfl
    | 1, _ => exact nr hg (n := 182) rfl
    | 2, _ => exact nr hg (n := 183) rfl
    | 3, _ => exact nr hg (n := 184) rfl
    | 4, _ => exact nr hg (n := 185) rfl
    | 5, _ => exact nr hg (n := 186) rfl
    | q + 6, h => exact absurd (show q + 6 < 6 from h) (by omega)
  | 22, _ => intro j hj; match j, hj with
    | 0, _ => exact nr hg (n := 191) rfl
    | 1, _ => exact nr hg (n := 192) rfl
    | q + 2, h => exact absurd (show q + 2 < 2 from h) (by omega)
  | 23, _ => intro j hj; match j, hj with
    | 0, _ => exact nr hg (n := 197) rfl
    | 1, _ => exact nr hg (n := 198) rfl
    | q + 2, h => exact absurd (show q + 2 < 2 from h) (by omega)
  | 24, _ => intro j hj; match j, hj with
    | 0, _ => exact nr hg (n := 203) rfl
    | 1, _ => exact nr hg (n := 204) rfl
    | 2, _ => exact nr hg (n := 205) rfl
    | q + 3, h => exact absurd (show q + 3 < 3 from h) (by omega)
  | 25, _ => intro j hj; match j, hj with
    | 0, _ => exact nr hg (n := 210) rfl
    | 1, _ => exact nr hg (n := 211) rfl
    | 2, _ => exact nr hg (n := 212) rfl
    | q + 3, h => exact absurd (show q + 3 < 3 from h) (by omega)
  | 26, _ => intro j hj; match j, hj with
    | q + 0, h => exact absurd (show q + 0 < 0 from h) (by omega)
  | _ + 27, h => exact absurd h (by omega)
theorem s_N : ∀ i : Nat, i < 27 → strLen.getD i 0 < 2 ^ 31 := by decide +kernel
theorem s_dist : ∀ i : Nat, i < 27 → ∀ j : Nat, j < 27 → strLen.getD i 0 = strLen.getD j 0 → (∀ k : Nat, k < 7 → k < strLen.getD i 0 → (strByt.getD i []).getD k 0 = (strByt.getD j []).getD k 0) → i = j := by decide +kernel
theorem s_small : ∀ i : Nat, i < 27 → strLen.getD i 0 < 7 := by decide +kernel
theorem strings_at {args : Array Value} {s : State} {A : Nat → Prop} (hg : (Jvm.Cond.and given_1 narrow_1).before args s = true) (hA : ∀ a : Nat, a < s.heap.size → ¬ A a) : ∃ adK adV : Nat → Nat, vk_S 27 strLen strByt adK adV A s s.heap ∧ ∀ i : Nat, i < 27 → (tmS i).eval args s none [] s = some (.ref (adK i)) := by
  have h0 : ∀ i : Nat, ∃ q : Nat × Nat, i < 27 → (tmS i).eval args s none [] s = some (.ref q.1) ∧ va_O "java/lang/String" q.1 A s s.heap ∧ va_OF "java/lang/String" "coder" "B" (.int 0) q.1 A s s.heap ∧ va_OF "java/lang/String" "value" "[B" (.ref q.2) q.1 A s s.heap ∧ va_T .byte q.2 (strLen.getD i 0) (fun j => .int ((strByt.getD i []).getD j 0)) A s s.heap := by
    intro i
    by_cases hi : i < 27
    · obtain ⟨a, c, cA, kA, q1, q2, q3, q4, q5, q6, -⟩ := Cond.exactly_spec (args := args) (first := s) (o := none) (s := s) (idx := []) (t := tmS i) (cls := "java/lang/String") (s_ex hg i hi)
      obtain ⟨t, ht, hT⟩ := va_Tof (f := fun j => .int ((strByt.getD i []).getD j 0)) (A := A) (s_N i hi) (s_ar hg i hi) (va_eqt (s_le hg i hi)) (fun j hj => va_eqt (s_el hg i hi j hj)) hA
      exact ⟨(a, t), fun _ => ⟨q1, ⟨cA, q3, q5, by rw [q6]; exact q2, hA a (Array.getElem?_eq_some_iff.mp q3).1⟩, vk_OFof q1 (va_eqt (s_co hg i hi)) hA, vk_OFof q1 ht hA, hT⟩⟩
    · exact ⟨(0, 0), fun h => absurd h hi⟩
  obtain ⟨ad, had⟩ := Classical.axiomOfChoice h0
  refine ⟨fun i => (ad i).1, fun i => (ad i).2, ⟨fun i hi => (had i hi).2, fun i j hi hj e => ?_⟩, fun i hi => (had i hi).1⟩
  obtain ⟨-, -, -, ⟨cf, k, fi, f, cell, f1, f2, f3, f4, f5, f6⟩, ⟨ci, g1, g2, g3, g4, g5, g6, g7⟩⟩ := had i hi
  obtain ⟨-, -, -, ⟨cf', k', fi', f', cell', f1', f2', f3', f4', f5', f6'⟩, ⟨cj, g1', g2', g3', g4', g5', g6', g7'⟩⟩ := had j hj
  have e0 : (ad i).1 = (ad j).1 := e
  rw [f1] at f1'
  cases f1'
  rw [e0, f3'] at f3
  cases f3
  rw [f5'] at f5
  have e1 : (ad j).2 = (ad i).2 := by injection (Option.some.inj f5)
  rw [e1, g1] at g1'
  cases g1'
  have li := s_small i hi
  have lj := s_small j hj
  have e2 : strLen.getD i 0 = strLen.getD j 0 := by
    have := g5.symm.trans g5'
    exact (nI_eq (by omega) (by omega)).mp this
  refine s_dist i hi j hj e2 (fun q hq hq2 => ?_)
  have a1 := g6 q hq2
  have a2 := g6' q (by rw [← e2]; exact hq2)
  rw [a1] at a2
  injection (Option.some.inj a2)
theorem nest_tbl : ∀ q ∈ nestTab, Cond.methodLinkNest q.1 q.2.1 q.2.2.1 q.2.2.2 ∈ lw_tbl := (List.forall_mem_cons.mpr ⟨List.mem_append_right _ (List.mem_append_left _ (List.mem_of_getElem? (i := 31) rfl)), (List.forall_mem_cons.mpr ⟨List.mem_append_right _ (List.mem_append_left _ (List.mem_of_getElem? (i := 37) rfl)), (List.forall_mem_cons.mpr ⟨List.mem_append_right _ (List.mem_append_left _ (List.mem_of_getElem? (i := 70) rfl)), (List.forall_mem_cons.mpr ⟨List.mem_append_right _ (List.mem_append_left _ (List.mem_of_getElem? (i := 76) rfl)), (List.forall_mem_cons.mpr ⟨List.mem_append_right _ (List.mem_append_left _ (List.mem_of_getElem? (i := 218) rfl)), (List.forall_mem_cons.mpr ⟨List.mem_append_right _ (List.mem_append_left _ (List.mem_of_getElem? (i := 224) rfl)), (List.forall_mem_cons.mpr ⟨List.mem_append_right _ (List.mem_append_right _ (List.mem_append_left _ (List.mem_of_getElem? (i := 121) rfl))), (List.forall_mem_cons.mpr ⟨List.mem_append_right _ (List.mem_append_right _ (List.mem_append_left _ (List.mem_of_getElem? (i := 141) rfl))), (List.forall_mem_cons.mpr ⟨List.mem_append_right _ (List.mem_append_right _ (List.mem_append_left _ (List.mem_of_getElem? (i := 173) rfl))), (List.forall_mem_cons.mpr ⟨List.mem_append_right _ (List.mem_append_right _ (List.mem_append_left _ (List.mem_of_getElem? (i := 195) rfl))), (List.forall_mem_cons.mpr ⟨List.mem_append_right _ (List.mem_append_right _ (List.mem_append_left _ (List.mem_of_getElem? (i := 216) rfl))), (List.forall_mem_cons.mpr ⟨List.mem_append_right _ (List.mem_append_right _ (List.mem_append_right _ (List.mem_append_left _ (List.mem_of_getElem? (i := 6) rfl)))), (List.forall_mem_cons.mpr ⟨List.mem_append_right _ (List.mem_append_right _ (List.mem_append_right _ (List.mem_append_left _ (List.mem_of_getElem? (i := 7) rfl)))), (List.forall_mem_cons.mpr ⟨List.mem_append_right _ (List.mem_append_right _ (List.mem_append_right _ (List.mem_append_left _ (List.mem_of_getElem? (i := 77) rfl)))), (List.forall_mem_cons.mpr ⟨List.mem_append_right _ (List.mem_append_right _ (List.mem_append_right _ (List.mem_append_right _ (List.mem_append_left _ (List.mem_of_getElem? (i := 9) rfl))))), (List.forall_mem_cons.mpr ⟨List.mem_append_right _ (List.mem_append_right _ (List.mem_append_right _ (List.mem_append_right _ (List.mem_append_left _ (List.mem_of_getElem? (i := 38) rfl))))), (List.forall_mem_cons.mpr ⟨List.mem_append_right _ (List.mem_append_right _ (List.mem_append_right _ (List.mem_append_right _ (List.mem_append_left _ (List.mem_of_getElem? (i := 73) rfl))))), (List.forall_mem_cons.mpr ⟨List.mem_append_right _ (List.mem_append_right _ (List.mem_append_right _ (List.mem_append_right _ (List.mem_append_left _ (List.mem_of_getElem? (i := 84) rfl))))), (List.forall_mem_cons.mpr ⟨List.mem_append_right _ (List.mem_append_right _ (List.mem_append_right _ (List.mem_append_right _ (List.mem_append_left _ (List.mem_of_getElem? (i := 102) rfl))))), (List.forall_mem_cons.mpr ⟨List.mem_append_right _ (List.mem_append_right _ (List.mem_append_right _ (List.mem_append_right _ (List.mem_append_left _ (List.mem_of_getElem? (i := 154) rfl))))), (List.forall_mem_cons.mpr ⟨List.mem_append_right _ (List.mem_append_right _ (List.mem_append_right _ (List.mem_append_right _ (List.mem_append_left _ (List.mem_of_getElem? (i := 171) rfl))))), (List.forall_mem_cons.mpr ⟨List.mem_append_right _ (List.mem_append_right _ (List.mem_append_right _ (List.mem_append_right _ (List.mem_append_left _ (List.mem_of_getElem? (i := 175) rfl))))), (List.forall_mem_cons.mpr ⟨List.mem_append_right _ (List.mem_append_right _ (List.mem_append_right _ (List.mem_append_right _ (List.mem_append_left _ (List.mem_of_getElem? (i := 180) rfl))))), (List.forall_mem_cons.mpr ⟨List.mem_append_right _ (List.mem_append_right _ (List.mem_append_right _ (List.mem_append_right _ (List.mem_append_right _ (List.mem_append_left _ (List.mem_of_getElem? (i := 97) rfl)))))), (List.forall_mem_cons.mpr ⟨List.mem_append_right _ (List.mem_append_right _ (List.mem_append_right _ (List.mem_append_right _ (List.mem_append_right _ (List.mem_append_left _ (List.mem_of_getElem? (i := 144) rfl)))))), (List.forall_mem_cons.mpr ⟨List.mem_append_right _ (List.mem_append_right _ (List.mem_append_right _ (List.mem_append_right _ (List.mem_append_right _ (List.mem_append_right _ (List.mem_append_left _ (List.mem_of_getElem? (i := 5) rfl))))))), (List.forall_mem_cons.mpr ⟨List.mem_append_right _ (List.mem_append_right _ (List.mem_append_right _ (List.mem_append_right _ (List.mem_append_right _ (List.mem_append_right _ (List.mem_append_left _ (List.mem_of_getElem? (i := 63) rfl))))))), (fun _ h => absurd h List.not_mem_nil)⟩)⟩)⟩)⟩)⟩)⟩)⟩)⟩)⟩)⟩)⟩)⟩)⟩)⟩)⟩)⟩)⟩)⟩)⟩)⟩)⟩)⟩)⟩)⟩)⟩)⟩)⟩)
theorem str_tbl : ∀ i q, strTab[i]? = some q → Cond.stringRef q.1 q.2.1 q.2.2 ∈ lw_tbl ∧ Term.string q.1 q.2.1 = tmS i := by
  intro i q h
  match i, h with
  | 0, h => cases h; exact ⟨List.mem_append_right _ (List.mem_append_right _ (List.mem_append_right _ (List.mem_append_left _ (List.mem_of_getElem? (i := 95) rfl)))), rfl⟩
  | 1, h => cases h; exact ⟨List.mem_append_right _ (List.mem_append_right _ (List.mem_append_right _ (List.mem_append_left _ (List.mem_of_getElem? (i := 96) rfl)))), rfl⟩
  | 2, h => cases h; exact ⟨List.mem_append_right _ (List.mem_append_right _ (List.mem_append_right _ (List.mem_append_left _ (List.mem_of_getElem? (i := 97) rfl)))), rfl⟩
  | 3, h => cases h; exact ⟨List.mem_append_right _ (List.mem_append_right _ (List.mem_append_right _ (List.mem_append_left _ (List.mem_of_getElem? (i := 98) rfl)))), rfl⟩
  | 4, h => cases h; exact ⟨List.mem_append_right _ (List.mem_append_right _ (List.mem_append_right _ (List.mem_append_left _ (List.mem_of_getElem? (i := 99) rfl)))), rfl⟩
  | 5, h => cases h; exact ⟨List.mem_append_right _ (List.mem_append_right _ (List.mem_append_right _ (List.mem_append_left _ (List.mem_of_getElem? (i := 100) rfl)))), rfl⟩
  | 6, h => cases h; exact ⟨List.mem_append_right _ (List.mem_append_right _ (List.mem_append_right _ (List.mem_append_left _ (List.mem_of_getElem? (i := 101) rfl)))), rfl⟩
  | 7, h => cases h; exact ⟨List.mem_append_right _ (List.mem_append_right _ (List.mem_append_right _ (List.mem_append_left _ (List.mem_of_getElem? (i := 102) rfl)))), rfl⟩
  | 8, h => cases h; exact ⟨List.mem_append_right _ (List.mem_append_right _ (List.mem_append_right _ (List.mem_append_left _ (List.mem_of_getElem? (i := 103) rfl)))), rfl⟩
  | 9, h => cases h; exact ⟨List.mem_append_right _ (List.mem_append_right _ (List.mem_append_right _ (List.mem_append_left _ (List.mem_of_getElem? (i := 104) rfl)))), rfl⟩
  | 10, h => cases h; exact ⟨List.mem_append_right _ (List.mem_append_right _ (List.mem_append_right _ (List.mem_append_left _ (List.mem_of_getElem? (i := 105) rfl)))), rfl⟩
  | 11, h => cases h; exact ⟨List.mem_append_right _ (List.mem_append_right _ (List.mem_append_right _ (List.mem_append_left _ (List.mem_of_getElem? (i := 106) rfl)))), rfl⟩
  | 12, h => cases h; exact ⟨List.mem_append_right _ (List.mem_append_right _ (List.mem_append_right _ (List.mem_append_left _ (List.mem_of_getElem? (i := 107) rfl)))), rfl⟩
  | 13, h => cases h; exact ⟨List.mem_append_right _ (List.mem_append_right _ (List.mem_append_right _ (List.mem_append_left _ (List.mem_of_getElem? (i := 108) rfl)))), rfl⟩
  | 14, h => cases h; exact ⟨List.mem_append_right _ (List.mem_append_right _ (List.mem_append_right _ (List.mem_append_left _ (List.mem_of_getElem? (i := 109) rfl)))), rfl⟩
  | 15, h => cases h; exact ⟨List.mem_append_right _ (List.mem_append_right _ (List.mem_append_right _ (List.mem_append_left _ (List.mem_of_getElem? (i := 110) rfl)))), rfl⟩
  | 16, h => cases h; exact ⟨List.mem_append_right _ (List.mem_append_right _ (List.mem_append_right _ (List.mem_append_left _ (List.mem_of_getElem? (i := 111) rfl)))), rfl⟩
  | 17, h => cases h; exact ⟨List.mem_append_right _ (List.mem_append_right _ (List.mem_append_right _ (List.mem_append_left _ (List.mem_of_getElem? (i := 112) rfl)))), rfl⟩
  | 18, h => cases h; exact ⟨List.mem_append_right _ (List.mem_append_right _ (List.mem_append_right _ (List.mem_append_left _ (List.mem_of_getElem? (i := 113) rfl)))), rfl⟩
  | 19, h => cases h; exact ⟨List.mem_append_right _ (List.mem_append_right _ (List.mem_append_right _ (List.mem_append_left _ (List.mem_of_getElem? (i := 114) rfl)))), rfl⟩
  | 20, h => cases h; exact ⟨List.mem_append_right _ (List.mem_append_right _ (List.mem_append_right _ (List.mem_append_left _ (List.mem_of_getElem? (i := 115) rfl)))), rfl⟩
  | 21, h => cases h; exact ⟨List.mem_append_right _ (List.mem_append_right _ (List.mem_append_right _ (List.mem_append_left _ (List.mem_of_getElem? (i := 116) rfl)))), rfl⟩
  | 22, h => cases h; exact ⟨List.mem_append_right _ (List.mem_append_right _ (List.mem_append_right _ (List.mem_append_left _ (List.mem_of_getElem? (i := 117) rfl)))), rfl⟩
  | 23, h => cases h; exact ⟨List.mem_append_right _ (List.mem_append_right _ (List.mem_append_right _ (List.mem_append_left _ (List.mem_of_getElem? (i := 118) rfl)))), rfl⟩
  | 24, h => cases h; exact ⟨List.mem_append_right _ (List.mem_append_right _ (List.mem_append_right _ (List.mem_append_left _ (List.mem_of_getElem? (i := 119) rfl)))), rfl⟩
  | 25, h => cases h; exact ⟨List.mem_append_right _ (List.mem_append_right _ (List.mem_append_right _ (List.mem_append_left _ (List.mem_of_getElem? (i := 120) rfl)))), rfl⟩
  | 26, h => cases h; exact ⟨List.mem_append_right _ (List.mem_append_right _ (List.mem_append_right _ (List.mem_append_left _ (List.mem_of_getElem? (i := 121) rfl)))), rfl⟩
  | _ + 27, h => simp [strTab] at h
theorem ao_tbl : Cond.arrayOver (.object "StiltTown$State") ∈ lw_tbl := List.mem_append_right _ (List.mem_append_right _ (List.mem_append_right _ (List.mem_append_left _ (List.mem_of_getElem? (i := 4) rfl))))
theorem aoa_tbl : Cond.arrayOver (.array .int) ∈ lw_tbl := List.mem_append_right _ (List.mem_append_right _ (List.mem_append_left _ (List.mem_of_getElem? (i := 146) rfl)))
theorem zs_1 : Cond.laysStatic "java/lang/String" "COMPACT_STRINGS" "Z" ∈ lw_tbl := List.mem_append_right _ (List.mem_append_right _ (List.mem_append_right _ (List.mem_append_left _ (List.mem_of_getElem? (i := 135) rfl))))
theorem zs_2 : Cond.laysStatic "jdk/internal/util/Preconditions" "SIOOBE_FORMATTER" "Ljava/util/function/BiFunction;" ∈ lw_tbl := List.mem_append_right _ (List.mem_append_right _ (List.mem_append_right _ (List.mem_append_left _ (List.mem_of_getElem? (i := 151) rfl))))
theorem zs_3 : Cond.initialized "java/lang/String" ∈ lw_tbl := List.mem_append_right _ (List.mem_append_left _ (List.mem_of_getElem? (i := 14) rfl))
theorem zs_4 : Cond.initialized "jdk/internal/util/Preconditions" ∈ lw_tbl := List.mem_append_right _ (List.mem_append_left _ (List.mem_of_getElem? (i := 16) rfl))
theorem statics_at {args : Array Value} {s : State} {A : Nat → Prop} (hg : (Jvm.Cond.and given_1 narrow_1).before args s = true) (hts : ∀ w ∈ lw_tbl, w.before args s = true) (hA : ∀ a : Nat, a < s.heap.size → ¬ A a) : ∃ tF : Nat, va_Z "java/lang/String" "COMPACT_STRINGS" "Z" (.int 1) A s s.heap ∧ (va_Z "jdk/internal/util/Preconditions" "SIOOBE_FORMATTER" "Ljava/util/function/BiFunction;" .null A s s.heap ∨ va_Z "jdk/internal/util/Preconditions" "SIOOBE_FORMATTER" "Ljava/util/function/BiFunction;" (.ref tF) A s s.heap) := by
  have h1 : va_Z "java/lang/String" "COMPACT_STRINGS" "Z" (.int 1) A s s.heap := va_Zof (hts _ zs_1) (hts _ zs_3) (va_eqt (nr hg (n := 2) rfl)) hA
  rcases va_Zqof (hts _ zs_2) (hts _ zs_4) (nr hg (n := 3) rfl) hA with h | ⟨t, h⟩
  · exact ⟨0, h1, Or.inl h⟩
  · exact ⟨t, h1, Or.inr h⟩
