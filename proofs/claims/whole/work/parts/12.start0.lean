set_option maxRecDepth 100000 in
theorem gx0 : Cond.exactly (Jvm.Term.string "StarCrew$TextReader" (35 : Nat)) "java/lang/String" ∈ flatC (Jvm.Cond.and given_1 narrow_1) := List.mem_of_getElem? (i := 16) (by decide +kernel)
set_option maxRecDepth 100000 in
theorem gc0 : Jvm.Cond.eq (Jvm.Term.field (Jvm.Term.string "StarCrew$TextReader" (35 : Nat)) "java/lang/String" "coder" "B") (Jvm.Term.int (0 : Int32)) ∈ flatC (Jvm.Cond.and given_1 narrow_1) := List.mem_of_getElem? (i := 17) (by decide +kernel)
set_option maxRecDepth 100000 in
theorem ga0 : Jvm.Cond.arrayOf (Jvm.Term.field (Jvm.Term.string "StarCrew$TextReader" (35 : Nat)) "java/lang/String" "value" "[B") Jvm.ClassFile.FieldType.byte ∈ flatC (Jvm.Cond.and given_1 narrow_1) := List.mem_of_getElem? (i := 18) (by decide +kernel)
set_option maxRecDepth 100000 in
theorem gl0 : Jvm.Cond.eq (Jvm.Term.length (Jvm.Term.field (Jvm.Term.string "StarCrew$TextReader" (35 : Nat)) "java/lang/String" "value" "[B")) (Jvm.Term.int (4 : Int32)) ∈ flatC (Jvm.Cond.and given_1 narrow_1) := List.mem_of_getElem? (i := 19) (by decide +kernel)
set_option maxRecDepth 100000 in
theorem ge0_0 : Jvm.Cond.eq (Jvm.Term.elem (Jvm.Term.field (Jvm.Term.string "StarCrew$TextReader" (35 : Nat)) "java/lang/String" "value" "[B") (Jvm.Term.int (0 : Int32))) (Jvm.Term.int (99 : Int32)) ∈ flatC (Jvm.Cond.and given_1 narrow_1) := List.mem_of_getElem? (i := 20) (by decide +kernel)
set_option maxRecDepth 100000 in
theorem ge0_1 : Jvm.Cond.eq (Jvm.Term.elem (Jvm.Term.field (Jvm.Term.string "StarCrew$TextReader" (35 : Nat)) "java/lang/String" "value" "[B") (Jvm.Term.int (1 : Int32))) (Jvm.Term.int (114 : Int32)) ∈ flatC (Jvm.Cond.and given_1 narrow_1) := List.mem_of_getElem? (i := 21) (by decide +kernel)
set_option maxRecDepth 100000 in
theorem ge0_2 : Jvm.Cond.eq (Jvm.Term.elem (Jvm.Term.field (Jvm.Term.string "StarCrew$TextReader" (35 : Nat)) "java/lang/String" "value" "[B") (Jvm.Term.int (2 : Int32))) (Jvm.Term.int (101 : Int32)) ∈ flatC (Jvm.Cond.and given_1 narrow_1) := List.mem_of_getElem? (i := 22) (by decide +kernel)
set_option maxRecDepth 100000 in
theorem ge0_3 : Jvm.Cond.eq (Jvm.Term.elem (Jvm.Term.field (Jvm.Term.string "StarCrew$TextReader" (35 : Nat)) "java/lang/String" "value" "[B") (Jvm.Term.int (3 : Int32))) (Jvm.Term.int (119 : Int32)) ∈ flatC (Jvm.Cond.and given_1 narrow_1) := List.mem_of_getElem? (i := 23) (by decide +kernel)
set_option maxRecDepth 100000 in
theorem gx1 : Cond.exactly (Jvm.Term.string "StarCrew$TextReader" (90 : Nat)) "java/lang/String" ∈ flatC (Jvm.Cond.and given_1 narrow_1) := List.mem_of_getElem? (i := 24) (by decide +kernel)
set_option maxRecDepth 100000 in
theorem gc1 : Jvm.Cond.eq (Jvm.Term.field (Jvm.Term.string "StarCrew$TextReader" (90 : Nat)) "java/lang/String" "coder" "B") (Jvm.Term.int (0 : Int32)) ∈ flatC (Jvm.Cond.and given_1 narrow_1) := List.mem_of_getElem? (i := 25) (by decide +kernel)
set_option maxRecDepth 100000 in
theorem ga1 : Jvm.Cond.arrayOf (Jvm.Term.field (Jvm.Term.string "StarCrew$TextReader" (90 : Nat)) "java/lang/String" "value" "[B") Jvm.ClassFile.FieldType.byte ∈ flatC (Jvm.Cond.and given_1 narrow_1) := List.mem_of_getElem? (i := 26) (by decide +kernel)
set_option maxRecDepth 100000 in
theorem gl1 : Jvm.Cond.eq (Jvm.Term.length (Jvm.Term.field (Jvm.Term.string "StarCrew$TextReader" (90 : Nat)) "java/lang/String" "value" "[B")) (Jvm.Term.int (2 : Int32)) ∈ flatC (Jvm.Cond.and given_1 narrow_1) := List.mem_of_getElem? (i := 27) (by decide +kernel)
set_option maxRecDepth 100000 in
theorem ge1_0 : Jvm.Cond.eq (Jvm.Term.elem (Jvm.Term.field (Jvm.Term.string "StarCrew$TextReader" (90 : Nat)) "java/lang/String" "value" "[B") (Jvm.Term.int (0 : Int32))) (Jvm.Term.int (97 : Int32)) ∈ flatC (Jvm.Cond.and given_1 narrow_1) := List.mem_of_getElem? (i := 28) (by decide +kernel)
set_option maxRecDepth 100000 in
theorem ge1_1 : Jvm.Cond.eq (Jvm.Term.elem (Jvm.Term.field (Jvm.Term.string "StarCrew$TextReader" (90 : Nat)) "java/lang/String" "value" "[B") (Jvm.Term.int (1 : Int32))) (Jvm.Term.int (116 : Int32)) ∈ flatC (Jvm.Cond.and given_1 narrow_1) := List.mem_of_getElem? (i := 29) (by decide +kernel)
set_option maxRecDepth 100000 in
theorem gx2 : Cond.exactly (Jvm.Term.string "StarCrew$TextReader" (112 : Nat)) "java/lang/String" ∈ flatC (Jvm.Cond.and given_1 narrow_1) := List.mem_of_getElem? (i := 31) (by decide +kernel)
set_option maxRecDepth 100000 in
theorem gc2 : Jvm.Cond.eq (Jvm.Term.field (Jvm.Term.string "StarCrew$TextReader" (112 : Nat)) "java/lang/String" "coder" "B") (Jvm.Term.int (0 : Int32)) ∈ flatC (Jvm.Cond.and given_1 narrow_1) := List.mem_of_getElem? (i := 32) (by decide +kernel)
set_option maxRecDepth 100000 in
theorem ga2 : Jvm.Cond.arrayOf (Jvm.Term.field (Jvm.Term.string "StarCrew$TextReader" (112 : Nat)) "java/lang/String" "value" "[B") Jvm.ClassFile.FieldType.byte ∈ flatC (Jvm.Cond.and given_1 narrow_1) := List.mem_of_getElem? (i := 33) (by decide +kernel)
set_option maxRecDepth 100000 in
theorem gl2 : Jvm.Cond.eq (Jvm.Term.length (Jvm.Term.field (Jvm.Term.string "StarCrew$TextReader" (112 : Nat)) "java/lang/String" "value" "[B")) (Jvm.Term.int (5 : Int32)) ∈ flatC (Jvm.Cond.and given_1 narrow_1) := List.mem_of_getElem? (i := 34) (by decide +kernel)
set_option maxRecDepth 100000 in
theorem ge2_0 : Jvm.Cond.eq (Jvm.Term.elem (Jvm.Term.field (Jvm.Term.string "StarCrew$TextReader" (112 : Nat)) "java/lang/String" "value" "[B") (Jvm.Term.int (0 : Int32))) (Jvm.Term.int (115 : Int32)) ∈ flatC (Jvm.Cond.and given_1 narrow_1) := List.mem_of_getElem? (i := 35) (by decide +kernel)
set_option maxRecDepth 100000 in
theorem ge2_1 : Jvm.Cond.eq (Jvm.Term.elem (Jvm.Term.field (Jvm.Term.string "StarCrew$TextReader" (112 : Nat)) "java/lang/String" "value" "[B") (Jvm.Term.int (1 : Int32))) (Jvm.Term.int (116 : Int32)) ∈ flatC (Jvm.Cond.and given_1 narrow_1) := List.mem_of_getElem? (i := 36) (by decide +kernel)
set_option maxRecDepth 100000 in
theorem ge2_2 : Jvm.Cond.eq (Jvm.Term.elem (Jvm.Term.field (Jvm.Term.string "StarCrew$TextReader" (112 : Nat)) "java/lang/String" "value" "[B") (Jvm.Term.int (2 : Int32))) (Jvm.Term.int (101 : Int32)) ∈ flatC (Jvm.Cond.and given_1 narrow_1) := List.mem_of_getElem? (i := 37) (by decide +kernel)
set_option maxRecDepth 100000 in
theorem ge2_3 : Jvm.Cond.eq (Jvm.Term.elem (Jvm.Term.field (Jvm.Term.string "StarCrew$TextReader" (112 : Nat)) "java/lang/String" "value" "[B") (Jvm.Term.int (3 : Int32))) (Jvm.Term.int (112 : Int32)) ∈ flatC (Jvm.Cond.and given_1 narrow_1) := List.mem_of_getElem? (i := 38) (by decide +kernel)
set_option maxRecDepth 100000 in
theorem ge2_4 : Jvm.Cond.eq (Jvm.Term.elem (Jvm.Term.field (Jvm.Term.string "StarCrew$TextReader" (112 : Nat)) "java/lang/String" "value" "[B") (Jvm.Term.int (4 : Int32))) (Jvm.Term.int (115 : Int32)) ∈ flatC (Jvm.Cond.and given_1 narrow_1) := List.mem_of_getElem? (i := 39) (by decide +kernel)
set_option maxRecDepth 100000 in
theorem gx3 : Cond.exactly (Jvm.Term.string "StarCrew$TextReader" (44 : Nat)) "java/lang/String" ∈ flatC (Jvm.Cond.and given_1 narrow_1) := List.mem_of_getElem? (i := 42) (by decide +kernel)
set_option maxRecDepth 100000 in
theorem gc3 : Jvm.Cond.eq (Jvm.Term.field (Jvm.Term.string "StarCrew$TextReader" (44 : Nat)) "java/lang/String" "coder" "B") (Jvm.Term.int (0 : Int32)) ∈ flatC (Jvm.Cond.and given_1 narrow_1) := List.mem_of_getElem? (i := 43) (by decide +kernel)
set_option maxRecDepth 100000 in
theorem ga3 : Jvm.Cond.arrayOf (Jvm.Term.field (Jvm.Term.string "StarCrew$TextReader" (44 : Nat)) "java/lang/String" "value" "[B") Jvm.ClassFile.FieldType.byte ∈ flatC (Jvm.Cond.and given_1 narrow_1) := List.mem_of_getElem? (i := 44) (by decide +kernel)
set_option maxRecDepth 100000 in
theorem gl3 : Jvm.Cond.eq (Jvm.Term.length (Jvm.Term.field (Jvm.Term.string "StarCrew$TextReader" (44 : Nat)) "java/lang/String" "value" "[B")) (Jvm.Term.int (4 : Int32)) ∈ flatC (Jvm.Cond.and given_1 narrow_1) := List.mem_of_getElem? (i := 45) (by decide +kernel)
set_option maxRecDepth 100000 in
theorem ge3_0 : Jvm.Cond.eq (Jvm.Term.elem (Jvm.Term.field (Jvm.Term.string "StarCrew$TextReader" (44 : Nat)) "java/lang/String" "value" "[B") (Jvm.Term.int (0 : Int32))) (Jvm.Term.int (115 : Int32)) ∈ flatC (Jvm.Cond.and given_1 narrow_1) := List.mem_of_getElem? (i := 46) (by decide +kernel)
set_option maxRecDepth 100000 in
theorem ge3_1 : Jvm.Cond.eq (Jvm.Term.elem (Jvm.Term.field (Jvm.Term.string "StarCrew$TextReader" (44 : Nat)) "java/lang/String" "value" "[B") (Jvm.Term.int (1 : Int32))) (Jvm.Term.int (105 : Int32)) ∈ flatC (Jvm.Cond.and given_1 narrow_1) := List.mem_of_getElem? (i := 47) (by decide +kernel)
set_option maxRecDepth 100000 in
theorem ge3_2 : Jvm.Cond.eq (Jvm.Term.elem (Jvm.Term.field (Jvm.Term.string "StarCrew$TextReader" (44 : Nat)) "java/lang/String" "value" "[B") (Jvm.Term.int (2 : Int32))) (Jvm.Term.int (103 : Int32)) ∈ flatC (Jvm.Cond.and given_1 narrow_1) := List.mem_of_getElem? (i := 48) (by decide +kernel)
set_option maxRecDepth 100000 in
theorem ge3_3 : Jvm.Cond.eq (Jvm.Term.elem (Jvm.Term.field (Jvm.Term.string "StarCrew$TextReader" (44 : Nat)) "java/lang/String" "value" "[B") (Jvm.Term.int (3 : Int32))) (Jvm.Term.int (110 : Int32)) ∈ flatC (Jvm.Cond.and given_1 narrow_1) := List.mem_of_getElem? (i := 49) (by decide +kernel)
set_option maxRecDepth 100000 in
theorem gx4 : Cond.exactly (Jvm.Term.string "StarCrew$TextReader" (63 : Nat)) "java/lang/String" ∈ flatC (Jvm.Cond.and given_1 narrow_1) := List.mem_of_getElem? (i := 53) (by decide +kernel)
set_option maxRecDepth 100000 in
theorem gc4 : Jvm.Cond.eq (Jvm.Term.field (Jvm.Term.string "StarCrew$TextReader" (63 : Nat)) "java/lang/String" "coder" "B") (Jvm.Term.int (0 : Int32)) ∈ flatC (Jvm.Cond.and given_1 narrow_1) := List.mem_of_getElem? (i := 54) (by decide +kernel)
set_option maxRecDepth 100000 in
theorem ga4 : Jvm.Cond.arrayOf (Jvm.Term.field (Jvm.Term.string "StarCrew$TextReader" (63 : Nat)) "java/lang/String" "value" "[B") Jvm.ClassFile.FieldType.byte ∈ flatC (Jvm.Cond.and given_1 narrow_1) := List.mem_of_getElem? (i := 55) (by decide +kernel)
set_option maxRecDepth 100000 in
theorem gl4 : Jvm.Cond.eq (Jvm.Term.length (Jvm.Term.field (Jvm.Term.string "StarCrew$TextReader" (63 : Nat)) "java/lang/String" "value" "[B")) (Jvm.Term.int (4 : Int32)) ∈ flatC (Jvm.Cond.and given_1 narrow_1) := List.mem_of_getElem? (i := 56) (by decide +kernel)
set_option maxRecDepth 100000 in
theorem ge4_0 : Jvm.Cond.eq (Jvm.Term.elem (Jvm.Term.field (Jvm.Term.string "StarCrew$TextReader" (63 : Nat)) "java/lang/String" "value" "[B") (Jvm.Term.int (0 : Int32))) (Jvm.Term.int (108 : Int32)) ∈ flatC (Jvm.Cond.and given_1 narrow_1) := List.mem_of_getElem? (i := 57) (by decide +kernel)
set_option maxRecDepth 100000 in
theorem ge4_1 : Jvm.Cond.eq (Jvm.Term.elem (Jvm.Term.field (Jvm.Term.string "StarCrew$TextReader" (63 : Nat)) "java/lang/String" "value" "[B") (Jvm.Term.int (1 : Int32))) (Jvm.Term.int (97 : Int32)) ∈ flatC (Jvm.Cond.and given_1 narrow_1) := List.mem_of_getElem? (i := 58) (by decide +kernel)
set_option maxRecDepth 100000 in
theorem ge4_2 : Jvm.Cond.eq (Jvm.Term.elem (Jvm.Term.field (Jvm.Term.string "StarCrew$TextReader" (63 : Nat)) "java/lang/String" "value" "[B") (Jvm.Term.int (2 : Int32))) (Jvm.Term.int (109 : Int32)) ∈ flatC (Jvm.Cond.and given_1 narrow_1) := List.mem_of_getElem? (i := 59) (by decide +kernel)
set_option maxRecDepth 100000 in
theorem ge4_3 : Jvm.Cond.eq (Jvm.Term.elem (Jvm.Term.field (Jvm.Term.string "StarCrew$TextReader" (63 : Nat)) "java/lang/String" "value" "[B") (Jvm.Term.int (3 : Int32))) (Jvm.Term.int (112 : Int32)) ∈ flatC (Jvm.Cond.and given_1 narrow_1) := List.mem_of_getElem? (i := 60) (by decide +kernel)
set_option maxRecDepth 100000 in
theorem gx5 : Cond.exactly (Jvm.Term.string "StarCrew$TextReader" (65 : Nat)) "java/lang/String" ∈ flatC (Jvm.Cond.and given_1 narrow_1) := List.mem_of_getElem? (i := 65) (by decide +kernel)
set_option maxRecDepth 100000 in
theorem gc5 : Jvm.Cond.eq (Jvm.Term.field (Jvm.Term.string "StarCrew$TextReader" (65 : Nat)) "java/lang/String" "coder" "B") (Jvm.Term.int (0 : Int32)) ∈ flatC (Jvm.Cond.and given_1 narrow_1) := List.mem_of_getElem? (i := 66) (by decide +kernel)
set_option maxRecDepth 100000 in
theorem ga5 : Jvm.Cond.arrayOf (Jvm.Term.field (Jvm.Term.string "StarCrew$TextReader" (65 : Nat)) "java/lang/String" "value" "[B") Jvm.ClassFile.FieldType.byte ∈ flatC (Jvm.Cond.and given_1 narrow_1) := List.mem_of_getElem? (i := 67) (by decide +kernel)
set_option maxRecDepth 100000 in
theorem gl5 : Jvm.Cond.eq (Jvm.Term.length (Jvm.Term.field (Jvm.Term.string "StarCrew$TextReader" (65 : Nat)) "java/lang/String" "value" "[B")) (Jvm.Term.int (3 : Int32)) ∈ flatC (Jvm.Cond.and given_1 narrow_1) := List.mem_of_getElem? (i := 68) (by decide +kernel)
set_option maxRecDepth 100000 in
theorem ge5_0 : Jvm.Cond.eq (Jvm.Term.elem (Jvm.Term.field (Jvm.Term.string "StarCrew$TextReader" (65 : Nat)) "java/lang/String" "value" "[B") (Jvm.Term.int (0 : Int32))) (Jvm.Term.int (114 : Int32)) ∈ flatC (Jvm.Cond.and given_1 narrow_1) := List.mem_of_getElem? (i := 69) (by decide +kernel)
set_option maxRecDepth 100000 in
theorem ge5_1 : Jvm.Cond.eq (Jvm.Term.elem (Jvm.Term.field (Jvm.Term.string "StarCrew$TextReader" (65 : Nat)) "java/lang/String" "value" "[B") (Jvm.Term.int (1 : Int32))) (Jvm.Term.int (101 : Int32)) ∈ flatC (Jvm.Cond.and given_1 narrow_1) := List.mem_of_getElem? (i := 70) (by decide +kernel)
set_option maxRecDepth 100000 in
theorem ge5_2 : Jvm.Cond.eq (Jvm.Term.elem (Jvm.Term.field (Jvm.Term.string "StarCrew$TextReader" (65 : Nat)) "java/lang/String" "value" "[B") (Jvm.Term.int (2 : Int32))) (Jvm.Term.int (100 : Int32)) ∈ flatC (Jvm.Cond.and given_1 narrow_1) := List.mem_of_getElem? (i := 71) (by decide +kernel)
set_option maxRecDepth 100000 in
theorem gx6 : Cond.exactly (Jvm.Term.string "StarCrew$TextReader" (67 : Nat)) "java/lang/String" ∈ flatC (Jvm.Cond.and given_1 narrow_1) := List.mem_of_getElem? (i := 77) (by decide +kernel)
set_option maxRecDepth 100000 in
theorem gc6 : Jvm.Cond.eq (Jvm.Term.field (Jvm.Term.string "StarCrew$TextReader" (67 : Nat)) "java/lang/String" "coder" "B") (Jvm.Term.int (0 : Int32)) ∈ flatC (Jvm.Cond.and given_1 narrow_1) := List.mem_of_getElem? (i := 78) (by decide +kernel)
set_option maxRecDepth 100000 in
theorem ga6 : Jvm.Cond.arrayOf (Jvm.Term.field (Jvm.Term.string "StarCrew$TextReader" (67 : Nat)) "java/lang/String" "value" "[B") Jvm.ClassFile.FieldType.byte ∈ flatC (Jvm.Cond.and given_1 narrow_1) := List.mem_of_getElem? (i := 79) (by decide +kernel)
set_option maxRecDepth 100000 in
theorem gl6 : Jvm.Cond.eq (Jvm.Term.length (Jvm.Term.field (Jvm.Term.string "StarCrew$TextReader" (67 : Nat)) "java/lang/String" "value" "[B")) (Jvm.Term.int (5 : Int32)) ∈ flatC (Jvm.Cond.and given_1 narrow_1) := List.mem_of_getElem? (i := 80) (by decide +kernel)
set_option maxRecDepth 100000 in
theorem ge6_0 : Jvm.Cond.eq (Jvm.Term.elem (Jvm.Term.field (Jvm.Term.string "StarCrew$TextReader" (67 : Nat)) "java/lang/String" "value" "[B") (Jvm.Term.int (0 : Int32))) (Jvm.Term.int (102 : Int32)) ∈ flatC (Jvm.Cond.and given_1 narrow_1) := List.mem_of_getElem? (i := 81) (by decide +kernel)
set_option maxRecDepth 100000 in
theorem ge6_1 : Jvm.Cond.eq (Jvm.Term.elem (Jvm.Term.field (Jvm.Term.string "StarCrew$TextReader" (67 : Nat)) "java/lang/String" "value" "[B") (Jvm.Term.int (1 : Int32))) (Jvm.Term.int (105 : Int32)) ∈ flatC (Jvm.Cond.and given_1 narrow_1) := List.mem_of_getElem? (i := 82) (by decide +kernel)
set_option maxRecDepth 100000 in
theorem ge6_2 : Jvm.Cond.eq (Jvm.Term.elem (Jvm.Term.field (Jvm.Term.string "StarCrew$TextReader" (67 : Nat)) "java/lang/String" "value" "[B") (Jvm.Term.int (2 : Int32))) (Jvm.Term.int (120 : Int32)) ∈ flatC (Jvm.Cond.and given_1 narrow_1) := List.mem_of_getElem? (i := 83) (by decide +kernel)
set_option maxRecDepth 100000 in
theorem ge6_3 : Jvm.Cond.eq (Jvm.Term.elem (Jvm.Term.field (Jvm.Term.string "StarCrew$TextReader" (67 : Nat)) "java/lang/String" "value" "[B") (Jvm.Term.int (3 : Int32))) (Jvm.Term.int (101 : Int32)) ∈ flatC (Jvm.Cond.and given_1 narrow_1) := List.mem_of_getElem? (i := 84) (by decide +kernel)
set_option maxRecDepth 100000 in
theorem ge6_4 : Jvm.Cond.eq (Jvm.Term.elem (Jvm.Term.field (Jvm.Term.string "StarCrew$TextReader" (67 : Nat)) "java/lang/String" "value" "[B") (Jvm.Term.int (4 : Int32))) (Jvm.Term.int (100 : Int32)) ∈ flatC (Jvm.Cond.and given_1 narrow_1) := List.mem_of_getElem? (i := 85) (by decide +kernel)
set_option maxRecDepth 100000 in
theorem gx7 : Cond.exactly (Jvm.Term.string "StarCrew$TextReader" (69 : Nat)) "java/lang/String" ∈ flatC (Jvm.Cond.and given_1 narrow_1) := List.mem_of_getElem? (i := 92) (by decide +kernel)
set_option maxRecDepth 100000 in
theorem gc7 : Jvm.Cond.eq (Jvm.Term.field (Jvm.Term.string "StarCrew$TextReader" (69 : Nat)) "java/lang/String" "coder" "B") (Jvm.Term.int (0 : Int32)) ∈ flatC (Jvm.Cond.and given_1 narrow_1) := List.mem_of_getElem? (i := 93) (by decide +kernel)
set_option maxRecDepth 100000 in
theorem ga7 : Jvm.Cond.arrayOf (Jvm.Term.field (Jvm.Term.string "StarCrew$TextReader" (69 : Nat)) "java/lang/String" "value" "[B") Jvm.ClassFile.FieldType.byte ∈ flatC (Jvm.Cond.and given_1 narrow_1) := List.mem_of_getElem? (i := 94) (by decide +kernel)
set_option maxRecDepth 100000 in
theorem gl7 : Jvm.Cond.eq (Jvm.Term.length (Jvm.Term.field (Jvm.Term.string "StarCrew$TextReader" (69 : Nat)) "java/lang/String" "value" "[B")) (Jvm.Term.int (4 : Int32)) ∈ flatC (Jvm.Cond.and given_1 narrow_1) := List.mem_of_getElem? (i := 95) (by decide +kernel)
set_option maxRecDepth 100000 in
theorem ge7_0 : Jvm.Cond.eq (Jvm.Term.elem (Jvm.Term.field (Jvm.Term.string "StarCrew$TextReader" (69 : Nat)) "java/lang/String" "value" "[B") (Jvm.Term.int (0 : Int32))) (Jvm.Term.int (112 : Int32)) ∈ flatC (Jvm.Cond.and given_1 narrow_1) := List.mem_of_getElem? (i := 96) (by decide +kernel)
set_option maxRecDepth 100000 in
theorem ge7_1 : Jvm.Cond.eq (Jvm.Term.elem (Jvm.Term.field (Jvm.Term.string "StarCrew$TextReader" (69 : Nat)) "java/lang/String" "value" "[B") (Jvm.Term.int (1 : Int32))) (Jvm.Term.int (111 : Int32)) ∈ flatC (Jvm.Cond.and given_1 narrow_1) := List.mem_of_getElem? (i := 97) (by decide +kernel)
set_option maxRecDepth 100000 in
theorem ge7_2 : Jvm.Cond.eq (Jvm.Term.elem (Jvm.Term.field (Jvm.Term.string "StarCrew$TextReader" (69 : Nat)) "java/lang/String" "value" "[B") (Jvm.Term.int (2 : Int32))) (Jvm.Term.int (108 : Int32)) ∈ flatC (Jvm.Cond.and given_1 narrow_1) := List.mem_of_getElem? (i := 98) (by decide +kernel)
set_option maxRecDepth 100000 in
theorem ge7_3 : Jvm.Cond.eq (Jvm.Term.elem (Jvm.Term.field (Jvm.Term.string "StarCrew$TextReader" (69 : Nat)) "java/lang/String" "value" "[B") (Jvm.Term.int (3 : Int32))) (Jvm.Term.int (101 : Int32)) ∈ flatC (Jvm.Cond.and given_1 narrow_1) := List.mem_of_getElem? (i := 99) (by decide +kernel)
set_option maxRecDepth 100000 in
theorem gx8 : Cond.exactly (Jvm.Term.string "StarCrew$TextReader" (71 : Nat)) "java/lang/String" ∈ flatC (Jvm.Cond.and given_1 narrow_1) := List.mem_of_getElem? (i := 107) (by decide +kernel)
set_option maxRecDepth 100000 in
theorem gc8 : Jvm.Cond.eq (Jvm.Term.field (Jvm.Term.string "StarCrew$TextReader" (71 : Nat)) "java/lang/String" "coder" "B") (Jvm.Term.int (0 : Int32)) ∈ flatC (Jvm.Cond.and given_1 narrow_1) := List.mem_of_getElem? (i := 108) (by decide +kernel)
set_option maxRecDepth 100000 in
theorem ga8 : Jvm.Cond.arrayOf (Jvm.Term.field (Jvm.Term.string "StarCrew$TextReader" (71 : Nat)) "java/lang/String" "value" "[B") Jvm.ClassFile.FieldType.byte ∈ flatC (Jvm.Cond.and given_1 narrow_1) := List.mem_of_getElem? (i := 109) (by decide +kernel)
set_option maxRecDepth 100000 in
theorem gl8 : Jvm.Cond.eq (Jvm.Term.length (Jvm.Term.field (Jvm.Term.string "StarCrew$TextReader" (71 : Nat)) "java/lang/String" "value" "[B")) (Jvm.Term.int (5 : Int32)) ∈ flatC (Jvm.Cond.and given_1 narrow_1) := List.mem_of_getElem? (i := 110) (by decide +kernel)
set_option maxRecDepth 100000 in
theorem ge8_0 : Jvm.Cond.eq (Jvm.Term.elem (Jvm.Term.field (Jvm.Term.string "StarCrew$TextReader" (71 : Nat)) "java/lang/String" "value" "[B") (Jvm.Term.int (0 : Int32))) (Jvm.Term.int (103 : Int32)) ∈ flatC (Jvm.Cond.and given_1 narrow_1) := List.mem_of_getElem? (i := 111) (by decide +kernel)
set_option maxRecDepth 100000 in
theorem ge8_1 : Jvm.Cond.eq (Jvm.Term.elem (Jvm.Term.field (Jvm.Term.string "StarCrew$TextReader" (71 : Nat)) "java/lang/String" "value" "[B") (Jvm.Term.int (1 : Int32))) (Jvm.Term.int (117 : Int32)) ∈ flatC (Jvm.Cond.and given_1 narrow_1) := List.mem_of_getElem? (i := 112) (by decide +kernel)
set_option maxRecDepth 100000 in
theorem ge8_2 : Jvm.Cond.eq (Jvm.Term.elem (Jvm.Term.field (Jvm.Term.string "StarCrew$TextReader" (71 : Nat)) "java/lang/String" "value" "[B") (Jvm.Term.int (2 : Int32))) (Jvm.Term.int (105 : Int32)) ∈ flatC (Jvm.Cond.and given_1 narrow_1) := List.mem_of_getElem? (i := 113) (by decide +kernel)
set_option maxRecDepth 100000 in
theorem ge8_3 : Jvm.Cond.eq (Jvm.Term.elem (Jvm.Term.field (Jvm.Term.string "StarCrew$TextReader" (71 : Nat)) "java/lang/String" "value" "[B") (Jvm.Term.int (3 : Int32))) (Jvm.Term.int (100 : Int32)) ∈ flatC (Jvm.Cond.and given_1 narrow_1) := List.mem_of_getElem? (i := 114) (by decide +kernel)
set_option maxRecDepth 100000 in
theorem ge8_4 : Jvm.Cond.eq (Jvm.Term.elem (Jvm.Term.field (Jvm.Term.string "StarCrew$TextReader" (71 : Nat)) "java/lang/String" "value" "[B") (Jvm.Term.int (4 : Int32))) (Jvm.Term.int (101 : Int32)) ∈ flatC (Jvm.Cond.and given_1 narrow_1) := List.mem_of_getElem? (i := 115) (by decide +kernel)
set_option maxRecDepth 100000 in
theorem gx9 : Cond.exactly (Jvm.Term.string "StarCrew$TextReader" (73 : Nat)) "java/lang/String" ∈ flatC (Jvm.Cond.and given_1 narrow_1) := List.mem_of_getElem? (i := 124) (by decide +kernel)
set_option maxRecDepth 100000 in
theorem gc9 : Jvm.Cond.eq (Jvm.Term.field (Jvm.Term.string "StarCrew$TextReader" (73 : Nat)) "java/lang/String" "coder" "B") (Jvm.Term.int (0 : Int32)) ∈ flatC (Jvm.Cond.and given_1 narrow_1) := List.mem_of_getElem? (i := 125) (by decide +kernel)
set_option maxRecDepth 100000 in
theorem ga9 : Jvm.Cond.arrayOf (Jvm.Term.field (Jvm.Term.string "StarCrew$TextReader" (73 : Nat)) "java/lang/String" "value" "[B") Jvm.ClassFile.FieldType.byte ∈ flatC (Jvm.Cond.and given_1 narrow_1) := List.mem_of_getElem? (i := 126) (by decide +kernel)
set_option maxRecDepth 100000 in
theorem gl9 : Jvm.Cond.eq (Jvm.Term.length (Jvm.Term.field (Jvm.Term.string "StarCrew$TextReader" (73 : Nat)) "java/lang/String" "value" "[B")) (Jvm.Term.int (3 : Int32)) ∈ flatC (Jvm.Cond.and given_1 narrow_1) := List.mem_of_getElem? (i := 127) (by decide +kernel)
set_option maxRecDepth 100000 in
theorem ge9_0 : Jvm.Cond.eq (Jvm.Term.elem (Jvm.Term.field (Jvm.Term.string "StarCrew$TextReader" (73 : Nat)) "java/lang/String" "value" "[B") (Jvm.Term.int (0 : Int32))) (Jvm.Term.int (111 : Int32)) ∈ flatC (Jvm.Cond.and given_1 narrow_1) := List.mem_of_getElem? (i := 128) (by decide +kernel)
set_option maxRecDepth 100000 in
theorem ge9_1 : Jvm.Cond.eq (Jvm.Term.elem (Jvm.Term.field (Jvm.Term.string "StarCrew$TextReader" (73 : Nat)) "java/lang/String" "value" "[B") (Jvm.Term.int (1 : Int32))) (Jvm.Term.int (108 : Int32)) ∈ flatC (Jvm.Cond.and given_1 narrow_1) := List.mem_of_getElem? (i := 129) (by decide +kernel)
set_option maxRecDepth 100000 in
theorem ge9_2 : Jvm.Cond.eq (Jvm.Term.elem (Jvm.Term.field (Jvm.Term.string "StarCrew$TextReader" (73 : Nat)) "java/lang/String" "value" "[B") (Jvm.Term.int (2 : Int32))) (Jvm.Term.int (100 : Int32)) ∈ flatC (Jvm.Cond.and given_1 narrow_1) := List.mem_of_getElem? (i := 130) (by decide +kernel)
set_option maxRecDepth 100000 in
theorem gx10 : Cond.exactly (Jvm.Term.string "StarCrew$TextReader" (75 : Nat)) "java/lang/String" ∈ flatC (Jvm.Cond.and given_1 narrow_1) := List.mem_of_getElem? (i := 140) (by decide +kernel)
set_option maxRecDepth 100000 in
theorem gc10 : Jvm.Cond.eq (Jvm.Term.field (Jvm.Term.string "StarCrew$TextReader" (75 : Nat)) "java/lang/String" "coder" "B") (Jvm.Term.int (0 : Int32)) ∈ flatC (Jvm.Cond.and given_1 narrow_1) := List.mem_of_getElem? (i := 141) (by decide +kernel)
set_option maxRecDepth 100000 in
theorem ga10 : Jvm.Cond.arrayOf (Jvm.Term.field (Jvm.Term.string "StarCrew$TextReader" (75 : Nat)) "java/lang/String" "value" "[B") Jvm.ClassFile.FieldType.byte ∈ flatC (Jvm.Cond.and given_1 narrow_1) := List.mem_of_getElem? (i := 142) (by decide +kernel)
set_option maxRecDepth 100000 in
theorem gl10 : Jvm.Cond.eq (Jvm.Term.length (Jvm.Term.field (Jvm.Term.string "StarCrew$TextReader" (75 : Nat)) "java/lang/String" "value" "[B")) (Jvm.Term.int (5 : Int32)) ∈ flatC (Jvm.Cond.and given_1 narrow_1) := List.mem_of_getElem? (i := 143) (by decide +kernel)
set_option maxRecDepth 100000 in
theorem ge10_0 : Jvm.Cond.eq (Jvm.Term.elem (Jvm.Term.field (Jvm.Term.string "StarCrew$TextReader" (75 : Nat)) "java/lang/String" "value" "[B") (Jvm.Term.int (0 : Int32))) (Jvm.Term.int (103 : Int32)) ∈ flatC (Jvm.Cond.and given_1 narrow_1) := List.mem_of_getElem? (i := 144) (by decide +kernel)
set_option maxRecDepth 100000 in
theorem ge10_1 : Jvm.Cond.eq (Jvm.Term.elem (Jvm.Term.field (Jvm.Term.string "StarCrew$TextReader" (75 : Nat)) "java/lang/String" "value" "[B") (Jvm.Term.int (1 : Int32))) (Jvm.Term.int (105 : Int32)) ∈ flatC (Jvm.Cond.and given_1 narrow_1) := List.mem_of_getElem? (i := 145) (by decide +kernel)
set_option maxRecDepth 100000 in
theorem ge10_2 : Jvm.Cond.eq (Jvm.Term.elem (Jvm.Term.field (Jvm.Term.string "StarCrew$TextReader" (75 : Nat)) "java/lang/String" "value" "[B") (Jvm.Term.int (2 : Int32))) (Jvm.Term.int (97 : Int32)) ∈ flatC (Jvm.Cond.and given_1 narrow_1) := List.mem_of_getElem? (i := 146) (by decide +kernel)
set_option maxRecDepth 100000 in
theorem ge10_3 : Jvm.Cond.eq (Jvm.Term.elem (Jvm.Term.field (Jvm.Term.string "StarCrew$TextReader" (75 : Nat)) "java/lang/String" "value" "[B") (Jvm.Term.int (3 : Int32))) (Jvm.Term.int (110 : Int32)) ∈ flatC (Jvm.Cond.and given_1 narrow_1) := List.mem_of_getElem? (i := 147) (by decide +kernel)
set_option maxRecDepth 100000 in
theorem ge10_4 : Jvm.Cond.eq (Jvm.Term.elem (Jvm.Term.field (Jvm.Term.string "StarCrew$TextReader" (75 : Nat)) "java/lang/String" "value" "[B") (Jvm.Term.int (4 : Int32))) (Jvm.Term.int (116 : Int32)) ∈ flatC (Jvm.Cond.and given_1 narrow_1) := List.mem_of_getElem? (i := 148) (by decide +kernel)
set_option maxRecDepth 100000 in
theorem gx11 : Cond.exactly (Jvm.Term.string "StarCrew$TextReader" (96 : Nat)) "java/lang/String" ∈ flatC (Jvm.Cond.and given_1 narrow_1) := List.mem_of_getElem? (i := 159) (by decide +kernel)
set_option maxRecDepth 100000 in
theorem gc11 : Jvm.Cond.eq (Jvm.Term.field (Jvm.Term.string "StarCrew$TextReader" (96 : Nat)) "java/lang/String" "coder" "B") (Jvm.Term.int (0 : Int32)) ∈ flatC (Jvm.Cond.and given_1 narrow_1) := List.mem_of_getElem? (i := 160) (by decide +kernel)
set_option maxRecDepth 100000 in
theorem ga11 : Jvm.Cond.arrayOf (Jvm.Term.field (Jvm.Term.string "StarCrew$TextReader" (96 : Nat)) "java/lang/String" "value" "[B") Jvm.ClassFile.FieldType.byte ∈ flatC (Jvm.Cond.and given_1 narrow_1) := List.mem_of_getElem? (i := 161) (by decide +kernel)
set_option maxRecDepth 100000 in
theorem gl11 : Jvm.Cond.eq (Jvm.Term.length (Jvm.Term.field (Jvm.Term.string "StarCrew$TextReader" (96 : Nat)) "java/lang/String" "value" "[B")) (Jvm.Term.int (4 : Int32)) ∈ flatC (Jvm.Cond.and given_1 narrow_1) := List.mem_of_getElem? (i := 162) (by decide +kernel)
set_option maxRecDepth 100000 in
theorem ge11_0 : Jvm.Cond.eq (Jvm.Term.elem (Jvm.Term.field (Jvm.Term.string "StarCrew$TextReader" (96 : Nat)) "java/lang/String" "value" "[B") (Jvm.Term.int (0 : Int32))) (Jvm.Term.int (108 : Int32)) ∈ flatC (Jvm.Cond.and given_1 narrow_1) := List.mem_of_getElem? (i := 163) (by decide +kernel)
set_option maxRecDepth 100000 in
theorem ge11_1 : Jvm.Cond.eq (Jvm.Term.elem (Jvm.Term.field (Jvm.Term.string "StarCrew$TextReader" (96 : Nat)) "java/lang/String" "value" "[B") (Jvm.Term.int (1 : Int32))) (Jvm.Term.int (105 : Int32)) ∈ flatC (Jvm.Cond.and given_1 narrow_1) := List.mem_of_getElem? (i := 164) (by decide +kernel)
set_option maxRecDepth 100000 in
theorem ge11_2 : Jvm.Cond.eq (Jvm.Term.elem (Jvm.Term.field (Jvm.Term.string "StarCrew$TextReader" (96 : Nat)) "java/lang/String" "value" "[B") (Jvm.Term.int (2 : Int32))) (Jvm.Term.int (102 : Int32)) ∈ flatC (Jvm.Cond.and given_1 narrow_1) := List.mem_of_getElem? (i := 165) (by decide +kernel)
set_option maxRecDepth 100000 in
theorem ge11_3 : Jvm.Cond.eq (Jvm.Term.elem (Jvm.Term.field (Jvm.Term.string "StarCrew$TextReader" (96 : Nat)) "java/lang/String" "value" "[B") (Jvm.Term.int (3 : Int32))) (Jvm.Term.int (101 : Int32)) ∈ flatC (Jvm.Cond.and given_1 narrow_1) := List.mem_of_getElem? (i := 166) (by decide +kernel)
set_option maxRecDepth 100000 in
theorem gx12 : Cond.exactly (Jvm.Term.string "StarCrew$TextReader" (98 : Nat)) "java/lang/String" ∈ flatC (Jvm.Cond.and given_1 narrow_1) := List.mem_of_getElem? (i := 178) (by decide +kernel)
set_option maxRecDepth 100000 in
theorem gc12 : Jvm.Cond.eq (Jvm.Term.field (Jvm.Term.string "StarCrew$TextReader" (98 : Nat)) "java/lang/String" "coder" "B") (Jvm.Term.int (0 : Int32)) ∈ flatC (Jvm.Cond.and given_1 narrow_1) := List.mem_of_getElem? (i := 179) (by decide +kernel)
set_option maxRecDepth 100000 in
theorem ga12 : Jvm.Cond.arrayOf (Jvm.Term.field (Jvm.Term.string "StarCrew$TextReader" (98 : Nat)) "java/lang/String" "value" "[B") Jvm.ClassFile.FieldType.byte ∈ flatC (Jvm.Cond.and given_1 narrow_1) := List.mem_of_getElem? (i := 180) (by decide +kernel)
set_option maxRecDepth 100000 in
theorem gl12 : Jvm.Cond.eq (Jvm.Term.length (Jvm.Term.field (Jvm.Term.string "StarCrew$TextReader" (98 : Nat)) "java/lang/String" "value" "[B")) (Jvm.Term.int (5 : Int32)) ∈ flatC (Jvm.Cond.and given_1 narrow_1) := List.mem_of_getElem? (i := 181) (by decide +kernel)
set_option maxRecDepth 100000 in
theorem ge12_0 : Jvm.Cond.eq (Jvm.Term.elem (Jvm.Term.field (Jvm.Term.string "StarCrew$TextReader" (98 : Nat)) "java/lang/String" "value" "[B") (Jvm.Term.int (0 : Int32))) (Jvm.Term.int (119 : Int32)) ∈ flatC (Jvm.Cond.and given_1 narrow_1) := List.mem_of_getElem? (i := 182) (by decide +kernel)
set_option maxRecDepth 100000 in
theorem ge12_1 : Jvm.Cond.eq (Jvm.Term.elem (Jvm.Term.field (Jvm.Term.string "StarCrew$TextReader" (98 : Nat)) "java/lang/String" "value" "[B") (Jvm.Term.int (1 : Int32))) (Jvm.Term.int (111 : Int32)) ∈ flatC (Jvm.Cond.and given_1 narrow_1) := List.mem_of_getElem? (i := 183) (by decide +kernel)
set_option maxRecDepth 100000 in
theorem ge12_2 : Jvm.Cond.eq (Jvm.Term.elem (Jvm.Term.field (Jvm.Term.string "StarCrew$TextReader" (98 : Nat)) "java/lang/String" "value" "[B") (Jvm.Term.int (2 : Int32))) (Jvm.Term.int (114 : Int32)) ∈ flatC (Jvm.Cond.and given_1 narrow_1) := List.mem_of_getElem? (i := 184) (by decide +kernel)
set_option maxRecDepth 100000 in
theorem ge12_3 : Jvm.Cond.eq (Jvm.Term.elem (Jvm.Term.field (Jvm.Term.string "StarCrew$TextReader" (98 : Nat)) "java/lang/String" "value" "[B") (Jvm.Term.int (3 : Int32))) (Jvm.Term.int (116 : Int32)) ∈ flatC (Jvm.Cond.and given_1 narrow_1) := List.mem_of_getElem? (i := 185) (by decide +kernel)
set_option maxRecDepth 100000 in
theorem ge12_4 : Jvm.Cond.eq (Jvm.Term.elem (Jvm.Term.field (Jvm.Term.string "StarCrew$TextReader" (98 : Nat)) "java/lang/String" "value" "[B") (Jvm.Term.int (4 : Int32))) (Jvm.Term.int (104 : Int32)) ∈ flatC (Jvm.Cond.and given_1 narrow_1) := List.mem_of_getElem? (i := 186) (by decide +kernel)
set_option maxRecDepth 100000 in
theorem gx13 : Cond.exactly (Jvm.Term.string "StarCrew$TextReader" (77 : Nat)) "java/lang/String" ∈ flatC (Jvm.Cond.and given_1 narrow_1) := List.mem_of_getElem? (i := 199) (by decide +kernel)
set_option maxRecDepth 100000 in
theorem gc13 : Jvm.Cond.eq (Jvm.Term.field (Jvm.Term.string "StarCrew$TextReader" (77 : Nat)) "java/lang/String" "coder" "B") (Jvm.Term.int (0 : Int32)) ∈ flatC (Jvm.Cond.and given_1 narrow_1) := List.mem_of_getElem? (i := 200) (by decide +kernel)
set_option maxRecDepth 100000 in
theorem ga13 : Jvm.Cond.arrayOf (Jvm.Term.field (Jvm.Term.string "StarCrew$TextReader" (77 : Nat)) "java/lang/String" "value" "[B") Jvm.ClassFile.FieldType.byte ∈ flatC (Jvm.Cond.and given_1 narrow_1) := List.mem_of_getElem? (i := 201) (by decide +kernel)
set_option maxRecDepth 100000 in
theorem gl13 : Jvm.Cond.eq (Jvm.Term.length (Jvm.Term.field (Jvm.Term.string "StarCrew$TextReader" (77 : Nat)) "java/lang/String" "value" "[B")) (Jvm.Term.int (4 : Int32)) ∈ flatC (Jvm.Cond.and given_1 narrow_1) := List.mem_of_getElem? (i := 202) (by decide +kernel)
set_option maxRecDepth 100000 in
theorem ge13_0 : Jvm.Cond.eq (Jvm.Term.elem (Jvm.Term.field (Jvm.Term.string "StarCrew$TextReader" (77 : Nat)) "java/lang/String" "value" "[B") (Jvm.Term.int (0 : Int32))) (Jvm.Term.int (100 : Int32)) ∈ flatC (Jvm.Cond.and given_1 narrow_1) := List.mem_of_getElem? (i := 203) (by decide +kernel)
set_option maxRecDepth 100000 in
theorem ge13_1 : Jvm.Cond.eq (Jvm.Term.elem (Jvm.Term.field (Jvm.Term.string "StarCrew$TextReader" (77 : Nat)) "java/lang/String" "value" "[B") (Jvm.Term.int (1 : Int32))) (Jvm.Term.int (117 : Int32)) ∈ flatC (Jvm.Cond.and given_1 narrow_1) := List.mem_of_getElem? (i := 204) (by decide +kernel)
set_option maxRecDepth 100000 in
theorem ge13_2 : Jvm.Cond.eq (Jvm.Term.elem (Jvm.Term.field (Jvm.Term.string "StarCrew$TextReader" (77 : Nat)) "java/lang/String" "value" "[B") (Jvm.Term.int (2 : Int32))) (Jvm.Term.int (115 : Int32)) ∈ flatC (Jvm.Cond.and given_1 narrow_1) := List.mem_of_getElem? (i := 205) (by decide +kernel)
set_option maxRecDepth 100000 in
theorem ge13_3 : Jvm.Cond.eq (Jvm.Term.elem (Jvm.Term.field (Jvm.Term.string "StarCrew$TextReader" (77 : Nat)) "java/lang/String" "value" "[B") (Jvm.Term.int (3 : Int32))) (Jvm.Term.int (116 : Int32)) ∈ flatC (Jvm.Cond.and given_1 narrow_1) := List.mem_of_getElem? (i := 206) (by decide +kernel)
set_option maxRecDepth 100000 in
theorem gx14 : Cond.exactly (Jvm.Term.string "StarCrew$TextReader" (79 : Nat)) "java/lang/String" ∈ flatC (Jvm.Cond.and given_1 narrow_1) := List.mem_of_getElem? (i := 220) (by decide +kernel)
set_option maxRecDepth 100000 in
theorem gc14 : Jvm.Cond.eq (Jvm.Term.field (Jvm.Term.string "StarCrew$TextReader" (79 : Nat)) "java/lang/String" "coder" "B") (Jvm.Term.int (0 : Int32)) ∈ flatC (Jvm.Cond.and given_1 narrow_1) := List.mem_of_getElem? (i := 221) (by decide +kernel)
set_option maxRecDepth 100000 in
theorem ga14 : Jvm.Cond.arrayOf (Jvm.Term.field (Jvm.Term.string "StarCrew$TextReader" (79 : Nat)) "java/lang/String" "value" "[B") Jvm.ClassFile.FieldType.byte ∈ flatC (Jvm.Cond.and given_1 narrow_1) := List.mem_of_getElem? (i := 222) (by decide +kernel)
set_option maxRecDepth 100000 in
theorem gl14 : Jvm.Cond.eq (Jvm.Term.length (Jvm.Term.field (Jvm.Term.string "StarCrew$TextReader" (79 : Nat)) "java/lang/String" "value" "[B")) (Jvm.Term.int (6 : Int32)) ∈ flatC (Jvm.Cond.and given_1 narrow_1) := List.mem_of_getElem? (i := 223) (by decide +kernel)
set_option maxRecDepth 100000 in
theorem ge14_0 : Jvm.Cond.eq (Jvm.Term.elem (Jvm.Term.field (Jvm.Term.string "StarCrew$TextReader" (79 : Nat)) "java/lang/String" "value" "[B") (Jvm.Term.int (0 : Int32))) (Jvm.Term.int (119 : Int32)) ∈ flatC (Jvm.Cond.and given_1 narrow_1) := List.mem_of_getElem? (i := 224) (by decide +kernel)
set_option maxRecDepth 100000 in
theorem ge14_1 : Jvm.Cond.eq (Jvm.Term.elem (Jvm.Term.field (Jvm.Term.string "StarCrew$TextReader" (79 : Nat)) "java/lang/String" "value" "[B") (Jvm.Term.int (1 : Int32))) (Jvm.Term.int (105 : Int32)) ∈ flatC (Jvm.Cond.and given_1 narrow_1) := List.mem_of_getElem? (i := 225) (by decide +kernel)
set_option maxRecDepth 100000 in
theorem ge14_2 : Jvm.Cond.eq (Jvm.Term.elem (Jvm.Term.field (Jvm.Term.string "StarCrew$TextReader" (79 : Nat)) "java/lang/String" "value" "[B") (Jvm.Term.int (2 : Int32))) (Jvm.Term.int (115 : Int32)) ∈ flatC (Jvm.Cond.and given_1 narrow_1) := List.mem_of_getElem? (i := 226) (by decide +kernel)
set_option maxRecDepth 100000 in
theorem ge14_3 : Jvm.Cond.eq (Jvm.Term.elem (Jvm.Term.field (Jvm.Term.string "StarCrew$TextReader" (79 : Nat)) "java/lang/String" "value" "[B") (Jvm.Term.int (3 : Int32))) (Jvm.Term.int (104 : Int32)) ∈ flatC (Jvm.Cond.and given_1 narrow_1) := List.mem_of_getElem? (i := 227) (by decide +kernel)
set_option maxRecDepth 100000 in
theorem ge14_4 : Jvm.Cond.eq (Jvm.Term.elem (Jvm.Term.field (Jvm.Term.string "StarCrew$TextReader" (79 : Nat)) "java/lang/String" "value" "[B") (Jvm.Term.int (4 : Int32))) (Jvm.Term.int (101 : Int32)) ∈ flatC (Jvm.Cond.and given_1 narrow_1) := List.mem_of_getElem? (i := 228) (by decide +kernel)
set_option maxRecDepth 100000 in
theorem ge14_5 : Jvm.Cond.eq (Jvm.Term.elem (Jvm.Term.field (Jvm.Term.string "StarCrew$TextReader" (79 : Nat)) "java/lang/String" "value" "[B") (Jvm.Term.int (5 : Int32))) (Jvm.Term.int (115 : Int32)) ∈ flatC (Jvm.Cond.and given_1 narrow_1) := List.mem_of_getElem? (i := 229) (by decide +kernel)
set_option maxRecDepth 100000 in
theorem gx15 : Cond.exactly (Jvm.Term.string "StarCrew$TextReader" (81 : Nat)) "java/lang/String" ∈ flatC (Jvm.Cond.and given_1 narrow_1) := List.mem_of_getElem? (i := 244) (by decide +kernel)
set_option maxRecDepth 100000 in
theorem gc15 : Jvm.Cond.eq (Jvm.Term.field (Jvm.Term.string "StarCrew$TextReader" (81 : Nat)) "java/lang/String" "coder" "B") (Jvm.Term.int (0 : Int32)) ∈ flatC (Jvm.Cond.and given_1 narrow_1) := List.mem_of_getElem? (i := 245) (by decide +kernel)
set_option maxRecDepth 100000 in
theorem ga15 : Jvm.Cond.arrayOf (Jvm.Term.field (Jvm.Term.string "StarCrew$TextReader" (81 : Nat)) "java/lang/String" "value" "[B") Jvm.ClassFile.FieldType.byte ∈ flatC (Jvm.Cond.and given_1 narrow_1) := List.mem_of_getElem? (i := 246) (by decide +kernel)
set_option maxRecDepth 100000 in
theorem gl15 : Jvm.Cond.eq (Jvm.Term.length (Jvm.Term.field (Jvm.Term.string "StarCrew$TextReader" (81 : Nat)) "java/lang/String" "value" "[B")) (Jvm.Term.int (4 : Int32)) ∈ flatC (Jvm.Cond.and given_1 narrow_1) := List.mem_of_getElem? (i := 247) (by decide +kernel)
set_option maxRecDepth 100000 in
theorem ge15_0 : Jvm.Cond.eq (Jvm.Term.elem (Jvm.Term.field (Jvm.Term.string "StarCrew$TextReader" (81 : Nat)) "java/lang/String" "value" "[B") (Jvm.Term.int (0 : Int32))) (Jvm.Term.int (109 : Int32)) ∈ flatC (Jvm.Cond.and given_1 narrow_1) := List.mem_of_getElem? (i := 248) (by decide +kernel)
set_option maxRecDepth 100000 in
theorem ge15_1 : Jvm.Cond.eq (Jvm.Term.elem (Jvm.Term.field (Jvm.Term.string "StarCrew$TextReader" (81 : Nat)) "java/lang/String" "value" "[B") (Jvm.Term.int (1 : Int32))) (Jvm.Term.int (101 : Int32)) ∈ flatC (Jvm.Cond.and given_1 narrow_1) := List.mem_of_getElem? (i := 249) (by decide +kernel)
set_option maxRecDepth 100000 in
theorem ge15_2 : Jvm.Cond.eq (Jvm.Term.elem (Jvm.Term.field (Jvm.Term.string "StarCrew$TextReader" (81 : Nat)) "java/lang/String" "value" "[B") (Jvm.Term.int (2 : Int32))) (Jvm.Term.int (110 : Int32)) ∈ flatC (Jvm.Cond.and given_1 narrow_1) := List.mem_of_getElem? (i := 250) (by decide +kernel)
set_option maxRecDepth 100000 in
theorem ge15_3 : Jvm.Cond.eq (Jvm.Term.elem (Jvm.Term.field (Jvm.Term.string "StarCrew$TextReader" (81 : Nat)) "java/lang/String" "value" "[B") (Jvm.Term.int (3 : Int32))) (Jvm.Term.int (100 : Int32)) ∈ flatC (Jvm.Cond.and given_1 narrow_1) := List.mem_of_getElem? (i := 251) (by decide +kernel)
set_option maxRecDepth 100000 in
theorem gx16 : Cond.exactly (Jvm.Term.string "StarCrew$TextReader" (83 : Nat)) "java/lang/String" ∈ flatC (Jvm.Cond.and given_1 narrow_1) := List.mem_of_getElem? (i := 267) (by decide +kernel)
set_option maxRecDepth 100000 in
theorem gc16 : Jvm.Cond.eq (Jvm.Term.field (Jvm.Term.string "StarCrew$TextReader" (83 : Nat)) "java/lang/String" "coder" "B") (Jvm.Term.int (0 : Int32)) ∈ flatC (Jvm.Cond.and given_1 narrow_1) := List.mem_of_getElem? (i := 268) (by decide +kernel)
set_option maxRecDepth 100000 in
theorem ga16 : Jvm.Cond.arrayOf (Jvm.Term.field (Jvm.Term.string "StarCrew$TextReader" (83 : Nat)) "java/lang/String" "value" "[B") Jvm.ClassFile.FieldType.byte ∈ flatC (Jvm.Cond.and given_1 narrow_1) := List.mem_of_getElem? (i := 269) (by decide +kernel)
set_option maxRecDepth 100000 in
theorem gl16 : Jvm.Cond.eq (Jvm.Term.length (Jvm.Term.field (Jvm.Term.string "StarCrew$TextReader" (83 : Nat)) "java/lang/String" "value" "[B")) (Jvm.Term.int (5 : Int32)) ∈ flatC (Jvm.Cond.and given_1 narrow_1) := List.mem_of_getElem? (i := 270) (by decide +kernel)
set_option maxRecDepth 100000 in
theorem ge16_0 : Jvm.Cond.eq (Jvm.Term.elem (Jvm.Term.field (Jvm.Term.string "StarCrew$TextReader" (83 : Nat)) "java/lang/String" "value" "[B") (Jvm.Term.int (0 : Int32))) (Jvm.Term.int (112 : Int32)) ∈ flatC (Jvm.Cond.and given_1 narrow_1) := List.mem_of_getElem? (i := 271) (by decide +kernel)
set_option maxRecDepth 100000 in
theorem ge16_1 : Jvm.Cond.eq (Jvm.Term.elem (Jvm.Term.field (Jvm.Term.string "StarCrew$TextReader" (83 : Nat)) "java/lang/String" "value" "[B") (Jvm.Term.int (1 : Int32))) (Jvm.Term.int (97 : Int32)) ∈ flatC (Jvm.Cond.and given_1 narrow_1) := List.mem_of_getElem? (i := 272) (by decide +kernel)
set_option maxRecDepth 100000 in
theorem ge16_2 : Jvm.Cond.eq (Jvm.Term.elem (Jvm.Term.field (Jvm.Term.string "StarCrew$TextReader" (83 : Nat)) "java/lang/String" "value" "[B") (Jvm.Term.int (2 : Int32))) (Jvm.Term.int (114 : Int32)) ∈ flatC (Jvm.Cond.and given_1 narrow_1) := List.mem_of_getElem? (i := 273) (by decide +kernel)
set_option maxRecDepth 100000 in
theorem ge16_3 : Jvm.Cond.eq (Jvm.Term.elem (Jvm.Term.field (Jvm.Term.string "StarCrew$TextReader" (83 : Nat)) "java/lang/String" "value" "[B") (Jvm.Term.int (3 : Int32))) (Jvm.Term.int (116 : Int32)) ∈ flatC (Jvm.Cond.and given_1 narrow_1) := List.mem_of_getElem? (i := 274) (by decide +kernel)
set_option maxRecDepth 100000 in
theorem ge16_4 : Jvm.Cond.eq (Jvm.Term.elem (Jvm.Term.field (Jvm.Term.string "StarCrew$TextReader" (83 : Nat)) "java/lang/String" "value" "[B") (Jvm.Term.int (4 : Int32))) (Jvm.Term.int (115 : Int32)) ∈ flatC (Jvm.Cond.and given_1 narrow_1) := List.mem_of_getElem? (i := 275) (by decide +kernel)
set_option maxRecDepth 100000 in
theorem gn0_1 : Jvm.Cond.not (Jvm.Cond.eq (Jvm.Term.string "StarCrew$TextReader" (35 : Nat)) (Jvm.Term.string "StarCrew$TextReader" (90 : Nat))) ∈ flatC (Jvm.Cond.and given_1 narrow_1) := List.mem_of_getElem? (i := 30) (by decide +kernel)
set_option maxRecDepth 100000 in
theorem gn0_2 : Jvm.Cond.not (Jvm.Cond.eq (Jvm.Term.string "StarCrew$TextReader" (35 : Nat)) (Jvm.Term.string "StarCrew$TextReader" (112 : Nat))) ∈ flatC (Jvm.Cond.and given_1 narrow_1) := List.mem_of_getElem? (i := 40) (by decide +kernel)
set_option maxRecDepth 100000 in
theorem gn0_3 : Jvm.Cond.not (Jvm.Cond.eq (Jvm.Term.string "StarCrew$TextReader" (35 : Nat)) (Jvm.Term.string "StarCrew$TextReader" (44 : Nat))) ∈ flatC (Jvm.Cond.and given_1 narrow_1) := List.mem_of_getElem? (i := 50) (by decide +kernel)
set_option maxRecDepth 100000 in
theorem gn0_4 : Jvm.Cond.not (Jvm.Cond.eq (Jvm.Term.string "StarCrew$TextReader" (35 : Nat)) (Jvm.Term.string "StarCrew$TextReader" (63 : Nat))) ∈ flatC (Jvm.Cond.and given_1 narrow_1) := List.mem_of_getElem? (i := 61) (by decide +kernel)
set_option maxRecDepth 100000 in
theorem gn0_5 : Jvm.Cond.not (Jvm.Cond.eq (Jvm.Term.string "StarCrew$TextReader" (35 : Nat)) (Jvm.Term.string "StarCrew$TextReader" (65 : Nat))) ∈ flatC (Jvm.Cond.and given_1 narrow_1) := List.mem_of_getElem? (i := 72) (by decide +kernel)
set_option maxRecDepth 100000 in
theorem gn0_6 : Jvm.Cond.not (Jvm.Cond.eq (Jvm.Term.string "StarCrew$TextReader" (35 : Nat)) (Jvm.Term.string "StarCrew$TextReader" (67 : Nat))) ∈ flatC (Jvm.Cond.and given_1 narrow_1) := List.mem_of_getElem? (i := 86) (by decide +kernel)
set_option maxRecDepth 100000 in
theorem gn0_7 : Jvm.Cond.not (Jvm.Cond.eq (Jvm.Term.string "StarCrew$TextReader" (35 : Nat)) (Jvm.Term.string "StarCrew$TextReader" (69 : Nat))) ∈ flatC (Jvm.Cond.and given_1 narrow_1) := List.mem_of_getElem? (i := 100) (by decide +kernel)
set_option maxRecDepth 100000 in
theorem gn0_8 : Jvm.Cond.not (Jvm.Cond.eq (Jvm.Term.string "StarCrew$TextReader" (35 : Nat)) (Jvm.Term.string "StarCrew$TextReader" (71 : Nat))) ∈ flatC (Jvm.Cond.and given_1 narrow_1) := List.mem_of_getElem? (i := 116) (by decide +kernel)
set_option maxRecDepth 100000 in
theorem gn0_9 : Jvm.Cond.not (Jvm.Cond.eq (Jvm.Term.string "StarCrew$TextReader" (35 : Nat)) (Jvm.Term.string "StarCrew$TextReader" (73 : Nat))) ∈ flatC (Jvm.Cond.and given_1 narrow_1) := List.mem_of_getElem? (i := 131) (by decide +kernel)
set_option maxRecDepth 100000 in
theorem gn0_10 : Jvm.Cond.not (Jvm.Cond.eq (Jvm.Term.string "StarCrew$TextReader" (35 : Nat)) (Jvm.Term.string "StarCrew$TextReader" (75 : Nat))) ∈ flatC (Jvm.Cond.and given_1 narrow_1) := List.mem_of_getElem? (i := 149) (by decide +kernel)
set_option maxRecDepth 100000 in
theorem gn0_11 : Jvm.Cond.not (Jvm.Cond.eq (Jvm.Term.string "StarCrew$TextReader" (35 : Nat)) (Jvm.Term.string "StarCrew$TextReader" (96 : Nat))) ∈ flatC (Jvm.Cond.and given_1 narrow_1) := List.mem_of_getElem? (i := 167) (by decide +kernel)
set_option maxRecDepth 100000 in
theorem gn0_12 : Jvm.Cond.not (Jvm.Cond.eq (Jvm.Term.string "StarCrew$TextReader" (35 : Nat)) (Jvm.Term.string "StarCrew$TextReader" (98 : Nat))) ∈ flatC (Jvm.Cond.and given_1 narrow_1) := List.mem_of_getElem? (i := 187) (by decide +kernel)
set_option maxRecDepth 100000 in
theorem gn0_13 : Jvm.Cond.not (Jvm.Cond.eq (Jvm.Term.string "StarCrew$TextReader" (35 : Nat)) (Jvm.Term.string "StarCrew$TextReader" (77 : Nat))) ∈ flatC (Jvm.Cond.and given_1 narrow_1) := List.mem_of_getElem? (i := 207) (by decide +kernel)
set_option maxRecDepth 100000 in
theorem gn0_14 : Jvm.Cond.not (Jvm.Cond.eq (Jvm.Term.string "StarCrew$TextReader" (35 : Nat)) (Jvm.Term.string "StarCrew$TextReader" (79 : Nat))) ∈ flatC (Jvm.Cond.and given_1 narrow_1) := List.mem_of_getElem? (i := 230) (by decide +kernel)
set_option maxRecDepth 100000 in
theorem gn0_15 : Jvm.Cond.not (Jvm.Cond.eq (Jvm.Term.string "StarCrew$TextReader" (35 : Nat)) (Jvm.Term.string "StarCrew$TextReader" (81 : Nat))) ∈ flatC (Jvm.Cond.and given_1 narrow_1) := List.mem_of_getElem? (i := 252) (by decide +kernel)
set_option maxRecDepth 100000 in
theorem gn0_16 : Jvm.Cond.not (Jvm.Cond.eq (Jvm.Term.string "StarCrew$TextReader" (35 : Nat)) (Jvm.Term.string "StarCrew$TextReader" (83 : Nat))) ∈ flatC (Jvm.Cond.and given_1 narrow_1) := List.mem_of_getElem? (i := 276) (by decide +kernel)
set_option maxRecDepth 100000 in
theorem gn1_2 : Jvm.Cond.not (Jvm.Cond.eq (Jvm.Term.string "StarCrew$TextReader" (90 : Nat)) (Jvm.Term.string "StarCrew$TextReader" (112 : Nat))) ∈ flatC (Jvm.Cond.and given_1 narrow_1) := List.mem_of_getElem? (i := 41) (by decide +kernel)
set_option maxRecDepth 100000 in
theorem gn1_3 : Jvm.Cond.not (Jvm.Cond.eq (Jvm.Term.string "StarCrew$TextReader" (90 : Nat)) (Jvm.Term.string "StarCrew$TextReader" (44 : Nat))) ∈ flatC (Jvm.Cond.and given_1 narrow_1) := List.mem_of_getElem? (i := 51) (by decide +kernel)
set_option maxRecDepth 100000 in
theorem gn1_4 : Jvm.Cond.not (Jvm.Cond.eq (Jvm.Term.string "StarCrew$TextReader" (90 : Nat)) (Jvm.Term.string "StarCrew$TextReader" (63 : Nat))) ∈ flatC (Jvm.Cond.and given_1 narrow_1) := List.mem_of_getElem? (i := 62) (by decide +kernel)
set_option maxRecDepth 100000 in
theorem gn1_5 : Jvm.Cond.not (Jvm.Cond.eq (Jvm.Term.string "StarCrew$TextReader" (90 : Nat)) (Jvm.Term.string "StarCrew$TextReader" (65 : Nat))) ∈ flatC (Jvm.Cond.and given_1 narrow_1) := List.mem_of_getElem? (i := 73) (by decide +kernel)
set_option maxRecDepth 100000 in
theorem gn1_6 : Jvm.Cond.not (Jvm.Cond.eq (Jvm.Term.string "StarCrew$TextReader" (90 : Nat)) (Jvm.Term.string "StarCrew$TextReader" (67 : Nat))) ∈ flatC (Jvm.Cond.and given_1 narrow_1) := List.mem_of_getElem? (i := 87) (by decide +kernel)
set_option maxRecDepth 100000 in
theorem gn1_7 : Jvm.Cond.not (Jvm.Cond.eq (Jvm.Term.string "StarCrew$TextReader" (90 : Nat)) (Jvm.Term.string "StarCrew$TextReader" (69 : Nat))) ∈ flatC (Jvm.Cond.and given_1 narrow_1) := List.mem_of_getElem? (i := 101) (by decide +kernel)
set_option maxRecDepth 100000 in
theorem gn1_8 : Jvm.Cond.not (Jvm.Cond.eq (Jvm.Term.string "StarCrew$TextReader" (90 : Nat)) (Jvm.Term.string "StarCrew$TextReader" (71 : Nat))) ∈ flatC (Jvm.Cond.and given_1 narrow_1) := List.mem_of_getElem? (i := 117) (by decide +kernel)
set_option maxRecDepth 100000 in
theorem gn1_9 : Jvm.Cond.not (Jvm.Cond.eq (Jvm.Term.string "StarCrew$TextReader" (90 : Nat)) (Jvm.Term.string "StarCrew$TextReader" (73 : Nat))) ∈ flatC (Jvm.Cond.and given_1 narrow_1) := List.mem_of_getElem? (i := 132) (by decide +kernel)
set_option maxRecDepth 100000 in
theorem gn1_10 : Jvm.Cond.not (Jvm.Cond.eq (Jvm.Term.string "StarCrew$TextReader" (90 : Nat)) (Jvm.Term.string "StarCrew$TextReader" (75 : Nat))) ∈ flatC (Jvm.Cond.and given_1 narrow_1) := List.mem_of_getElem? (i := 150) (by decide +kernel)
set_option maxRecDepth 100000 in
theorem gn1_11 : Jvm.Cond.not (Jvm.Cond.eq (Jvm.Term.string "StarCrew$TextReader" (90 : Nat)) (Jvm.Term.string "StarCrew$TextReader" (96 : Nat))) ∈ flatC (Jvm.Cond.and given_1 narrow_1) := List.mem_of_getElem? (i := 168) (by decide +kernel)
set_option maxRecDepth 100000 in
theorem gn1_12 : Jvm.Cond.not (Jvm.Cond.eq (Jvm.Term.string "StarCrew$TextReader" (90 : Nat)) (Jvm.Term.string "StarCrew$TextReader" (98 : Nat))) ∈ flatC (Jvm.Cond.and given_1 narrow_1) := List.mem_of_getElem? (i := 188) (by decide +kernel)
set_option maxRecDepth 100000 in
theorem gn1_13 : Jvm.Cond.not (Jvm.Cond.eq (Jvm.Term.string "StarCrew$TextReader" (90 : Nat)) (Jvm.Term.string "StarCrew$TextReader" (77 : Nat))) ∈ flatC (Jvm.Cond.and given_1 narrow_1) := List.mem_of_getElem? (i := 208) (by decide +kernel)
set_option maxRecDepth 100000 in
theorem gn1_14 : Jvm.Cond.not (Jvm.Cond.eq (Jvm.Term.string "StarCrew$TextReader" (90 : Nat)) (Jvm.Term.string "StarCrew$TextReader" (79 : Nat))) ∈ flatC (Jvm.Cond.and given_1 narrow_1) := List.mem_of_getElem? (i := 231) (by decide +kernel)
set_option maxRecDepth 100000 in
theorem gn1_15 : Jvm.Cond.not (Jvm.Cond.eq (Jvm.Term.string "StarCrew$TextReader" (90 : Nat)) (Jvm.Term.string "StarCrew$TextReader" (81 : Nat))) ∈ flatC (Jvm.Cond.and given_1 narrow_1) := List.mem_of_getElem? (i := 253) (by decide +kernel)
set_option maxRecDepth 100000 in
theorem gn1_16 : Jvm.Cond.not (Jvm.Cond.eq (Jvm.Term.string "StarCrew$TextReader" (90 : Nat)) (Jvm.Term.string "StarCrew$TextReader" (83 : Nat))) ∈ flatC (Jvm.Cond.and given_1 narrow_1) := List.mem_of_getElem? (i := 277) (by decide +kernel)
set_option maxRecDepth 100000 in
theorem gn2_3 : Jvm.Cond.not (Jvm.Cond.eq (Jvm.Term.string "StarCrew$TextReader" (112 : Nat)) (Jvm.Term.string "StarCrew$TextReader" (44 : Nat))) ∈ flatC (Jvm.Cond.and given_1 narrow_1) := List.mem_of_getElem? (i := 52) (by decide +kernel)
set_option maxRecDepth 100000 in
theorem gn2_4 : Jvm.Cond.not (Jvm.Cond.eq (Jvm.Term.string "StarCrew$TextReader" (112 : Nat)) (Jvm.Term.string "StarCrew$TextReader" (63 : Nat))) ∈ flatC (Jvm.Cond.and given_1 narrow_1) := List.mem_of_getElem? (i := 63) (by decide +kernel)
set_option maxRecDepth 100000 in
theorem gn2_5 : Jvm.Cond.not (Jvm.Cond.eq (Jvm.Term.string "StarCrew$TextReader" (112 : Nat)) (Jvm.Term.string "StarCrew$TextReader" (65 : Nat))) ∈ flatC (Jvm.Cond.and given_1 narrow_1) := List.mem_of_getElem? (i := 74) (by decide +kernel)
set_option maxRecDepth 100000 in
theorem gn2_6 : Jvm.Cond.not (Jvm.Cond.eq (Jvm.Term.string "StarCrew$TextReader" (112 : Nat)) (Jvm.Term.string "StarCrew$TextReader" (67 : Nat))) ∈ flatC (Jvm.Cond.and given_1 narrow_1) := List.mem_of_getElem? (i := 88) (by decide +kernel)
set_option maxRecDepth 100000 in
theorem gn2_7 : Jvm.Cond.not (Jvm.Cond.eq (Jvm.Term.string "StarCrew$TextReader" (112 : Nat)) (Jvm.Term.string "StarCrew$TextReader" (69 : Nat))) ∈ flatC (Jvm.Cond.and given_1 narrow_1) := List.mem_of_getElem? (i := 102) (by decide +kernel)
set_option maxRecDepth 100000 in
theorem gn2_8 : Jvm.Cond.not (Jvm.Cond.eq (Jvm.Term.string "StarCrew$TextReader" (112 : Nat)) (Jvm.Term.string "StarCrew$TextReader" (71 : Nat))) ∈ flatC (Jvm.Cond.and given_1 narrow_1) := List.mem_of_getElem? (i := 118) (by decide +kernel)
set_option maxRecDepth 100000 in
theorem gn2_9 : Jvm.Cond.not (Jvm.Cond.eq (Jvm.Term.string "StarCrew$TextReader" (112 : Nat)) (Jvm.Term.string "StarCrew$TextReader" (73 : Nat))) ∈ flatC (Jvm.Cond.and given_1 narrow_1) := List.mem_of_getElem? (i := 133) (by decide +kernel)
set_option maxRecDepth 100000 in
theorem gn2_10 : Jvm.Cond.not (Jvm.Cond.eq (Jvm.Term.string "StarCrew$TextReader" (112 : Nat)) (Jvm.Term.string "StarCrew$TextReader" (75 : Nat))) ∈ flatC (Jvm.Cond.and given_1 narrow_1) := List.mem_of_getElem? (i := 151) (by decide +kernel)
set_option maxRecDepth 100000 in
theorem gn2_11 : Jvm.Cond.not (Jvm.Cond.eq (Jvm.Term.string "StarCrew$TextReader" (112 : Nat)) (Jvm.Term.string "StarCrew$TextReader" (96 : Nat))) ∈ flatC (Jvm.Cond.and given_1 narrow_1) := List.mem_of_getElem? (i := 169) (by decide +kernel)
set_option maxRecDepth 100000 in
theorem gn2_12 : Jvm.Cond.not (Jvm.Cond.eq (Jvm.Term.string "StarCrew$TextReader" (112 : Nat)) (Jvm.Term.string "StarCrew$TextReader" (98 : Nat))) ∈ flatC (Jvm.Cond.and given_1 narrow_1) := List.mem_of_getElem? (i := 189) (by decide +kernel)
set_option maxRecDepth 100000 in
theorem gn2_13 : Jvm.Cond.not (Jvm.Cond.eq (Jvm.Term.string "StarCrew$TextReader" (112 : Nat)) (Jvm.Term.string "StarCrew$TextReader" (77 : Nat))) ∈ flatC (Jvm.Cond.and given_1 narrow_1) := List.mem_of_getElem? (i := 209) (by decide +kernel)
set_option maxRecDepth 100000 in
theorem gn2_14 : Jvm.Cond.not (Jvm.Cond.eq (Jvm.Term.string "StarCrew$TextReader" (112 : Nat)) (Jvm.Term.string "StarCrew$TextReader" (79 : Nat))) ∈ flatC (Jvm.Cond.and given_1 narrow_1) := List.mem_of_getElem? (i := 232) (by decide +kernel)
set_option maxRecDepth 100000 in
theorem gn2_15 : Jvm.Cond.not (Jvm.Cond.eq (Jvm.Term.string "StarCrew$TextReader" (112 : Nat)) (Jvm.Term.string "StarCrew$TextReader" (81 : Nat))) ∈ flatC (Jvm.Cond.and given_1 narrow_1) := List.mem_of_getElem? (i := 254) (by decide +kernel)
set_option maxRecDepth 100000 in
theorem gn2_16 : Jvm.Cond.not (Jvm.Cond.eq (Jvm.Term.string "StarCrew$TextReader" (112 : Nat)) (Jvm.Term.string "StarCrew$TextReader" (83 : Nat))) ∈ flatC (Jvm.Cond.and given_1 narrow_1) := List.mem_of_getElem? (i := 278) (by decide +kernel)
set_option maxRecDepth 100000 in
theorem gn3_4 : Jvm.Cond.not (Jvm.Cond.eq (Jvm.Term.string "StarCrew$TextReader" (44 : Nat)) (Jvm.Term.string "StarCrew$TextReader" (63 : Nat))) ∈ flatC (Jvm.Cond.and given_1 narrow_1) := List.mem_of_getElem? (i := 64) (by decide +kernel)
set_option maxRecDepth 100000 in
theorem gn3_5 : Jvm.Cond.not (Jvm.Cond.eq (Jvm.Term.string "StarCrew$TextReader" (44 : Nat)) (Jvm.Term.string "StarCrew$TextReader" (65 : Nat))) ∈ flatC (Jvm.Cond.and given_1 narrow_1) := List.mem_of_getElem? (i := 75) (by decide +kernel)
set_option maxRecDepth 100000 in
theorem gn3_6 : Jvm.Cond.not (Jvm.Cond.eq (Jvm.Term.string "StarCrew$TextReader" (44 : Nat)) (Jvm.Term.string "StarCrew$TextReader" (67 : Nat))) ∈ flatC (Jvm.Cond.and given_1 narrow_1) := List.mem_of_getElem? (i := 89) (by decide +kernel)
set_option maxRecDepth 100000 in
theorem gn3_7 : Jvm.Cond.not (Jvm.Cond.eq (Jvm.Term.string "StarCrew$TextReader" (44 : Nat)) (Jvm.Term.string "StarCrew$TextReader" (69 : Nat))) ∈ flatC (Jvm.Cond.and given_1 narrow_1) := List.mem_of_getElem? (i := 103) (by decide +kernel)
set_option maxRecDepth 100000 in
theorem gn3_8 : Jvm.Cond.not (Jvm.Cond.eq (Jvm.Term.string "StarCrew$TextReader" (44 : Nat)) (Jvm.Term.string "StarCrew$TextReader" (71 : Nat))) ∈ flatC (Jvm.Cond.and given_1 narrow_1) := List.mem_of_getElem? (i := 119) (by decide +kernel)
set_option maxRecDepth 100000 in
theorem gn3_9 : Jvm.Cond.not (Jvm.Cond.eq (Jvm.Term.string "StarCrew$TextReader" (44 : Nat)) (Jvm.Term.string "StarCrew$TextReader" (73 : Nat))) ∈ flatC (Jvm.Cond.and given_1 narrow_1) := List.mem_of_getElem? (i := 134) (by decide +kernel)
set_option maxRecDepth 100000 in
theorem gn3_10 : Jvm.Cond.not (Jvm.Cond.eq (Jvm.Term.string "StarCrew$TextReader" (44 : Nat)) (Jvm.Term.string "StarCrew$TextReader" (75 : Nat))) ∈ flatC (Jvm.Cond.and given_1 narrow_1) := List.mem_of_getElem? (i := 152) (by decide +kernel)
set_option maxRecDepth 100000 in
theorem gn3_11 : Jvm.Cond.not (Jvm.Cond.eq (Jvm.Term.string "StarCrew$TextReader" (44 : Nat)) (Jvm.Term.string "StarCrew$TextReader" (96 : Nat))) ∈ flatC (Jvm.Cond.and given_1 narrow_1) := List.mem_of_getElem? (i := 170) (by decide +kernel)
set_option maxRecDepth 100000 in
theorem gn3_12 : Jvm.Cond.not (Jvm.Cond.eq (Jvm.Term.string "StarCrew$TextReader" (44 : Nat)) (Jvm.Term.string "StarCrew$TextReader" (98 : Nat))) ∈ flatC (Jvm.Cond.and given_1 narrow_1) := List.mem_of_getElem? (i := 190) (by decide +kernel)
set_option maxRecDepth 100000 in
theorem gn3_13 : Jvm.Cond.not (Jvm.Cond.eq (Jvm.Term.string "StarCrew$TextReader" (44 : Nat)) (Jvm.Term.string "StarCrew$TextReader" (77 : Nat))) ∈ flatC (Jvm.Cond.and given_1 narrow_1) := List.mem_of_getElem? (i := 210) (by decide +kernel)
set_option maxRecDepth 100000 in
theorem gn3_14 : Jvm.Cond.not (Jvm.Cond.eq (Jvm.Term.string "StarCrew$TextReader" (44 : Nat)) (Jvm.Term.string "StarCrew$TextReader" (79 : Nat))) ∈ flatC (Jvm.Cond.and given_1 narrow_1) := List.mem_of_getElem? (i := 233) (by decide +kernel)
set_option maxRecDepth 100000 in
theorem gn3_15 : Jvm.Cond.not (Jvm.Cond.eq (Jvm.Term.string "StarCrew$TextReader" (44 : Nat)) (Jvm.Term.string "StarCrew$TextReader" (81 : Nat))) ∈ flatC (Jvm.Cond.and given_1 narrow_1) := List.mem_of_getElem? (i := 255) (by decide +kernel)
set_option maxRecDepth 100000 in
theorem gn3_16 : Jvm.Cond.not (Jvm.Cond.eq (Jvm.Term.string "StarCrew$TextReader" (44 : Nat)) (Jvm.Term.string "StarCrew$TextReader" (83 : Nat))) ∈ flatC (Jvm.Cond.and given_1 narrow_1) := List.mem_of_getElem? (i := 279) (by decide +kernel)
set_option maxRecDepth 100000 in
theorem gn4_5 : Jvm.Cond.not (Jvm.Cond.eq (Jvm.Term.string "StarCrew$TextReader" (63 : Nat)) (Jvm.Term.string "StarCrew$TextReader" (65 : Nat))) ∈ flatC (Jvm.Cond.and given_1 narrow_1) := List.mem_of_getElem? (i := 76) (by decide +kernel)
set_option maxRecDepth 100000 in
theorem gn4_6 : Jvm.Cond.not (Jvm.Cond.eq (Jvm.Term.string "StarCrew$TextReader" (63 : Nat)) (Jvm.Term.string "StarCrew$TextReader" (67 : Nat))) ∈ flatC (Jvm.Cond.and given_1 narrow_1) := List.mem_of_getElem? (i := 90) (by decide +kernel)
set_option maxRecDepth 100000 in
theorem gn4_7 : Jvm.Cond.not (Jvm.Cond.eq (Jvm.Term.string "StarCrew$TextReader" (63 : Nat)) (Jvm.Term.string "StarCrew$TextReader" (69 : Nat))) ∈ flatC (Jvm.Cond.and given_1 narrow_1) := List.mem_of_getElem? (i := 104) (by decide +kernel)
set_option maxRecDepth 100000 in
theorem gn4_8 : Jvm.Cond.not (Jvm.Cond.eq (Jvm.Term.string "StarCrew$TextReader" (63 : Nat)) (Jvm.Term.string "StarCrew$TextReader" (71 : Nat))) ∈ flatC (Jvm.Cond.and given_1 narrow_1) := List.mem_of_getElem? (i := 120) (by decide +kernel)
set_option maxRecDepth 100000 in
theorem gn4_9 : Jvm.Cond.not (Jvm.Cond.eq (Jvm.Term.string "StarCrew$TextReader" (63 : Nat)) (Jvm.Term.string "StarCrew$TextReader" (73 : Nat))) ∈ flatC (Jvm.Cond.and given_1 narrow_1) := List.mem_of_getElem? (i := 135) (by decide +kernel)
set_option maxRecDepth 100000 in
theorem gn4_10 : Jvm.Cond.not (Jvm.Cond.eq (Jvm.Term.string "StarCrew$TextReader" (63 : Nat)) (Jvm.Term.string "StarCrew$TextReader" (75 : Nat))) ∈ flatC (Jvm.Cond.and given_1 narrow_1) := List.mem_of_getElem? (i := 153) (by decide +kernel)
set_option maxRecDepth 100000 in
theorem gn4_11 : Jvm.Cond.not (Jvm.Cond.eq (Jvm.Term.string "StarCrew$TextReader" (63 : Nat)) (Jvm.Term.string "StarCrew$TextReader" (96 : Nat))) ∈ flatC (Jvm.Cond.and given_1 narrow_1) := List.mem_of_getElem? (i := 171) (by decide +kernel)
set_option maxRecDepth 100000 in
theorem gn4_12 : Jvm.Cond.not (Jvm.Cond.eq (Jvm.Term.string "StarCrew$TextReader" (63 : Nat)) (Jvm.Term.string "StarCrew$TextReader" (98 : Nat))) ∈ flatC (Jvm.Cond.and given_1 narrow_1) := List.mem_of_getElem? (i := 191) (by decide +kernel)
set_option maxRecDepth 100000 in
theorem gn4_13 : Jvm.Cond.not (Jvm.Cond.eq (Jvm.Term.string "StarCrew$TextReader" (63 : Nat)) (Jvm.Term.string "StarCrew$TextReader" (77 : Nat))) ∈ flatC (Jvm.Cond.and given_1 narrow_1) := List.mem_of_getElem? (i := 211) (by decide +kernel)
set_option maxRecDepth 100000 in
theorem gn4_14 : Jvm.Cond.not (Jvm.Cond.eq (Jvm.Term.string "StarCrew$TextReader" (63 : Nat)) (Jvm.Term.string "StarCrew$TextReader" (79 : Nat))) ∈ flatC (Jvm.Cond.and given_1 narrow_1) := List.mem_of_getElem? (i := 234) (by decide +kernel)
set_option maxRecDepth 100000 in
theorem gn4_15 : Jvm.Cond.not (Jvm.Cond.eq (Jvm.Term.string "StarCrew$TextReader" (63 : Nat)) (Jvm.Term.string "StarCrew$TextReader" (81 : Nat))) ∈ flatC (Jvm.Cond.and given_1 narrow_1) := List.mem_of_getElem? (i := 256) (by decide +kernel)
set_option maxRecDepth 100000 in
theorem gn4_16 : Jvm.Cond.not (Jvm.Cond.eq (Jvm.Term.string "StarCrew$TextReader" (63 : Nat)) (Jvm.Term.string "StarCrew$TextReader" (83 : Nat))) ∈ flatC (Jvm.Cond.and given_1 narrow_1) := List.mem_of_getElem? (i := 280) (by decide +kernel)
set_option maxRecDepth 100000 in
theorem gn5_6 : Jvm.Cond.not (Jvm.Cond.eq (Jvm.Term.string "StarCrew$TextReader" (65 : Nat)) (Jvm.Term.string "StarCrew$TextReader" (67 : Nat))) ∈ flatC (Jvm.Cond.and given_1 narrow_1) := List.mem_of_getElem? (i := 91) (by decide +kernel)
set_option maxRecDepth 100000 in
theorem gn5_7 : Jvm.Cond.not (Jvm.Cond.eq (Jvm.Term.string "StarCrew$TextReader" (65 : Nat)) (Jvm.Term.string "StarCrew$TextReader" (69 : Nat))) ∈ flatC (Jvm.Cond.and given_1 narrow_1) := List.mem_of_getElem? (i := 105) (by decide +kernel)
set_option maxRecDepth 100000 in
theorem gn5_8 : Jvm.Cond.not (Jvm.Cond.eq (Jvm.Term.string "StarCrew$TextReader" (65 : Nat)) (Jvm.Term.string "StarCrew$TextReader" (71 : Nat))) ∈ flatC (Jvm.Cond.and given_1 narrow_1) := List.mem_of_getElem? (i := 121) (by decide +kernel)
set_option maxRecDepth 100000 in
theorem gn5_9 : Jvm.Cond.not (Jvm.Cond.eq (Jvm.Term.string "StarCrew$TextReader" (65 : Nat)) (Jvm.Term.string "StarCrew$TextReader" (73 : Nat))) ∈ flatC (Jvm.Cond.and given_1 narrow_1) := List.mem_of_getElem? (i := 136) (by decide +kernel)
set_option maxRecDepth 100000 in
theorem gn5_10 : Jvm.Cond.not (Jvm.Cond.eq (Jvm.Term.string "StarCrew$TextReader" (65 : Nat)) (Jvm.Term.string "StarCrew$TextReader" (75 : Nat))) ∈ flatC (Jvm.Cond.and given_1 narrow_1) := List.mem_of_getElem? (i := 154) (by decide +kernel)
set_option maxRecDepth 100000 in
theorem gn5_11 : Jvm.Cond.not (Jvm.Cond.eq (Jvm.Term.string "StarCrew$TextReader" (65 : Nat)) (Jvm.Term.string "StarCrew$TextReader" (96 : Nat))) ∈ flatC (Jvm.Cond.and given_1 narrow_1) := List.mem_of_getElem? (i := 172) (by decide +kernel)
set_option maxRecDepth 100000 in
theorem gn5_12 : Jvm.Cond.not (Jvm.Cond.eq (Jvm.Term.string "StarCrew$TextReader" (65 : Nat)) (Jvm.Term.string "StarCrew$TextReader" (98 : Nat))) ∈ flatC (Jvm.Cond.and given_1 narrow_1) := List.mem_of_getElem? (i := 192) (by decide +kernel)
set_option maxRecDepth 100000 in
theorem gn5_13 : Jvm.Cond.not (Jvm.Cond.eq (Jvm.Term.string "StarCrew$TextReader" (65 : Nat)) (Jvm.Term.string "StarCrew$TextReader" (77 : Nat))) ∈ flatC (Jvm.Cond.and given_1 narrow_1) := List.mem_of_getElem? (i := 212) (by decide +kernel)
set_option maxRecDepth 100000 in
theorem gn5_14 : Jvm.Cond.not (Jvm.Cond.eq (Jvm.Term.string "StarCrew$TextReader" (65 : Nat)) (Jvm.Term.string "StarCrew$TextReader" (79 : Nat))) ∈ flatC (Jvm.Cond.and given_1 narrow_1) := List.mem_of_getElem? (i := 235) (by decide +kernel)
set_option maxRecDepth 100000 in
theorem gn5_15 : Jvm.Cond.not (Jvm.Cond.eq (Jvm.Term.string "StarCrew$TextReader" (65 : Nat)) (Jvm.Term.string "StarCrew$TextReader" (81 : Nat))) ∈ flatC (Jvm.Cond.and given_1 narrow_1) := List.mem_of_getElem? (i := 257) (by decide +kernel)
set_option maxRecDepth 100000 in
theorem gn5_16 : Jvm.Cond.not (Jvm.Cond.eq (Jvm.Term.string "StarCrew$TextReader" (65 : Nat)) (Jvm.Term.string "StarCrew$TextReader" (83 : Nat))) ∈ flatC (Jvm.Cond.and given_1 narrow_1) := List.mem_of_getElem? (i := 281) (by decide +kernel)
set_option maxRecDepth 100000 in
theorem gn6_7 : Jvm.Cond.not (Jvm.Cond.eq (Jvm.Term.string "StarCrew$TextReader" (67 : Nat)) (Jvm.Term.string "StarCrew$TextReader" (69 : Nat))) ∈ flatC (Jvm.Cond.and given_1 narrow_1) := List.mem_of_getElem? (i := 106) (by decide +kernel)
set_option maxRecDepth 100000 in
theorem gn6_8 : Jvm.Cond.not (Jvm.Cond.eq (Jvm.Term.string "StarCrew$TextReader" (67 : Nat)) (Jvm.Term.string "StarCrew$TextReader" (71 : Nat))) ∈ flatC (Jvm.Cond.and given_1 narrow_1) := List.mem_of_getElem? (i := 122) (by decide +kernel)
set_option maxRecDepth 100000 in
theorem gn6_9 : Jvm.Cond.not (Jvm.Cond.eq (Jvm.Term.string "StarCrew$TextReader" (67 : Nat)) (Jvm.Term.string "StarCrew$TextReader" (73 : Nat))) ∈ flatC (Jvm.Cond.and given_1 narrow_1) := List.mem_of_getElem? (i := 137) (by decide +kernel)
set_option maxRecDepth 100000 in
theorem gn6_10 : Jvm.Cond.not (Jvm.Cond.eq (Jvm.Term.string "StarCrew$TextReader" (67 : Nat)) (Jvm.Term.string "StarCrew$TextReader" (75 : Nat))) ∈ flatC (Jvm.Cond.and given_1 narrow_1) := List.mem_of_getElem? (i := 155) (by decide +kernel)
set_option maxRecDepth 100000 in
theorem gn6_11 : Jvm.Cond.not (Jvm.Cond.eq (Jvm.Term.string "StarCrew$TextReader" (67 : Nat)) (Jvm.Term.string "StarCrew$TextReader" (96 : Nat))) ∈ flatC (Jvm.Cond.and given_1 narrow_1) := List.mem_of_getElem? (i := 173) (by decide +kernel)
set_option maxRecDepth 100000 in
theorem gn6_12 : Jvm.Cond.not (Jvm.Cond.eq (Jvm.Term.string "StarCrew$TextReader" (67 : Nat)) (Jvm.Term.string "StarCrew$TextReader" (98 : Nat))) ∈ flatC (Jvm.Cond.and given_1 narrow_1) := List.mem_of_getElem? (i := 193) (by decide +kernel)
set_option maxRecDepth 100000 in
theorem gn6_13 : Jvm.Cond.not (Jvm.Cond.eq (Jvm.Term.string "StarCrew$TextReader" (67 : Nat)) (Jvm.Term.string "StarCrew$TextReader" (77 : Nat))) ∈ flatC (Jvm.Cond.and given_1 narrow_1) := List.mem_of_getElem? (i := 213) (by decide +kernel)
set_option maxRecDepth 100000 in
theorem gn6_14 : Jvm.Cond.not (Jvm.Cond.eq (Jvm.Term.string "StarCrew$TextReader" (67 : Nat)) (Jvm.Term.string "StarCrew$TextReader" (79 : Nat))) ∈ flatC (Jvm.Cond.and given_1 narrow_1) := List.mem_of_getElem? (i := 236) (by decide +kernel)
set_option maxRecDepth 100000 in
theorem gn6_15 : Jvm.Cond.not (Jvm.Cond.eq (Jvm.Term.string "StarCrew$TextReader" (67 : Nat)) (Jvm.Term.string "StarCrew$TextReader" (81 : Nat))) ∈ flatC (Jvm.Cond.and given_1 narrow_1) := List.mem_of_getElem? (i := 258) (by decide +kernel)
set_option maxRecDepth 100000 in
theorem gn6_16 : Jvm.Cond.not (Jvm.Cond.eq (Jvm.Term.string "StarCrew$TextReader" (67 : Nat)) (Jvm.Term.string "StarCrew$TextReader" (83 : Nat))) ∈ flatC (Jvm.Cond.and given_1 narrow_1) := List.mem_of_getElem? (i := 282) (by decide +kernel)
set_option maxRecDepth 100000 in
theorem gn7_8 : Jvm.Cond.not (Jvm.Cond.eq (Jvm.Term.string "StarCrew$TextReader" (69 : Nat)) (Jvm.Term.string "StarCrew$TextReader" (71 : Nat))) ∈ flatC (Jvm.Cond.and given_1 narrow_1) := List.mem_of_getElem? (i := 123) (by decide +kernel)
set_option maxRecDepth 100000 in
theorem gn7_9 : Jvm.Cond.not (Jvm.Cond.eq (Jvm.Term.string "StarCrew$TextReader" (69 : Nat)) (Jvm.Term.string "StarCrew$TextReader" (73 : Nat))) ∈ flatC (Jvm.Cond.and given_1 narrow_1) := List.mem_of_getElem? (i := 138) (by decide +kernel)
set_option maxRecDepth 100000 in
theorem gn7_10 : Jvm.Cond.not (Jvm.Cond.eq (Jvm.Term.string "StarCrew$TextReader" (69 : Nat)) (Jvm.Term.string "StarCrew$TextReader" (75 : Nat))) ∈ flatC (Jvm.Cond.and given_1 narrow_1) := List.mem_of_getElem? (i := 156) (by decide +kernel)
set_option maxRecDepth 100000 in
theorem gn7_11 : Jvm.Cond.not (Jvm.Cond.eq (Jvm.Term.string "StarCrew$TextReader" (69 : Nat)) (Jvm.Term.string "StarCrew$TextReader" (96 : Nat))) ∈ flatC (Jvm.Cond.and given_1 narrow_1) := List.mem_of_getElem? (i := 174) (by decide +kernel)
set_option maxRecDepth 100000 in
theorem gn7_12 : Jvm.Cond.not (Jvm.Cond.eq (Jvm.Term.string "StarCrew$TextReader" (69 : Nat)) (Jvm.Term.string "StarCrew$TextReader" (98 : Nat))) ∈ flatC (Jvm.Cond.and given_1 narrow_1) := List.mem_of_getElem? (i := 194) (by decide +kernel)
set_option maxRecDepth 100000 in
theorem gn7_13 : Jvm.Cond.not (Jvm.Cond.eq (Jvm.Term.string "StarCrew$TextReader" (69 : Nat)) (Jvm.Term.string "StarCrew$TextReader" (77 : Nat))) ∈ flatC (Jvm.Cond.and given_1 narrow_1) := List.mem_of_getElem? (i := 214) (by decide +kernel)
set_option maxRecDepth 100000 in
theorem gn7_14 : Jvm.Cond.not (Jvm.Cond.eq (Jvm.Term.string "StarCrew$TextReader" (69 : Nat)) (Jvm.Term.string "StarCrew$TextReader" (79 : Nat))) ∈ flatC (Jvm.Cond.and given_1 narrow_1) := List.mem_of_getElem? (i := 237) (by decide +kernel)
set_option maxRecDepth 100000 in
theorem gn7_15 : Jvm.Cond.not (Jvm.Cond.eq (Jvm.Term.string "StarCrew$TextReader" (69 : Nat)) (Jvm.Term.string "StarCrew$TextReader" (81 : Nat))) ∈ flatC (Jvm.Cond.and given_1 narrow_1) := List.mem_of_getElem? (i := 259) (by decide +kernel)
set_option maxRecDepth 100000 in
theorem gn7_16 : Jvm.Cond.not (Jvm.Cond.eq (Jvm.Term.string "StarCrew$TextReader" (69 : Nat)) (Jvm.Term.string "StarCrew$TextReader" (83 : Nat))) ∈ flatC (Jvm.Cond.and given_1 narrow_1) := List.mem_of_getElem? (i := 283) (by decide +kernel)
set_option maxRecDepth 100000 in
theorem gn8_9 : Jvm.Cond.not (Jvm.Cond.eq (Jvm.Term.string "StarCrew$TextReader" (71 : Nat)) (Jvm.Term.string "StarCrew$TextReader" (73 : Nat))) ∈ flatC (Jvm.Cond.and given_1 narrow_1) := List.mem_of_getElem? (i := 139) (by decide +kernel)
set_option maxRecDepth 100000 in
theorem gn8_10 : Jvm.Cond.not (Jvm.Cond.eq (Jvm.Term.string "StarCrew$TextReader" (71 : Nat)) (Jvm.Term.string "StarCrew$TextReader" (75 : Nat))) ∈ flatC (Jvm.Cond.and given_1 narrow_1) := List.mem_of_getElem? (i := 157) (by decide +kernel)
set_option maxRecDepth 100000 in
theorem gn8_11 : Jvm.Cond.not (Jvm.Cond.eq (Jvm.Term.string "StarCrew$TextReader" (71 : Nat)) (Jvm.Term.string "StarCrew$TextReader" (96 : Nat))) ∈ flatC (Jvm.Cond.and given_1 narrow_1) := List.mem_of_getElem? (i := 175) (by decide +kernel)
set_option maxRecDepth 100000 in
theorem gn8_12 : Jvm.Cond.not (Jvm.Cond.eq (Jvm.Term.string "StarCrew$TextReader" (71 : Nat)) (Jvm.Term.string "StarCrew$TextReader" (98 : Nat))) ∈ flatC (Jvm.Cond.and given_1 narrow_1) := List.mem_of_getElem? (i := 195) (by decide +kernel)
set_option maxRecDepth 100000 in
theorem gn8_13 : Jvm.Cond.not (Jvm.Cond.eq (Jvm.Term.string "StarCrew$TextReader" (71 : Nat)) (Jvm.Term.string "StarCrew$TextReader" (77 : Nat))) ∈ flatC (Jvm.Cond.and given_1 narrow_1) := List.mem_of_getElem? (i := 215) (by decide +kernel)
set_option maxRecDepth 100000 in
theorem gn8_14 : Jvm.Cond.not (Jvm.Cond.eq (Jvm.Term.string "StarCrew$TextReader" (71 : Nat)) (Jvm.Term.string "StarCrew$TextReader" (79 : Nat))) ∈ flatC (Jvm.Cond.and given_1 narrow_1) := List.mem_of_getElem? (i := 238) (by decide +kernel)
set_option maxRecDepth 100000 in
theorem gn8_15 : Jvm.Cond.not (Jvm.Cond.eq (Jvm.Term.string "StarCrew$TextReader" (71 : Nat)) (Jvm.Term.string "StarCrew$TextReader" (81 : Nat))) ∈ flatC (Jvm.Cond.and given_1 narrow_1) := List.mem_of_getElem? (i := 260) (by decide +kernel)
set_option maxRecDepth 100000 in
theorem gn8_16 : Jvm.Cond.not (Jvm.Cond.eq (Jvm.Term.string "StarCrew$TextReader" (71 : Nat)) (Jvm.Term.string "StarCrew$TextReader" (83 : Nat))) ∈ flatC (Jvm.Cond.and given_1 narrow_1) := List.mem_of_getElem? (i := 284) (by decide +kernel)
set_option maxRecDepth 100000 in
theorem gn9_10 : Jvm.Cond.not (Jvm.Cond.eq (Jvm.Term.string "StarCrew$TextReader" (73 : Nat)) (Jvm.Term.string "StarCrew$TextReader" (75 : Nat))) ∈ flatC (Jvm.Cond.and given_1 narrow_1) := List.mem_of_getElem? (i := 158) (by decide +kernel)
set_option maxRecDepth 100000 in
theorem gn9_11 : Jvm.Cond.not (Jvm.Cond.eq (Jvm.Term.string "StarCrew$TextReader" (73 : Nat)) (Jvm.Term.string "StarCrew$TextReader" (96 : Nat))) ∈ flatC (Jvm.Cond.and given_1 narrow_1) := List.mem_of_getElem? (i := 176) (by decide +kernel)
set_option maxRecDepth 100000 in
theorem gn9_12 : Jvm.Cond.not (Jvm.Cond.eq (Jvm.Term.string "StarCrew$TextReader" (73 : Nat)) (Jvm.Term.string "StarCrew$TextReader" (98 : Nat))) ∈ flatC (Jvm.Cond.and given_1 narrow_1) := List.mem_of_getElem? (i := 196) (by decide +kernel)
set_option maxRecDepth 100000 in
theorem gn9_13 : Jvm.Cond.not (Jvm.Cond.eq (Jvm.Term.string "StarCrew$TextReader" (73 : Nat)) (Jvm.Term.string "StarCrew$TextReader" (77 : Nat))) ∈ flatC (Jvm.Cond.and given_1 narrow_1) := List.mem_of_getElem? (i := 216) (by decide +kernel)
set_option maxRecDepth 100000 in
theorem gn9_14 : Jvm.Cond.not (Jvm.Cond.eq (Jvm.Term.string "StarCrew$TextReader" (73 : Nat)) (Jvm.Term.string "StarCrew$TextReader" (79 : Nat))) ∈ flatC (Jvm.Cond.and given_1 narrow_1) := List.mem_of_getElem? (i := 239) (by decide +kernel)
set_option maxRecDepth 100000 in
theorem gn9_15 : Jvm.Cond.not (Jvm.Cond.eq (Jvm.Term.string "StarCrew$TextReader" (73 : Nat)) (Jvm.Term.string "StarCrew$TextReader" (81 : Nat))) ∈ flatC (Jvm.Cond.and given_1 narrow_1) := List.mem_of_getElem? (i := 261) (by decide +kernel)
set_option maxRecDepth 100000 in
theorem gn9_16 : Jvm.Cond.not (Jvm.Cond.eq (Jvm.Term.string "StarCrew$TextReader" (73 : Nat)) (Jvm.Term.string "StarCrew$TextReader" (83 : Nat))) ∈ flatC (Jvm.Cond.and given_1 narrow_1) := List.mem_of_getElem? (i := 285) (by decide +kernel)
set_option maxRecDepth 100000 in
theorem gn10_11 : Jvm.Cond.not (Jvm.Cond.eq (Jvm.Term.string "StarCrew$TextReader" (75 : Nat)) (Jvm.Term.string "StarCrew$TextReader" (96 : Nat))) ∈ flatC (Jvm.Cond.and given_1 narrow_1) := List.mem_of_getElem? (i := 177) (by decide +kernel)
set_option maxRecDepth 100000 in
theorem gn10_12 : Jvm.Cond.not (Jvm.Cond.eq (Jvm.Term.string "StarCrew$TextReader" (75 : Nat)) (Jvm.Term.string "StarCrew$TextReader" (98 : Nat))) ∈ flatC (Jvm.Cond.and given_1 narrow_1) := List.mem_of_getElem? (i := 197) (by decide +kernel)
set_option maxRecDepth 100000 in
theorem gn10_13 : Jvm.Cond.not (Jvm.Cond.eq (Jvm.Term.string "StarCrew$TextReader" (75 : Nat)) (Jvm.Term.string "StarCrew$TextReader" (77 : Nat))) ∈ flatC (Jvm.Cond.and given_1 narrow_1) := List.mem_of_getElem? (i := 217) (by decide +kernel)
set_option maxRecDepth 100000 in
theorem gn10_14 : Jvm.Cond.not (Jvm.Cond.eq (Jvm.Term.string "StarCrew$TextReader" (75 : Nat)) (Jvm.Term.string "StarCrew$TextReader" (79 : Nat))) ∈ flatC (Jvm.Cond.and given_1 narrow_1) := List.mem_of_getElem? (i := 240) (by decide +kernel)
set_option maxRecDepth 100000 in
theorem gn10_15 : Jvm.Cond.not (Jvm.Cond.eq (Jvm.Term.string "StarCrew$TextReader" (75 : Nat)) (Jvm.Term.string "StarCrew$TextReader" (81 : Nat))) ∈ flatC (Jvm.Cond.and given_1 narrow_1) := List.mem_of_getElem? (i := 262) (by decide +kernel)
set_option maxRecDepth 100000 in
theorem gn10_16 : Jvm.Cond.not (Jvm.Cond.eq (Jvm.Term.string "StarCrew$TextReader" (75 : Nat)) (Jvm.Term.string "StarCrew$TextReader" (83 : Nat))) ∈ flatC (Jvm.Cond.and given_1 narrow_1) := List.mem_of_getElem? (i := 286) (by decide +kernel)
set_option maxRecDepth 100000 in
theorem gn11_12 : Jvm.Cond.not (Jvm.Cond.eq (Jvm.Term.string "StarCrew$TextReader" (96 : Nat)) (Jvm.Term.string "StarCrew$TextReader" (98 : Nat))) ∈ flatC (Jvm.Cond.and given_1 narrow_1) := List.mem_of_getElem? (i := 198) (by decide +kernel)
set_option maxRecDepth 100000 in
theorem gn11_13 : Jvm.Cond.not (Jvm.Cond.eq (Jvm.Term.string "StarCrew$TextReader" (96 : Nat)) (Jvm.Term.string "StarCrew$TextReader" (77 : Nat))) ∈ flatC (Jvm.Cond.and given_1 narrow_1) := List.mem_of_getElem? (i := 218) (by decide +kernel)
set_option maxRecDepth 100000 in
theorem gn11_14 : Jvm.Cond.not (Jvm.Cond.eq (Jvm.Term.string "StarCrew$TextReader" (96 : Nat)) (Jvm.Term.string "StarCrew$TextReader" (79 : Nat))) ∈ flatC (Jvm.Cond.and given_1 narrow_1) := List.mem_of_getElem? (i := 241) (by decide +kernel)
set_option maxRecDepth 100000 in
theorem gn11_15 : Jvm.Cond.not (Jvm.Cond.eq (Jvm.Term.string "StarCrew$TextReader" (96 : Nat)) (Jvm.Term.string "StarCrew$TextReader" (81 : Nat))) ∈ flatC (Jvm.Cond.and given_1 narrow_1) := List.mem_of_getElem? (i := 263) (by decide +kernel)
set_option maxRecDepth 100000 in
theorem gn11_16 : Jvm.Cond.not (Jvm.Cond.eq (Jvm.Term.string "StarCrew$TextReader" (96 : Nat)) (Jvm.Term.string "StarCrew$TextReader" (83 : Nat))) ∈ flatC (Jvm.Cond.and given_1 narrow_1) := List.mem_of_getElem? (i := 287) (by decide +kernel)
set_option maxRecDepth 100000 in
theorem gn12_13 : Jvm.Cond.not (Jvm.Cond.eq (Jvm.Term.string "StarCrew$TextReader" (98 : Nat)) (Jvm.Term.string "StarCrew$TextReader" (77 : Nat))) ∈ flatC (Jvm.Cond.and given_1 narrow_1) := List.mem_of_getElem? (i := 219) (by decide +kernel)
set_option maxRecDepth 100000 in
theorem gn12_14 : Jvm.Cond.not (Jvm.Cond.eq (Jvm.Term.string "StarCrew$TextReader" (98 : Nat)) (Jvm.Term.string "StarCrew$TextReader" (79 : Nat))) ∈ flatC (Jvm.Cond.and given_1 narrow_1) := List.mem_of_getElem? (i := 242) (by decide +kernel)
set_option maxRecDepth 100000 in
theorem gn12_15 : Jvm.Cond.not (Jvm.Cond.eq (Jvm.Term.string "StarCrew$TextReader" (98 : Nat)) (Jvm.Term.string "StarCrew$TextReader" (81 : Nat))) ∈ flatC (Jvm.Cond.and given_1 narrow_1) := List.mem_of_getElem? (i := 264) (by decide +kernel)
set_option maxRecDepth 100000 in
theorem gn12_16 : Jvm.Cond.not (Jvm.Cond.eq (Jvm.Term.string "StarCrew$TextReader" (98 : Nat)) (Jvm.Term.string "StarCrew$TextReader" (83 : Nat))) ∈ flatC (Jvm.Cond.and given_1 narrow_1) := List.mem_of_getElem? (i := 288) (by decide +kernel)
set_option maxRecDepth 100000 in
theorem gn13_14 : Jvm.Cond.not (Jvm.Cond.eq (Jvm.Term.string "StarCrew$TextReader" (77 : Nat)) (Jvm.Term.string "StarCrew$TextReader" (79 : Nat))) ∈ flatC (Jvm.Cond.and given_1 narrow_1) := List.mem_of_getElem? (i := 243) (by decide +kernel)
set_option maxRecDepth 100000 in
theorem gn13_15 : Jvm.Cond.not (Jvm.Cond.eq (Jvm.Term.string "StarCrew$TextReader" (77 : Nat)) (Jvm.Term.string "StarCrew$TextReader" (81 : Nat))) ∈ flatC (Jvm.Cond.and given_1 narrow_1) := List.mem_of_getElem? (i := 265) (by decide +kernel)
set_option maxRecDepth 100000 in
theorem gn13_16 : Jvm.Cond.not (Jvm.Cond.eq (Jvm.Term.string "StarCrew$TextReader" (77 : Nat)) (Jvm.Term.string "StarCrew$TextReader" (83 : Nat))) ∈ flatC (Jvm.Cond.and given_1 narrow_1) := List.mem_of_getElem? (i := 289) (by decide +kernel)
set_option maxRecDepth 100000 in
theorem gn14_15 : Jvm.Cond.not (Jvm.Cond.eq (Jvm.Term.string "StarCrew$TextReader" (79 : Nat)) (Jvm.Term.string "StarCrew$TextReader" (81 : Nat))) ∈ flatC (Jvm.Cond.and given_1 narrow_1) := List.mem_of_getElem? (i := 266) (by decide +kernel)
set_option maxRecDepth 100000 in
theorem gn14_16 : Jvm.Cond.not (Jvm.Cond.eq (Jvm.Term.string "StarCrew$TextReader" (79 : Nat)) (Jvm.Term.string "StarCrew$TextReader" (83 : Nat))) ∈ flatC (Jvm.Cond.and given_1 narrow_1) := List.mem_of_getElem? (i := 290) (by decide +kernel)
set_option maxRecDepth 100000 in
theorem gn15_16 : Jvm.Cond.not (Jvm.Cond.eq (Jvm.Term.string "StarCrew$TextReader" (81 : Nat)) (Jvm.Term.string "StarCrew$TextReader" (83 : Nat))) ∈ flatC (Jvm.Cond.and given_1 narrow_1) := List.mem_of_getElem? (i := 291) (by decide +kernel)
set_option maxRecDepth 100000 in
theorem gma : Jvm.Cond.arrayOf (Jvm.Term.static "StarCrew" "MOST_SETTING" "[I") Jvm.ClassFile.FieldType.int ∈ flatC (Jvm.Cond.and given_1 narrow_1) := List.mem_of_getElem? (i := 5) (by decide +kernel)
set_option maxRecDepth 100000 in
theorem gml : Jvm.Cond.eq (Jvm.Term.length (Jvm.Term.static "StarCrew" "MOST_SETTING" "[I")) (Jvm.Term.int (4 : Int32)) ∈ flatC (Jvm.Cond.and given_1 narrow_1) := List.mem_of_getElem? (i := 6) (by decide +kernel)
set_option maxRecDepth 100000 in
theorem gm0 : Jvm.Cond.eq (Jvm.Term.elem (Jvm.Term.static "StarCrew" "MOST_SETTING" "[I") (Jvm.Term.int (0 : Int32))) (Jvm.Term.int (9 : Int32)) ∈ flatC (Jvm.Cond.and given_1 narrow_1) := List.mem_of_getElem? (i := 7) (by decide +kernel)
set_option maxRecDepth 100000 in
theorem gm1 : Jvm.Cond.eq (Jvm.Term.elem (Jvm.Term.static "StarCrew" "MOST_SETTING" "[I") (Jvm.Term.int (1 : Int32))) (Jvm.Term.int (9 : Int32)) ∈ flatC (Jvm.Cond.and given_1 narrow_1) := List.mem_of_getElem? (i := 8) (by decide +kernel)
set_option maxRecDepth 100000 in
theorem gm2 : Jvm.Cond.eq (Jvm.Term.elem (Jvm.Term.static "StarCrew" "MOST_SETTING" "[I") (Jvm.Term.int (2 : Int32))) (Jvm.Term.int (99 : Int32)) ∈ flatC (Jvm.Cond.and given_1 narrow_1) := List.mem_of_getElem? (i := 9) (by decide +kernel)
set_option maxRecDepth 100000 in
theorem gm3 : Jvm.Cond.eq (Jvm.Term.elem (Jvm.Term.static "StarCrew" "MOST_SETTING" "[I") (Jvm.Term.int (3 : Int32))) (Jvm.Term.int (9999 : Int32)) ∈ flatC (Jvm.Cond.and given_1 narrow_1) := List.mem_of_getElem? (i := 10) (by decide +kernel)
set_option maxRecDepth 100000 in
theorem gcs : Jvm.Cond.eq (Jvm.Term.static "java/lang/String" "COMPACT_STRINGS" "Z") (Jvm.Term.int (1 : Int32)) ∈ flatC (Jvm.Cond.and given_1 narrow_1) := List.mem_of_getElem? (i := 11) (by decide +kernel)
set_option maxRecDepth 100000 in
theorem gfm : Jvm.Cond.isRef (Jvm.Term.static "jdk/internal/util/Preconditions" "SIOOBE_FORMATTER" "Ljava/util/function/BiFunction;") ∈ flatC (Jvm.Cond.and given_1 narrow_1) := List.mem_of_getElem? (i := 12) (by decide +kernel)
set_option maxRecDepth 20000 in
theorem zl0 : Jvm.Cond.laysStatic "StarCrew" "MOST_SETTING" "[I" ∈ lw_tbl := List.mem_of_getElem? (i := 333) rfl
set_option maxRecDepth 20000 in
theorem zl1 : Jvm.Cond.laysStatic "java/lang/String" "COMPACT_STRINGS" "Z" ∈ lw_tbl := List.mem_of_getElem? (i := 635) rfl
set_option maxRecDepth 20000 in
theorem zl2 : Jvm.Cond.laysStatic "jdk/internal/util/Preconditions" "SIOOBE_FORMATTER" "Ljava/util/function/BiFunction;" ∈ lw_tbl := List.mem_of_getElem? (i := 651) rfl
set_option maxRecDepth 20000 in
theorem zao : Jvm.Cond.arrayOver (Jvm.ClassFile.FieldType.object "StarCrew$Sheet") ∈ lw_tbl := List.mem_of_getElem? (i := 194) rfl
set_option maxRecDepth 20000 in
theorem zs0 : Jvm.Cond.stringRef "StarCrew$TextReader" (35 : Nat) "crew" ∈ lw_tbl := List.mem_of_getElem? (i := 621) rfl
set_option maxRecDepth 20000 in
theorem zs1 : Jvm.Cond.stringRef "StarCrew$TextReader" (90 : Nat) "at" ∈ lw_tbl := List.mem_of_getElem? (i := 683) rfl
set_option maxRecDepth 20000 in
theorem zs2 : Jvm.Cond.stringRef "StarCrew$TextReader" (112 : Nat) "steps" ∈ lw_tbl := List.mem_of_getElem? (i := 688) rfl
set_option maxRecDepth 20000 in
theorem zs3 : Jvm.Cond.stringRef "StarCrew$TextReader" (44 : Nat) "sign" ∈ lw_tbl := List.mem_of_getElem? (i := 689) rfl
set_option maxRecDepth 20000 in
theorem zs4 : Jvm.Cond.stringRef "StarCrew$TextReader" (63 : Nat) "lamp" ∈ lw_tbl := List.mem_of_getElem? (i := 699) rfl
set_option maxRecDepth 20000 in
theorem zs5 : Jvm.Cond.stringRef "StarCrew$TextReader" (65 : Nat) "red" ∈ lw_tbl := List.mem_of_getElem? (i := 700) rfl
set_option maxRecDepth 20000 in
theorem zs6 : Jvm.Cond.stringRef "StarCrew$TextReader" (67 : Nat) "fixed" ∈ lw_tbl := List.mem_of_getElem? (i := 701) rfl
set_option maxRecDepth 20000 in
theorem zs7 : Jvm.Cond.stringRef "StarCrew$TextReader" (69 : Nat) "pole" ∈ lw_tbl := List.mem_of_getElem? (i := 702) rfl
set_option maxRecDepth 20000 in
theorem zs8 : Jvm.Cond.stringRef "StarCrew$TextReader" (71 : Nat) "guide" ∈ lw_tbl := List.mem_of_getElem? (i := 703) rfl
set_option maxRecDepth 20000 in
theorem zs9 : Jvm.Cond.stringRef "StarCrew$TextReader" (73 : Nat) "old" ∈ lw_tbl := List.mem_of_getElem? (i := 704) rfl
set_option maxRecDepth 20000 in
theorem zs10 : Jvm.Cond.stringRef "StarCrew$TextReader" (75 : Nat) "giant" ∈ lw_tbl := List.mem_of_getElem? (i := 705) rfl
set_option maxRecDepth 20000 in
theorem zs11 : Jvm.Cond.stringRef "StarCrew$TextReader" (96 : Nat) "life" ∈ lw_tbl := List.mem_of_getElem? (i := 710) rfl
set_option maxRecDepth 20000 in
theorem zs12 : Jvm.Cond.stringRef "StarCrew$TextReader" (98 : Nat) "worth" ∈ lw_tbl := List.mem_of_getElem? (i := 711) rfl
set_option maxRecDepth 20000 in
theorem zs13 : Jvm.Cond.stringRef "StarCrew$TextReader" (77 : Nat) "dust" ∈ lw_tbl := List.mem_of_getElem? (i := 717) rfl
set_option maxRecDepth 20000 in
theorem zs14 : Jvm.Cond.stringRef "StarCrew$TextReader" (79 : Nat) "wishes" ∈ lw_tbl := List.mem_of_getElem? (i := 718) rfl
set_option maxRecDepth 20000 in
theorem zs15 : Jvm.Cond.stringRef "StarCrew$TextReader" (81 : Nat) "mend" ∈ lw_tbl := List.mem_of_getElem? (i := 719) rfl
set_option maxRecDepth 20000 in
theorem zs16 : Jvm.Cond.stringRef "StarCrew$TextReader" (83 : Nat) "parts" ∈ lw_tbl := List.mem_of_getElem? (i := 720) rfl
set_option maxRecDepth 20000 in
theorem zn0 : Jvm.Cond.methodLinkNest "StarCrew" (28 : Nat) ({ cls := "StarCrew$TextReader", name := "<init>", desc := "()V" } : Jvm.MethodName) "StarCrew" ∈ lw_tbl := List.mem_of_getElem? (i := 154) rfl
set_option maxRecDepth 20000 in
theorem zn1 : Jvm.Cond.methodLinkNest "StarCrew$TextReader" (11 : Nat) ({ cls := "StarCrew$Tape", name := "<init>", desc := "()V" } : Jvm.MethodName) "StarCrew" ∈ lw_tbl := List.mem_of_getElem? (i := 160) rfl
set_option maxRecDepth 20000 in
theorem zn2 : Jvm.Cond.methodLinkNest "StarCrew" (41 : Nat) ({ cls := "StarCrew$Walker", name := "<init>", desc := "()V" } : Jvm.MethodName) "StarCrew" ∈ lw_tbl := List.mem_of_getElem? (i := 197) rfl
set_option maxRecDepth 20000 in
theorem zn3 : Jvm.Cond.methodLinkNest "StarCrew" (56 : Nat) ({ cls := "StarCrew$Sheet", name := "<init>", desc := "()V" } : Jvm.MethodName) "StarCrew" ∈ lw_tbl := List.mem_of_getElem? (i := 215) rfl
set_option maxRecDepth 20000 in
theorem zn4 : Jvm.Cond.methodLinkNest "StarCrew$Sky" (90 : Nat) ({ cls := "StarCrew", name := "stepsBetween", desc := "(II)I" } : Jvm.MethodName) "StarCrew" ∈ lw_tbl := List.mem_of_getElem? (i := 541) rfl
set_option maxRecDepth 20000 in
theorem zn5 : Jvm.Cond.fieldLinkNest "StarCrew$TextReader" (124 : Nat) "StarCrew" "MOST_SETTING" "[I" "StarCrew" ∈ lw_tbl := List.mem_of_getElem? (i := 725) rfl
def kTm (i : Nat) : Term := Term.string kOwn (kT.getD i (0, "")).1
theorem kk_ex {args : Array Value} {s : State} (hs : ∀ c ∈ flatC (Jvm.Cond.and given_1 narrow_1), c.before args s = true) : ∀ i : Nat, i < kT.length → (Cond.exactly (kTm i) "java/lang/String").before args s = true := by
  intro i hi
  match i, hi with
  | 0, _ => exact hs _ gx0
  | 1, _ => exact hs _ gx1
  | 2, _ => exact hs _ gx2
  | 3, _ => exact hs _ gx3
  | 4, _ => exact hs _ gx4
  | 5, _ => exact hs _ gx5
  | 6, _ => exact hs _ gx6
  | 7, _ => exact hs _ gx7
  | 8, _ => exact hs _ gx8
  | 9, _ => exact hs _ gx9
  | 10, _ => exact hs _ gx10
  | 11, _ => exact hs _ gx11
  | 12, _ => exact hs _ gx12
  | 13, _ => exact hs _ gx13
  | 14, _ => exact hs _ gx14
  | 15, _ => exact hs _ gx15
  | 16, _ => exact hs _ gx16
  | i + 17, h => exact absurd h (by show ¬ i + 17 < 17; omega)
theorem kk_co {args : Array Value} {s : State} (hs : ∀ c ∈ flatC (Jvm.Cond.and given_1 narrow_1), c.before args s = true) : ∀ i : Nat, i < kT.length → (Cond.eq (.field (kTm i) "java/lang/String" "coder" "B") (.int 0)).before args s = true := by
  intro i hi
  match i, hi with
  | 0, _ => exact hs _ gc0
  | 1, _ => exact hs _ gc1
  | 2, _ => exact hs _ gc2
  | 3, _ => exact hs _ gc3
  | 4, _ => exact hs _ gc4
  | 5, _ => exact hs _ gc5
  | 6, _ => exact hs _ gc6
  | 7, _ => exact hs _ gc7
  | 8, _ => exact hs _ gc8
  | 9, _ => exact hs _ gc9
  | 10, _ => exact hs _ gc10
  | 11, _ => exact hs _ gc11
  | 12, _ => exact hs _ gc12
  | 13, _ => exact hs _ gc13
  | 14, _ => exact hs _ gc14
  | 15, _ => exact hs _ gc15
  | 16, _ => exact hs _ gc16
  | i + 17, h => exact absurd h (by show ¬ i + 17 < 17; omega)
theorem kk_ar {args : Array Value} {s : State} (hs : ∀ c ∈ flatC (Jvm.Cond.and given_1 narrow_1), c.before args s = true) : ∀ i : Nat, i < kT.length → (Cond.arrayOf (.field (kTm i) "java/lang/String" "value" "[B") .byte).before args s = true := by
  intro i hi
  match i, hi with
  | 0, _ => exact hs _ ga0
  | 1, _ => exact hs _ ga1
  | 2, _ => exact hs _ ga2
  | 3, _ => exact hs _ ga3
  | 4, _ => exact hs _ ga4
  | 5, _ => exact hs _ ga5
  | 6, _ => exact hs _ ga6
  | 7, _ => exact hs _ ga7
  | 8, _ => exact hs _ ga8
  | 9, _ => exact hs _ ga9
  | 10, _ => exact hs _ ga10
  | 11, _ => exact hs _ ga11
  | 12, _ => exact hs _ ga12
  | 13, _ => exact hs _ ga13
  | 14, _ => exact hs _ ga14
  | 15, _ => exact hs _ ga15
  | 16, _ => exact hs _ ga16
  | i + 17, h => exact absurd h (by show ¬ i + 17 < 17; omega)
theorem kk_le {args : Array Value} {s : State} (hs : ∀ c ∈ flatC (Jvm.Cond.and given_1 narrow_1), c.before args s = true) : ∀ i : Nat, i < kT.length → (Cond.eq (.length (.field (kTm i) "java/lang/String" "value" "[B")) (.int (Int32.ofNat (kLen.getD i 0)))).before args s = true := by
  intro i hi
  match i, hi with
  | 0, _ => exact hs _ gl0
  | 1, _ => exact hs _ gl1
  | 2, _ => exact hs _ gl2
  | 3, _ => exact hs _ gl3
  | 4, _ => exact hs _ gl4
  | 5, _ => exact hs _ gl5
  | 6, _ => exact hs _ gl6
  | 7, _ => exact hs _ gl7
  | 8, _ => exact hs _ gl8
  | 9, _ => exact hs _ gl9
  | 10, _ => exact hs _ gl10
  | 11, _ => exact hs _ gl11
  | 12, _ => exact hs _ gl12
  | 13, _ => exact hs _ gl13
  | 14, _ => exact hs _ gl14
  | 15, _ => exact hs _ gl15
  | 16, _ => exact hs _ gl16
  | i + 17, h => exact absurd h (by show ¬ i + 17 < 17; omega)
theorem kk_el {args : Array Value} {s : State} (hs : ∀ c ∈ flatC (Jvm.Cond.and given_1 narrow_1), c.before args s = true) : ∀ i : Nat, i < kT.length → ∀ j : Nat, j < kLen.getD i 0 → (Cond.eq (.elem (.field (kTm i) "java/lang/String" "value" "[B") (.int (Int32.ofNat j))) (.int ((kByt.getD i []).getD j 0))).before args s = true := by
  intro i hi j hj
  match i, hi with
  | 0, _ =>
    have hj : j < 4 := hj
    match j, hj with
    | 0, _ => exact hs _ ge0_0
    | 1, _ => exact hs _ ge0_1
    | 2, _ => exact hs _ ge0_2
    | 3, _ => exact hs _ ge0_3
    | j + 4, h => omega
  | 1, _ =>
    have hj : j < 2 := hj
    match j, hj with
    | 0, _ => exact hs _ ge1_0
    | 1, _ => exact hs _ ge1_1
    | j + 2, h => omega
  | 2, _ =>
    have hj : j < 5 := hj
    match j, hj with
    | 0, _ => exact hs _ ge2_0
    | 1, _ => exact hs _ ge2_1
    | 2, _ => exact hs _ ge2_2
    | 3, _ => exact hs _ ge2_3
    | 4, _ => exact hs _ ge2_4
    | j + 5, h => omega
  | 3, _ =>
    have hj : j < 4 := hj
    match j, hj with
    | 0, _ => exact hs _ ge3_0
    | 1, _ => exact hs _ ge3_1
    | 2, _ => exact hs _ ge3_2
    | 3, _ => exact hs _ ge3_3
    | j + 4, h => omega
  | 4, _ =>
    have hj : j < 4 := hj
    match j, hj with
    | 0, _ => exact hs _ ge4_0
    | 1, _ => exact hs _ ge4_1
    | 2, _ => exact hs _ ge4_2
    | 3, _ => exact hs _ ge4_3
    | j + 4, h => omega
  | 5, _ =>
    have hj : j < 3 := hj
    match j, hj with
    | 0, _ => exact hs _ ge5_0
    | 1, _ => exact hs _ ge5_1
    | 2, _ => exact hs _ ge5_2
    | j + 3, h => omega
  | 6, _ =>
    have hj : j < 5 := hj
    match j, hj with
    | 0, _ => exact hs _ ge6_0
    | 1, _ => exact hs _ ge6_1
    | 2, _ => exact hs _ ge6_2
    | 3, _ => exact hs _ ge6_3
    | 4, _ => exact hs _ ge6_4
    | j + 5, h => omega
  | 7, _ =>
    have hj : j < 4 := hj
    match j, hj with
    | 0, _ => exact hs _ ge7_0
    | 1, _ => exact hs _ ge7_1
    | 2, _ => exact hs _ ge7_2
    | 3, _ => exact hs _ ge7_3
    | j + 4, h => omega
  | 8, _ =>
    have hj : j < 5 := hj
    match j, hj with
    | 0, _ => exact hs _ ge8_0
    | 1, _ => exact hs _ ge8_1
    | 2, _ => exact hs _ ge8_2
    | 3, _ => exact hs _ ge8_3
    | 4, _ => exact hs _ ge8_4
    | j + 5, h => omega
  | 9, _ =>
    have hj : j < 3 := hj
    match j, hj with
    | 0, _ => exact hs _ ge9_0
    | 1, _ => exact hs _ ge9_1
    | 2, _ => exact hs _ ge9_2
    | j + 3, h => omega
  | 10, _ =>
    have hj : j < 5 := hj
    match j, hj with
    | 0, _ => exact hs _ ge10_0
    | 1, _ => exact hs _ ge10_1
    | 2, _ => exact hs _ ge10_2
    | 3, _ => exact hs _ ge10_3
    | 4, _ => exact hs _ ge10_4
    | j + 5, h => omega
  | 11, _ =>
    have hj : j < 4 := hj
    match j, hj with
    | 0, _ => exact hs _ ge11_0
    | 1, _ => exact hs _ ge11_1
    | 2, _ => exact hs _ ge11_2
    | 3, _ => exact hs _ ge11_3
    | j + 4, h => omega
  | 12, _ =>
    have hj : j < 5 := hj
    match j, hj with
    | 0, _ => exact hs _ ge12_0
    | 1, _ => exact hs _ ge12_1
    | 2, _ => exact hs _ ge12_2
    | 3, _ => exact hs _ ge12_3
    | 4, _ => exact hs _ ge12_4
    | j + 5, h => omega
  | 13, _ =>
    have hj : j < 4 := hj
    match j, hj with
    | 0, _ => exact hs _ ge13_0
    | 1, _ => exact hs _ ge13_1
    | 2, _ => exact hs _ ge13_2
    | 3, _ => exact hs _ ge13_3
    | j + 4, h => omega
  | 14, _ =>
    have hj : j < 6 := hj
    match j, hj with
    | 0, _ => exact hs _ ge14_0
    | 1, _ => exact hs _ ge14_1
    | 2, _ => exact hs _ ge14_2
    | 3, _ => exact hs _ ge14_3
    | 4, _ => exact hs _ ge14_4
    | 5, _ => exact hs _ ge14_5
    | j + 6, h => omega
  | 15, _ =>
    have hj : j < 4 := hj
    match j, hj with
    | 0, _ => exact hs _ ge15_0
    | 1, _ => exact hs _ ge15_1
    | 2, _ => exact hs _ ge15_2
    | 3, _ => exact hs _ ge15_3
    | j + 4, h => omega
  | 16, _ =>
    have hj : j < 5 := hj
    match j, hj with
    | 0, _ => exact hs _ ge16_0
    | 1, _ => exact hs _ ge16_1
    | 2, _ => exact hs _ ge16_2
    | 3, _ => exact hs _ ge16_3
    | 4, _ => exact hs _ ge16_4
    | j + 5, h => omega
  | i + 17, h => exact absurd h (by show ¬ i + 17 < 17; omega)
theorem kk_ne {args : Array Value} {s : State} (hs : ∀ c ∈ flatC (Jvm.Cond.and given_1 narrow_1), c.before args s = true) : ∀ i j : Nat, i < kT.length → j < kT.length → i ≠ j → (Cond.not (Cond.eq (kTm i) (kTm j))).before args s = true ∨ (Cond.not (Cond.eq (kTm j) (kTm i))).before args s = true := by
  intro i j hi hj hne
  match i, hi with
  | 0, _ =>
    match j, hj with
    | 0, _ => exact absurd rfl hne
    | 1, _ => exact Or.inl (hs _ gn0_1)
    | 2, _ => exact Or.inl (hs _ gn0_2)
    | 3, _ => exact Or.inl (hs _ gn0_3)
    | 4, _ => exact Or.inl (hs _ gn0_4)
    | 5, _ => exact Or.inl (hs _ gn0_5)
    | 6, _ => exact Or.inl (hs _ gn0_6)
    | 7, _ => exact Or.inl (hs _ gn0_7)
    | 8, _ => exact Or.inl (hs _ gn0_8)
    | 9, _ => exact Or.inl (hs _ gn0_9)
    | 10, _ => exact Or.inl (hs _ gn0_10)
    | 11, _ => exact Or.inl (hs _ gn0_11)
    | 12, _ => exact Or.inl (hs _ gn0_12)
    | 13, _ => exact Or.inl (hs _ gn0_13)
    | 14, _ => exact Or.inl (hs _ gn0_14)
    | 15, _ => exact Or.inl (hs _ gn0_15)
    | 16, _ => exact Or.inl (hs _ gn0_16)
    | j + 17, h => exact absurd h (by show ¬ j + 17 < 17; omega)
  | 1, _ =>
    match j, hj with
    | 0, _ => exact Or.inr (hs _ gn0_1)
    | 1, _ => exact absurd rfl hne
    | 2, _ => exact Or.inl (hs _ gn1_2)
    | 3, _ => exact Or.inl (hs _ gn1_3)
    | 4, _ => exact Or.inl (hs _ gn1_4)
    | 5, _ => exact Or.inl (hs _ gn1_5)
    | 6, _ => exact Or.inl (hs _ gn1_6)
    | 7, _ => exact Or.inl (hs _ gn1_7)
    | 8, _ => exact Or.inl (hs _ gn1_8)
    | 9, _ => exact Or.inl (hs _ gn1_9)
    | 10, _ => exact Or.inl (hs _ gn1_10)
    | 11, _ => exact Or.inl (hs _ gn1_11)
    | 12, _ => exact Or.inl (hs _ gn1_12)
    | 13, _ => exact Or.inl (hs _ gn1_13)
    | 14, _ => exact Or.inl (hs _ gn1_14)
    | 15, _ => exact Or.inl (hs _ gn1_15)
    | 16, _ => exact Or.inl (hs _ gn1_16)
    | j + 17, h => exact absurd h (by show ¬ j + 17 < 17; omega)
  | 2, _ =>
    match j, hj with
    | 0, _ => exact Or.inr (hs _ gn0_2)
    | 1, _ => exact Or.inr (hs _ gn1_2)
    | 2, _ => exact absurd rfl hne
    | 3, _ => exact Or.inl (hs _ gn2_3)
    | 4, _ => exact Or.inl (hs _ gn2_4)
    | 5, _ => exact Or.inl (hs _ gn2_5)
    | 6, _ => exact Or.inl (hs _ gn2_6)
    | 7, _ => exact Or.inl (hs _ gn2_7)
    | 8, _ => exact Or.inl (hs _ gn2_8)
    | 9, _ => exact Or.inl (hs _ gn2_9)
    | 10, _ => exact Or.inl (hs _ gn2_10)
    | 11, _ => exact Or.inl (hs _ gn2_11)
    | 12, _ => exact Or.inl (hs _ gn2_12)
    | 13, _ => exact Or.inl (hs _ gn2_13)
    | 14, _ => exact Or.inl (hs _ gn2_14)
    | 15, _ => exact Or.inl (hs _ gn2_15)
    | 16, _ => exact Or.inl (hs _ gn2_16)
    | j + 17, h => exact absurd h (by show ¬ j + 17 < 17; omega)
  | 3, _ =>
    match j, hj with
    | 0, _ => exact Or.inr (hs _ gn0_3)
    | 1, _ => exact Or.inr (hs _ gn1_3)
    | 2, _ => exact Or.inr (hs _ gn2_3)
    | 3, _ => exact absurd rfl hne
    | 4, _ => exact Or.inl (hs _ gn3_4)
    | 5, _ => exact Or.inl (hs _ gn3_5)
    | 6, _ => exact Or.inl (hs _ gn3_6)
    | 7, _ => exact Or.inl (hs _ gn3_7)
    | 8, _ => exact Or.inl (hs _ gn3_8)
    | 9, _ => exact Or.inl (hs _ gn3_9)
    | 10, _ => exact Or.inl (hs _ gn3_10)
    | 11, _ => exact Or.inl (hs _ gn3_11)
    | 12, _ => exact Or.inl (hs _ gn3_12)
    | 13, _ => exact Or.inl (hs _ gn3_13)
    | 14, _ => exact Or.inl (hs _ gn3_14)
    | 15, _ => exact Or.inl (hs _ gn3_15)
    | 16, _ => exact Or.inl (hs _ gn3_16)
    | j + 17, h => exact absurd h (by show ¬ j + 17 < 17; omega)
  | 4, _ =>
    match j, hj with
    | 0, _ => exact Or.inr (hs _ gn0_4)
    | 1, _ => exact Or.inr (hs _ gn1_4)
    | 2, _ => exact Or.inr (hs _ gn2_4)
    | 3, _ => exact Or.inr (hs _ gn3_4)
    | 4, _ => exact absurd rfl hne
    | 5, _ => exact Or.inl (hs _ gn4_5)
    | 6, _ => exact Or.inl (hs _ gn4_6)
    | 7, _ => exact Or.inl (hs _ gn4_7)
    | 8, _ => exact Or.inl (hs _ gn4_8)
    | 9, _ => exact Or.inl (hs _ gn4_9)
    | 10, _ => exact Or.inl (hs _ gn4_10)
    | 11, _ => exact Or.inl (hs _ gn4_11)
    | 12, _ => exact Or.inl (hs _ gn4_12)
    | 13, _ => exact Or.inl (hs _ gn4_13)
    | 14, _ => exact Or.inl (hs _ gn4_14)
    | 15, _ => exact Or.inl (hs _ gn4_15)
    | 16, _ => exact Or.inl (hs _ gn4_16)
    | j + 17, h => exact absurd h (by show ¬ j + 17 < 17; omega)
  | 5, _ =>
    match j, hj with
    | 0, _ => exact Or.inr (hs _ gn0_5)
    | 1, _ => exact Or.inr (hs _ gn1_5)
    | 2, _ => exact Or.inr (hs _ gn2_5)
    | 3, _ => exact Or.inr (hs _ gn3_5)
    | 4, _ => exact Or.inr (hs _ gn4_5)
    | 5, _ => exact absurd rfl hne
    | 6, _ => exact Or.inl (hs _ gn5_6)
    | 7, _ => exact Or.inl (hs _ gn5_7)
    | 8, _ => exact Or.inl (hs _ gn5_8)
    | 9, _ => exact Or.inl (hs _ gn5_9)
    | 10, _ => exact Or.inl (hs _ gn5_10)
    | 11, _ => exact Or.inl (hs _ gn5_11)
    | 12, _ => exact Or.inl (hs _ gn5_12)
    | 13, _ => exact Or.inl (hs _ gn5_13)
    | 14, _ => exact Or.inl (hs _ gn5_14)
    | 15, _ => exact Or.inl (hs _ gn5_15)
    | 16, _ => exact Or.inl (hs _ gn5_16)
    | j + 17, h => exact absurd h (by show ¬ j + 17 < 17; omega)
  | 6, _ =>
    match j, hj with
    | 0, _ => exact Or.inr (hs _ gn0_6)
    | 1, _ => exact Or.inr (hs _ gn1_6)
    | 2, _ => exact Or.inr (hs _ gn2_6)
    | 3, _ => exact Or.inr (hs _ gn3_6)
    | 4, _ => exact Or.inr (hs _ gn4_6)
    | 5, _ => exact Or.inr (hs _ gn5_6)
    | 6, _ => exact absurd rfl hne
    | 7, _ => exact Or.inl (hs _ gn6_7)
    | 8, _ => exact Or.inl (hs _ gn6_8)
    | 9, _ => exact Or.inl (hs _ gn6_9)
    | 10, _ => exact Or.inl (hs _ gn6_10)
    | 11, _ => exact Or.inl (hs _ gn6_11)
    | 12, _ => exact Or.inl (hs _ gn6_12)
    | 13, _ => exact Or.inl (hs _ gn6_13)
    | 14, _ => exact Or.inl (hs _ gn6_14)
    | 15, _ => exact Or.inl (hs _ gn6_15)
    | 16, _ => exact Or.inl (hs _ gn6_16)
    | j + 17, h => exact absurd h (by show ¬ j + 17 < 17; omega)
  | 7, _ =>
    match j, hj with
    | 0, _ => exact Or.inr (hs _ gn0_7)
    | 1, _ => exact Or.inr (hs _ gn1_7)
    | 2, _ => exact Or.inr (hs _ gn2_7)
    | 3, _ => exact Or.inr (hs _ gn3_7)
    | 4, _ => exact Or.inr (hs _ gn4_7)
    | 5, _ => exact Or.inr (hs _ gn5_7)
    | 6, _ => exact Or.inr (hs _ gn6_7)
    | 7, _ => exact absurd rfl hne
    | 8, _ => exact Or.inl (hs _ gn7_8)
    | 9, _ => exact Or.inl (hs _ gn7_9)
    | 10, _ => exact Or.inl (hs _ gn7_10)
    | 11, _ => exact Or.inl (hs _ gn7_11)
    | 12, _ => exact Or.inl (hs _ gn7_12)
    | 13, _ => exact Or.inl (hs _ gn7_13)
    | 14, _ => exact Or.inl (hs _ gn7_14)
    | 15, _ => exact Or.inl (hs _ gn7_15)
    | 16, _ => exact Or.inl (hs _ gn7_16)
    | j + 17, h => exact absurd h (by show ¬ j + 17 < 17; omega)
  | 8, _ =>
    match j, hj with
    | 0, _ => exact Or.inr (hs _ gn0_8)
    | 1, _ => exact Or.inr (hs _ gn1_8)
    | 2, _ => exact Or.inr (hs _ gn2_8)
    | 3, _ => exact Or.inr (hs _ gn3_8)
    | 4, _ => exact Or.inr (hs _ gn4_8)
    | 5, _ => exact Or.inr (hs _ gn5_8)
    | 6, _ => exact Or.inr (hs _ gn6_8)
    | 7, _ => exact Or.inr (hs _ gn7_8)
    | 8, _ => exact absurd rfl hne
    | 9, _ => exact Or.inl (hs _ gn8_9)
    | 10, _ => exact Or.inl (hs _ gn8_10)
    | 11, _ => exact Or.inl (hs _ gn8_11)
    | 12, _ => exact Or.inl (hs _ gn8_12)
    | 13, _ => exact Or.inl (hs _ gn8_13)
    | 14, _ => exact Or.inl (hs _ gn8_14)
    | 15, _ => exact Or.inl (hs _ gn8_15)
    | 16, _ => exact Or.inl (hs _ gn8_16)
    | j + 17, h => exact absurd h (by show ¬ j + 17 < 17; omega)
  | 9, _ =>
    match j, hj with
    | 0, _ => exact Or.inr (hs _ gn0_9)
    | 1, _ => exact Or.inr (hs _ gn1_9)
    | 2, _ => exact Or.inr (hs _ gn2_9)
    | 3, _ => exact Or.inr (hs _ gn3_9)
    | 4, _ => exact Or.inr (hs _ gn4_9)
    | 5, _ => exact Or.inr (hs _ gn5_9)
    | 6, _ => exact Or.inr (hs _ gn6_9)
    | 7, _ => exact Or.inr (hs _ gn7_9)
    | 8, _ => exact Or.inr (hs _ gn8_9)
    | 9, _ => exact absurd rfl hne
    | 10, _ => exact Or.inl (hs _ gn9_10)
    | 11, _ => exact Or.inl (hs _ gn9_11)
    | 12, _ => exact Or.inl (hs _ gn9_12)
    | 13, _ => exact Or.inl (hs _ gn9_13)
    | 14, _ => exact Or.inl (hs _ gn9_14)
    | 15, _ => exact Or.inl (hs _ gn9_15)
    | 16, _ => exact Or.inl (hs _ gn9_16)
    | j + 17, h => exact absurd h (by show ¬ j + 17 < 17; omega)
  | 10, _ =>
    match j, hj with
    | 0, _ => exact Or.inr (hs _ gn0_10)
    | 1, _ => exact Or.inr (hs _ gn1_10)
    | 2, _ => exact Or.inr (hs _ gn2_10)
    | 3, _ => exact Or.inr (hs _ gn3_10)
    | 4, _ => exact Or.inr (hs _ gn4_10)
    | 5, _ => exact Or.inr (hs _ gn5_10)
    | 6, _ => exact Or.inr (hs _ gn6_10)
    | 7, _ => exact Or.inr (hs _ gn7_10)
    | 8, _ => exact Or.inr (hs _ gn8_10)
    | 9, _ => exact Or.inr (hs _ gn9_10)
    | 10, _ => exact absurd rfl hne
    | 11, _ => exact Or.inl (hs _ gn10_11)
    | 12, _ => exact Or.inl (hs _ gn10_12)
    | 13, _ => exact Or.inl (hs _ gn10_13)
    | 14, _ => exact Or.inl (hs _ gn10_14)
    | 15, _ => exact Or.inl (hs _ gn10_15)
    | 16, _ => exact Or.inl (hs _ gn10_16)
    | j + 17, h => exact absurd h (by show ¬ j + 17 < 17; omega)
  | 11, _ =>
    match j, hj with
    | 0, _ => exact Or.inr (hs _ gn0_11)
    | 1, _ => exact Or.inr (hs _ gn1_11)
    | 2, _ => exact Or.inr (hs _ gn2_11)
    | 3, _ => exact Or.inr (hs _ gn3_11)
    | 4, _ => exact Or.inr (hs _ gn4_11)
    | 5, _ => exact Or.inr (hs _ gn5_11)
    | 6, _ => exact Or.inr (hs _ gn6_11)
    | 7, _ => exact Or.inr (hs _ gn7_11)
    | 8, _ => exact Or.inr (hs _ gn8_11)
    | 9, _ => exact Or.inr (hs _ gn9_11)
    | 10, _ => exact Or.inr (hs _ gn10_11)
    | 11, _ => exact absurd rfl hne
    | 12, _ => exact Or.inl (hs _ gn11_12)
    | 13, _ => exact Or.inl (hs _ gn11_13)
    | 14, _ => exact Or.inl (hs _ gn11_14)
    | 15, _ => exact Or.inl (hs _ gn11_15)
    | 16, _ => exact Or.inl (hs _ gn11_16)
    | j + 17, h => exact absurd h (by show ¬ j + 17 < 17; omega)
  | 12, _ =>
    match j, hj with
    | 0, _ => exact Or.inr (hs _ gn0_12)
    | 1, _ => exact Or.inr (hs _ gn1_12)
    | 2, _ => exact Or.inr (hs _ gn2_12)
    | 3, _ => exact Or.inr (hs _ gn3_12)
    | 4, _ => exact Or.inr (hs _ gn4_12)
    | 5, _ => exact Or.inr (hs _ gn5_12)
    | 6, _ => exact Or.inr (hs _ gn6_12)
    | 7, _ => exact Or.inr (hs _ gn7_12)
    | 8, _ => exact Or.inr (hs _ gn8_12)
    | 9, _ => exact Or.inr (hs _ gn9_12)
    | 10, _ => exact Or.inr (hs _ gn10_12)
    | 11, _ => exact Or.inr (hs _ gn11_12)
    | 12, _ => exact absurd rfl hne
    | 13, _ => exact Or.inl (hs _ gn12_13)
    | 14, _ => exact Or.inl (hs _ gn12_14)
    | 15, _ => exact Or.inl (hs _ gn12_15)
    | 16, _ => exact Or.inl (hs _ gn12_16)
    | j + 17, h => exact absurd h (by show ¬ j + 17 < 17; omega)
  | 13, _ =>
    match j, hj with
    | 0, _ => exact Or.inr (hs _ gn0_13)
    | 1, _ => exact Or.inr (hs _ gn1_13)
    | 2, _ => exact Or.inr (hs _ gn2_13)
    | 3, _ => exact Or.inr (hs _ gn3_13)
    | 4, _ => exact Or.inr (hs _ gn4_13)
    | 5, _ => exact Or.inr (hs _ gn5_13)
    | 6, _ => exact Or.inr (hs _ gn6_13)
    | 7, _ => exact Or.inr (hs _ gn7_13)
    | 8, _ => exact Or.inr (hs _ gn8_13)
    | 9, _ => exact Or.inr (hs _ gn9_13)
    | 10, _ => exact Or.inr (hs _ gn10_13)
    | 11, _ => exact Or.inr (hs _ gn11_13)
    | 12, _ => exact Or.inr (hs _ gn12_13)
    | 13, _ => exact absurd rfl hne
    | 14, _ => exact Or.inl (hs _ gn13_14)
    | 15, _ => exact Or.inl (hs _ gn13_15)
    | 16, _ => exact Or.inl (hs _ gn13_16)
    | j + 17, h => exact absurd h (by show ¬ j + 17 < 17; omega)
  | 14, _ =>
    match j, hj with
    | 0, _ => exact Or.inr (hs _ gn0_14)
    | 1, _ => exact Or.inr (hs _ gn1_14)
    | 2, _ => exact Or.inr (hs _ gn2_14)
    | 3, _ => exact Or.inr (hs _ gn3_14)
    | 4, _ => exact Or.inr (hs _ gn4_14)
    | 5, _ => exact Or.inr (hs _ gn5_14)
    | 6, _ => exact Or.inr (hs _ gn6_14)
    | 7, _ => exact Or.inr (hs _ gn7_14)
    | 8, _ => exact Or.inr (hs _ gn8_14)
    | 9, _ => exact Or.inr (hs _ gn9_14)
    | 10, _ => exact Or.inr (hs _ gn10_14)
    | 11, _ => exact Or.inr (hs _ gn11_14)
    | 12, _ => exact Or.inr (hs _ gn12_14)
    | 13, _ => exact Or.inr (hs _ gn13_14)
    | 14, _ => exact absurd rfl hne
    | 15, _ => exact Or.inl (hs _ gn14_15)
    | 16, _ => exact Or.inl (hs _ gn14_16)
    | j + 17, h => exact absurd h (by show ¬ j + 17 < 17; omega)
  | 15, _ =>
    match j, hj with
    | 0, _ => exact Or.inr (hs _ gn0_15)
    | 1, _ => exact Or.inr (hs _ gn1_15)
    | 2, _ => exact Or.inr (hs _ gn2_15)
    | 3, _ => exact Or.inr (hs _ gn3_15)
    | 4, _ => exact Or.inr (hs _ gn4_15)
    | 5, _ => exact Or.inr (hs _ gn5_15)
    | 6, _ => exact Or.inr (hs _ gn6_15)
    | 7, _ => exact Or.inr (hs _ gn7_15)
    | 8, _ => exact Or.inr (hs _ gn8_15)
    | 9, _ => exact Or.inr (hs _ gn9_15)
    | 10, _ => exact Or.inr (hs _ gn10_15)
    | 11, _ => exact Or.inr (hs _ gn11_15)
    | 12, _ => exact Or.inr (hs _ gn12_15)
    | 13, _ => exact Or.inr (hs _ gn13_15)
    | 14, _ => exact Or.inr (hs _ gn14_15)
    | 15, _ => exact absurd rfl hne
    | 16, _ => exact Or.inl (hs _ gn15_16)
    | j + 17, h => exact absurd h (by show ¬ j + 17 < 17; omega)
  | 16, _ =>
    match j, hj with
    | 0, _ => exact Or.inr (hs _ gn0_16)
    | 1, _ => exact Or.inr (hs _ gn1_16)
    | 2, _ => exact Or.inr (hs _ gn2_16)
    | 3, _ => exact Or.inr (hs _ gn3_16)
    | 4, _ => exact Or.inr (hs _ gn4_16)
    | 5, _ => exact Or.inr (hs _ gn5_16)
    | 6, _ => exact Or.inr (hs _ gn6_16)
    | 7, _ => exact Or.inr (hs _ gn7_16)
    | 8, _ => exact Or.inr (hs _ gn8_16)
    | 9, _ => exact Or.inr (hs _ gn9_16)
    | 10, _ => exact Or.inr (hs _ gn10_16)
    | 11, _ => exact Or.inr (hs _ gn11_16)
    | 12, _ => exact Or.inr (hs _ gn12_16)
    | 13, _ => exact Or.inr (hs _ gn13_16)
    | 14, _ => exact Or.inr (hs _ gn14_16)
    | 15, _ => exact Or.inr (hs _ gn15_16)
    | 16, _ => exact absurd rfl hne
    | j + 17, h => exact absurd h (by show ¬ j + 17 < 17; omega)
  | i + 17, h => exact absurd h (by show ¬ i + 17 < 17; omega)
theorem kk_sr {args : Array Value} {s : State} (hs : ∀ c ∈ lw_tbl, c.before args s = true) : ∀ (i : Nat) (q : Nat × String), kT[i]? = some q → (Cond.stringRef kOwn q.1 q.2).before args s = true := by
  intro i q hq
  match i, hq with
  | 0, hq => cases hq; exact hs _ zs0
  | 1, hq => cases hq; exact hs _ zs1
  | 2, hq => cases hq; exact hs _ zs2
  | 3, hq => cases hq; exact hs _ zs3
  | 4, hq => cases hq; exact hs _ zs4
  | 5, hq => cases hq; exact hs _ zs5
  | 6, hq => cases hq; exact hs _ zs6
  | 7, hq => cases hq; exact hs _ zs7
  | 8, hq => cases hq; exact hs _ zs8
  | 9, hq => cases hq; exact hs _ zs9
  | 10, hq => cases hq; exact hs _ zs10
  | 11, hq => cases hq; exact hs _ zs11
  | 12, hq => cases hq; exact hs _ zs12
  | 13, hq => cases hq; exact hs _ zs13
  | 14, hq => cases hq; exact hs _ zs14
  | 15, hq => cases hq; exact hs _ zs15
  | 16, hq => cases hq; exact hs _ zs16
  | i + 17, hq => exact absurd hq (by simp [kT])
theorem kk_nb {args : Array Value} {s : State} (hs : ∀ c ∈ lw_tbl, c.before args s = true) : ∀ w ∈ NB, va_Nw w s := by
  intro w hw
  simp only [NB, List.mem_cons, List.not_mem_nil, or_false] at hw
  rcases hw with rfl | rfl | rfl | rfl | rfl | rfl
  · exact va_Nw.of rfl (hs _ zn0)
  · exact va_Nw.of rfl (hs _ zn1)
  · exact va_Nw.of rfl (hs _ zn2)
  · exact va_Nw.of rfl (hs _ zn3)
  · exact va_Nw.of rfl (hs _ zn4)
  · exact va_Nw.of rfl (hs _ zn5)
theorem kk_arr {args : Array Value} {s : State} {ty : FieldType} (h : (Cond.arrayClass ty).before args s = true) : ∃ c, ArrOfT s c ty ∧ s.vm.findClass ("[" ++ ty.toString) = some c := by
  obtain ⟨c, k, comp, h1, h2, h3⟩ := Cond.arrayClass_spec h
  exact ⟨c, fun n z => ⟨fun k h => (by cases h), k, h2, comp, h3⟩, h1⟩
