set_option maxRecDepth 100000 in
theorem na_88 : (Jvm.Cond.exactly (Jvm.Term.string "MosaicOfSights$Reader" (105 : Nat)) "java/lang/String") ∈ flatC (Jvm.Cond.and given_1 narrow_1) := List.mem_of_getElem? (i := 88) rfl
set_option maxRecDepth 100000 in
theorem na_98 : (Jvm.Cond.exactly (Jvm.Term.string "MosaicOfSights$Reader" (107 : Nat)) "java/lang/String") ∈ flatC (Jvm.Cond.and given_1 narrow_1) := List.mem_of_getElem? (i := 98) rfl
set_option maxRecDepth 100000 in
theorem na_108 : (Jvm.Cond.exactly (Jvm.Term.string "MosaicOfSights$Reader" (109 : Nat)) "java/lang/String") ∈ flatC (Jvm.Cond.and given_1 narrow_1) := List.mem_of_getElem? (i := 108) rfl
set_option maxRecDepth 100000 in
theorem na_120 : (Jvm.Cond.exactly (Jvm.Term.string "MosaicOfSights$Reader" (111 : Nat)) "java/lang/String") ∈ flatC (Jvm.Cond.and given_1 narrow_1) := List.mem_of_getElem? (i := 120) rfl
set_option maxRecDepth 100000 in
theorem na_130 : (Jvm.Cond.exactly (Jvm.Term.string "MosaicOfSights$Reader" (113 : Nat)) "java/lang/String") ∈ flatC (Jvm.Cond.and given_1 narrow_1) := List.mem_of_getElem? (i := 130) rfl
set_option maxRecDepth 100000 in
theorem na_142 : (Jvm.Cond.exactly (Jvm.Term.string "MosaicOfSights$Reader" (115 : Nat)) "java/lang/String") ∈ flatC (Jvm.Cond.and given_1 narrow_1) := List.mem_of_getElem? (i := 142) rfl
set_option maxRecDepth 100000 in
theorem na_155 : (Jvm.Cond.exactly (Jvm.Term.string "MosaicOfSights$Reader" (117 : Nat)) "java/lang/String") ∈ flatC (Jvm.Cond.and given_1 narrow_1) := List.mem_of_getElem? (i := 155) rfl
set_option maxRecDepth 100000 in
theorem na_172 : (Jvm.Cond.exactly (Jvm.Term.string "MosaicOfSights$Reader" (119 : Nat)) "java/lang/String") ∈ flatC (Jvm.Cond.and given_1 narrow_1) := List.mem_of_getElem? (i := 172) rfl
set_option maxRecDepth 100000 in
theorem na_190 : (Jvm.Cond.exactly (Jvm.Term.string "MosaicOfSights$Reader" (121 : Nat)) "java/lang/String") ∈ flatC (Jvm.Cond.and given_1 narrow_1) := List.mem_of_getElem? (i := 190) rfl
set_option maxRecDepth 100000 in
theorem na_209 : (Jvm.Cond.exactly (Jvm.Term.string "MosaicOfSights$Reader" (122 : Nat)) "java/lang/String") ∈ flatC (Jvm.Cond.and given_1 narrow_1) := List.mem_of_getElem? (i := 209) rfl
set_option maxRecDepth 100000 in
theorem na_226 : (Jvm.Cond.exactly (Jvm.Term.string "MosaicOfSights$Reader" (124 : Nat)) "java/lang/String") ∈ flatC (Jvm.Cond.and given_1 narrow_1) := List.mem_of_getElem? (i := 226) rfl
set_option maxRecDepth 100000 in
theorem na_247 : (Jvm.Cond.exactly (Jvm.Term.string "MosaicOfSights$Reader" (126 : Nat)) "java/lang/String") ∈ flatC (Jvm.Cond.and given_1 narrow_1) := List.mem_of_getElem? (i := 247) rfl
set_option maxRecDepth 100000 in
theorem na_43 : (Jvm.Cond.exactly (Jvm.Term.string "MosaicOfSights" (47 : Nat)) "java/lang/String") ∈ flatC (Jvm.Cond.and given_1 narrow_1) := List.mem_of_getElem? (i := 43) rfl
set_option maxRecDepth 100000 in
theorem na_89 : (Jvm.Cond.eq (Jvm.Term.field (Jvm.Term.string "MosaicOfSights$Reader" (105 : Nat)) "java/lang/String" "coder" "B") (Jvm.Term.int (0 : Int32))) ∈ flatC (Jvm.Cond.and given_1 narrow_1) := List.mem_of_getElem? (i := 89) rfl
set_option maxRecDepth 100000 in
theorem na_99 : (Jvm.Cond.eq (Jvm.Term.field (Jvm.Term.string "MosaicOfSights$Reader" (107 : Nat)) "java/lang/String" "coder" "B") (Jvm.Term.int (0 : Int32))) ∈ flatC (Jvm.Cond.and given_1 narrow_1) := List.mem_of_getElem? (i := 99) rfl
set_option maxRecDepth 100000 in
theorem na_109 : (Jvm.Cond.eq (Jvm.Term.field (Jvm.Term.string "MosaicOfSights$Reader" (109 : Nat)) "java/lang/String" "coder" "B") (Jvm.Term.int (0 : Int32))) ∈ flatC (Jvm.Cond.and given_1 narrow_1) := List.mem_of_getElem? (i := 109) rfl
set_option maxRecDepth 100000 in
theorem na_121 : (Jvm.Cond.eq (Jvm.Term.field (Jvm.Term.string "MosaicOfSights$Reader" (111 : Nat)) "java/lang/String" "coder" "B") (Jvm.Term.int (0 : Int32))) ∈ flatC (Jvm.Cond.and given_1 narrow_1) := List.mem_of_getElem? (i := 121) rfl
set_option maxRecDepth 100000 in
theorem na_131 : (Jvm.Cond.eq (Jvm.Term.field (Jvm.Term.string "MosaicOfSights$Reader" (113 : Nat)) "java/lang/String" "coder" "B") (Jvm.Term.int (0 : Int32))) ∈ flatC (Jvm.Cond.and given_1 narrow_1) := List.mem_of_getElem? (i := 131) rfl
set_option maxRecDepth 100000 in
theorem na_143 : (Jvm.Cond.eq (Jvm.Term.field (Jvm.Term.string "MosaicOfSights$Reader" (115 : Nat)) "java/lang/String" "coder" "B") (Jvm.Term.int (0 : Int32))) ∈ flatC (Jvm.Cond.and given_1 narrow_1) := List.mem_of_getElem? (i := 143) rfl
set_option maxRecDepth 100000 in
theorem na_156 : (Jvm.Cond.eq (Jvm.Term.field (Jvm.Term.string "MosaicOfSights$Reader" (117 : Nat)) "java/lang/String" "coder" "B") (Jvm.Term.int (0 : Int32))) ∈ flatC (Jvm.Cond.and given_1 narrow_1) := List.mem_of_getElem? (i := 156) rfl
set_option maxRecDepth 100000 in
theorem na_173 : (Jvm.Cond.eq (Jvm.Term.field (Jvm.Term.string "MosaicOfSights$Reader" (119 : Nat)) "java/lang/String" "coder" "B") (Jvm.Term.int (0 : Int32))) ∈ flatC (Jvm.Cond.and given_1 narrow_1) := List.mem_of_getElem? (i := 173) rfl
set_option maxRecDepth 100000 in
theorem na_191 : (Jvm.Cond.eq (Jvm.Term.field (Jvm.Term.string "MosaicOfSights$Reader" (121 : Nat)) "java/lang/String" "coder" "B") (Jvm.Term.int (0 : Int32))) ∈ flatC (Jvm.Cond.and given_1 narrow_1) := List.mem_of_getElem? (i := 191) rfl
set_option maxRecDepth 100000 in
theorem na_210 : (Jvm.Cond.eq (Jvm.Term.field (Jvm.Term.string "MosaicOfSights$Reader" (122 : Nat)) "java/lang/String" "coder" "B") (Jvm.Term.int (0 : Int32))) ∈ flatC (Jvm.Cond.and given_1 narrow_1) := List.mem_of_getElem? (i := 210) rfl
set_option maxRecDepth 100000 in
theorem na_227 : (Jvm.Cond.eq (Jvm.Term.field (Jvm.Term.string "MosaicOfSights$Reader" (124 : Nat)) "java/lang/String" "coder" "B") (Jvm.Term.int (0 : Int32))) ∈ flatC (Jvm.Cond.and given_1 narrow_1) := List.mem_of_getElem? (i := 227) rfl
set_option maxRecDepth 100000 in
theorem na_248 : (Jvm.Cond.eq (Jvm.Term.field (Jvm.Term.string "MosaicOfSights$Reader" (126 : Nat)) "java/lang/String" "coder" "B") (Jvm.Term.int (0 : Int32))) ∈ flatC (Jvm.Cond.and given_1 narrow_1) := List.mem_of_getElem? (i := 248) rfl
set_option maxRecDepth 100000 in
theorem na_44 : (Jvm.Cond.eq (Jvm.Term.field (Jvm.Term.string "MosaicOfSights" (47 : Nat)) "java/lang/String" "coder" "B") (Jvm.Term.int (0 : Int32))) ∈ flatC (Jvm.Cond.and given_1 narrow_1) := List.mem_of_getElem? (i := 44) rfl
set_option maxRecDepth 100000 in
theorem na_90 : (Jvm.Cond.arrayOf (Jvm.Term.field (Jvm.Term.string "MosaicOfSights$Reader" (105 : Nat)) "java/lang/String" "value" "[B") Jvm.ClassFile.FieldType.byte) ∈ flatC (Jvm.Cond.and given_1 narrow_1) := List.mem_of_getElem? (i := 90) rfl
set_option maxRecDepth 100000 in
theorem na_100 : (Jvm.Cond.arrayOf (Jvm.Term.field (Jvm.Term.string "MosaicOfSights$Reader" (107 : Nat)) "java/lang/String" "value" "[B") Jvm.ClassFile.FieldType.byte) ∈ flatC (Jvm.Cond.and given_1 narrow_1) := List.mem_of_getElem? (i := 100) rfl
set_option maxRecDepth 100000 in
theorem na_110 : (Jvm.Cond.arrayOf (Jvm.Term.field (Jvm.Term.string "MosaicOfSights$Reader" (109 : Nat)) "java/lang/String" "value" "[B") Jvm.ClassFile.FieldType.byte) ∈ flatC (Jvm.Cond.and given_1 narrow_1) := List.mem_of_getElem? (i := 110) rfl
set_option maxRecDepth 100000 in
theorem na_122 : (Jvm.Cond.arrayOf (Jvm.Term.field (Jvm.Term.string "MosaicOfSights$Reader" (111 : Nat)) "java/lang/String" "value" "[B") Jvm.ClassFile.FieldType.byte) ∈ flatC (Jvm.Cond.and given_1 narrow_1) := List.mem_of_getElem? (i := 122) rfl
set_option maxRecDepth 100000 in
theorem na_132 : (Jvm.Cond.arrayOf (Jvm.Term.field (Jvm.Term.string "MosaicOfSights$Reader" (113 : Nat)) "java/lang/String" "value" "[B") Jvm.ClassFile.FieldType.byte) ∈ flatC (Jvm.Cond.and given_1 narrow_1) := List.mem_of_getElem? (i := 132) rfl
set_option maxRecDepth 100000 in
theorem na_144 : (Jvm.Cond.arrayOf (Jvm.Term.field (Jvm.Term.string "MosaicOfSights$Reader" (115 : Nat)) "java/lang/String" "value" "[B") Jvm.ClassFile.FieldType.byte) ∈ flatC (Jvm.Cond.and given_1 narrow_1) := List.mem_of_getElem? (i := 144) rfl
set_option maxRecDepth 100000 in
theorem na_157 : (Jvm.Cond.arrayOf (Jvm.Term.field (Jvm.Term.string "MosaicOfSights$Reader" (117 : Nat)) "java/lang/String" "value" "[B") Jvm.ClassFile.FieldType.byte) ∈ flatC (Jvm.Cond.and given_1 narrow_1) := List.mem_of_getElem? (i := 157) rfl
set_option maxRecDepth 100000 in
theorem na_174 : (Jvm.Cond.arrayOf (Jvm.Term.field (Jvm.Term.string "MosaicOfSights$Reader" (119 : Nat)) "java/lang/String" "value" "[B") Jvm.ClassFile.FieldType.byte) ∈ flatC (Jvm.Cond.and given_1 narrow_1) := List.mem_of_getElem? (i := 174) rfl
set_option maxRecDepth 100000 in
theorem na_192 : (Jvm.Cond.arrayOf (Jvm.Term.field (Jvm.Term.string "MosaicOfSights$Reader" (121 : Nat)) "java/lang/String" "value" "[B") Jvm.ClassFile.FieldType.byte) ∈ flatC (Jvm.Cond.and given_1 narrow_1) := List.mem_of_getElem? (i := 192) rfl
set_option maxRecDepth 100000 in
theorem na_211 : (Jvm.Cond.arrayOf (Jvm.Term.field (Jvm.Term.string "MosaicOfSights$Reader" (122 : Nat)) "java/lang/String" "value" "[B") Jvm.ClassFile.FieldType.byte) ∈ flatC (Jvm.Cond.and given_1 narrow_1) := List.mem_of_getElem? (i := 211) rfl
set_option maxRecDepth 100000 in
theorem na_228 : (Jvm.Cond.arrayOf (Jvm.Term.field (Jvm.Term.string "MosaicOfSights$Reader" (124 : Nat)) "java/lang/String" "value" "[B") Jvm.ClassFile.FieldType.byte) ∈ flatC (Jvm.Cond.and given_1 narrow_1) := List.mem_of_getElem? (i := 228) rfl
set_option maxRecDepth 100000 in
theorem na_249 : (Jvm.Cond.arrayOf (Jvm.Term.field (Jvm.Term.string "MosaicOfSights$Reader" (126 : Nat)) "java/lang/String" "value" "[B") Jvm.ClassFile.FieldType.byte) ∈ flatC (Jvm.Cond.and given_1 narrow_1) := List.mem_of_getElem? (i := 249) rfl
set_option maxRecDepth 100000 in
theorem na_45 : (Jvm.Cond.arrayOf (Jvm.Term.field (Jvm.Term.string "MosaicOfSights" (47 : Nat)) "java/lang/String" "value" "[B") Jvm.ClassFile.FieldType.byte) ∈ flatC (Jvm.Cond.and given_1 narrow_1) := List.mem_of_getElem? (i := 45) rfl
set_option maxRecDepth 100000 in
theorem na_91 : (Jvm.Cond.eq (Jvm.Term.length (Jvm.Term.field (Jvm.Term.string "MosaicOfSights$Reader" (105 : Nat)) "java/lang/String" "value" "[B")) (Jvm.Term.int (5 : Int32))) ∈ flatC (Jvm.Cond.and given_1 narrow_1) := List.mem_of_getElem? (i := 91) rfl
set_option maxRecDepth 100000 in
theorem na_101 : (Jvm.Cond.eq (Jvm.Term.length (Jvm.Term.field (Jvm.Term.string "MosaicOfSights$Reader" (107 : Nat)) "java/lang/String" "value" "[B")) (Jvm.Term.int (4 : Int32))) ∈ flatC (Jvm.Cond.and given_1 narrow_1) := List.mem_of_getElem? (i := 101) rfl
set_option maxRecDepth 100000 in
theorem na_111 : (Jvm.Cond.eq (Jvm.Term.length (Jvm.Term.field (Jvm.Term.string "MosaicOfSights$Reader" (109 : Nat)) "java/lang/String" "value" "[B")) (Jvm.Term.int (5 : Int32))) ∈ flatC (Jvm.Cond.and given_1 narrow_1) := List.mem_of_getElem? (i := 111) rfl
set_option maxRecDepth 100000 in
theorem na_123 : (Jvm.Cond.eq (Jvm.Term.length (Jvm.Term.field (Jvm.Term.string "MosaicOfSights$Reader" (111 : Nat)) "java/lang/String" "value" "[B")) (Jvm.Term.int (2 : Int32))) ∈ flatC (Jvm.Cond.and given_1 narrow_1) := List.mem_of_getElem? (i := 123) rfl
set_option maxRecDepth 100000 in
theorem na_133 : (Jvm.Cond.eq (Jvm.Term.length (Jvm.Term.field (Jvm.Term.string "MosaicOfSights$Reader" (113 : Nat)) "java/lang/String" "value" "[B")) (Jvm.Term.int (3 : Int32))) ∈ flatC (Jvm.Cond.and given_1 narrow_1) := List.mem_of_getElem? (i := 133) rfl
set_option maxRecDepth 100000 in
theorem na_145 : (Jvm.Cond.eq (Jvm.Term.length (Jvm.Term.field (Jvm.Term.string "MosaicOfSights$Reader" (115 : Nat)) "java/lang/String" "value" "[B")) (Jvm.Term.int (3 : Int32))) ∈ flatC (Jvm.Cond.and given_1 narrow_1) := List.mem_of_getElem? (i := 145) rfl
set_option maxRecDepth 100000 in
theorem na_158 : (Jvm.Cond.eq (Jvm.Term.length (Jvm.Term.field (Jvm.Term.string "MosaicOfSights$Reader" (117 : Nat)) "java/lang/String" "value" "[B")) (Jvm.Term.int (6 : Int32))) ∈ flatC (Jvm.Cond.and given_1 narrow_1) := List.mem_of_getElem? (i := 158) rfl
set_option maxRecDepth 100000 in
theorem na_175 : (Jvm.Cond.eq (Jvm.Term.length (Jvm.Term.field (Jvm.Term.string "MosaicOfSights$Reader" (119 : Nat)) "java/lang/String" "value" "[B")) (Jvm.Term.int (6 : Int32))) ∈ flatC (Jvm.Cond.and given_1 narrow_1) := List.mem_of_getElem? (i := 175) rfl
set_option maxRecDepth 100000 in
theorem na_193 : (Jvm.Cond.eq (Jvm.Term.length (Jvm.Term.field (Jvm.Term.string "MosaicOfSights$Reader" (121 : Nat)) "java/lang/String" "value" "[B")) (Jvm.Term.int (6 : Int32))) ∈ flatC (Jvm.Cond.and given_1 narrow_1) := List.mem_of_getElem? (i := 193) rfl
set_option maxRecDepth 100000 in
theorem na_212 : (Jvm.Cond.eq (Jvm.Term.length (Jvm.Term.field (Jvm.Term.string "MosaicOfSights$Reader" (122 : Nat)) "java/lang/String" "value" "[B")) (Jvm.Term.int (3 : Int32))) ∈ flatC (Jvm.Cond.and given_1 narrow_1) := List.mem_of_getElem? (i := 212) rfl
set_option maxRecDepth 100000 in
theorem na_229 : (Jvm.Cond.eq (Jvm.Term.length (Jvm.Term.field (Jvm.Term.string "MosaicOfSights$Reader" (124 : Nat)) "java/lang/String" "value" "[B")) (Jvm.Term.int (6 : Int32))) ∈ flatC (Jvm.Cond.and given_1 narrow_1) := List.mem_of_getElem? (i := 229) rfl
set_option maxRecDepth 100000 in
theorem na_250 : (Jvm.Cond.eq (Jvm.Term.length (Jvm.Term.field (Jvm.Term.string "MosaicOfSights$Reader" (126 : Nat)) "java/lang/String" "value" "[B")) (Jvm.Term.int (3 : Int32))) ∈ flatC (Jvm.Cond.and given_1 narrow_1) := List.mem_of_getElem? (i := 250) rfl
set_option maxRecDepth 100000 in
theorem na_46 : (Jvm.Cond.eq (Jvm.Term.length (Jvm.Term.field (Jvm.Term.string "MosaicOfSights" (47 : Nat)) "java/lang/String" "value" "[B")) (Jvm.Term.int (41 : Int32))) ∈ flatC (Jvm.Cond.and given_1 narrow_1) := List.mem_of_getElem? (i := 46) rfl
set_option maxRecDepth 100000 in
theorem na_92 : (Jvm.Cond.eq (Jvm.Term.elem (Jvm.Term.field (Jvm.Term.string "MosaicOfSights$Reader" (105 : Nat)) "java/lang/String" "value" "[B") (Jvm.Term.int (0 : Int32))) (Jvm.Term.int (110 : Int32))) ∈ flatC (Jvm.Cond.and given_1 narrow_1) := List.mem_of_getElem? (i := 92) rfl
set_option maxRecDepth 100000 in
theorem na_93 : (Jvm.Cond.eq (Jvm.Term.elem (Jvm.Term.field (Jvm.Term.string "MosaicOfSights$Reader" (105 : Nat)) "java/lang/String" "value" "[B") (Jvm.Term.int (1 : Int32))) (Jvm.Term.int (101 : Int32))) ∈ flatC (Jvm.Cond.and given_1 narrow_1) := List.mem_of_getElem? (i := 93) rfl
set_option maxRecDepth 100000 in
theorem na_94 : (Jvm.Cond.eq (Jvm.Term.elem (Jvm.Term.field (Jvm.Term.string "MosaicOfSights$Reader" (105 : Nat)) "java/lang/String" "value" "[B") (Jvm.Term.int (2 : Int32))) (Jvm.Term.int (101 : Int32))) ∈ flatC (Jvm.Cond.and given_1 narrow_1) := List.mem_of_getElem? (i := 94) rfl
set_option maxRecDepth 100000 in
theorem na_95 : (Jvm.Cond.eq (Jvm.Term.elem (Jvm.Term.field (Jvm.Term.string "MosaicOfSights$Reader" (105 : Nat)) "java/lang/String" "value" "[B") (Jvm.Term.int (3 : Int32))) (Jvm.Term.int (100 : Int32))) ∈ flatC (Jvm.Cond.and given_1 narrow_1) := List.mem_of_getElem? (i := 95) rfl
set_option maxRecDepth 100000 in
theorem na_96 : (Jvm.Cond.eq (Jvm.Term.elem (Jvm.Term.field (Jvm.Term.string "MosaicOfSights$Reader" (105 : Nat)) "java/lang/String" "value" "[B") (Jvm.Term.int (4 : Int32))) (Jvm.Term.int (115 : Int32))) ∈ flatC (Jvm.Cond.and given_1 narrow_1) := List.mem_of_getElem? (i := 96) rfl
set_option maxRecDepth 100000 in
theorem na_102 : (Jvm.Cond.eq (Jvm.Term.elem (Jvm.Term.field (Jvm.Term.string "MosaicOfSights$Reader" (107 : Nat)) "java/lang/String" "value" "[B") (Jvm.Term.int (0 : Int32))) (Jvm.Term.int (115 : Int32))) ∈ flatC (Jvm.Cond.and given_1 narrow_1) := List.mem_of_getElem? (i := 102) rfl
set_option maxRecDepth 100000 in
theorem na_103 : (Jvm.Cond.eq (Jvm.Term.elem (Jvm.Term.field (Jvm.Term.string "MosaicOfSights$Reader" (107 : Nat)) "java/lang/String" "value" "[B") (Jvm.Term.int (1 : Int32))) (Jvm.Term.int (101 : Int32))) ∈ flatC (Jvm.Cond.and given_1 narrow_1) := List.mem_of_getElem? (i := 103) rfl
set_option maxRecDepth 100000 in
theorem na_104 : (Jvm.Cond.eq (Jvm.Term.elem (Jvm.Term.field (Jvm.Term.string "MosaicOfSights$Reader" (107 : Nat)) "java/lang/String" "value" "[B") (Jvm.Term.int (2 : Int32))) (Jvm.Term.int (101 : Int32))) ∈ flatC (Jvm.Cond.and given_1 narrow_1) := List.mem_of_getElem? (i := 104) rfl
set_option maxRecDepth 100000 in
theorem na_105 : (Jvm.Cond.eq (Jvm.Term.elem (Jvm.Term.field (Jvm.Term.string "MosaicOfSights$Reader" (107 : Nat)) "java/lang/String" "value" "[B") (Jvm.Term.int (3 : Int32))) (Jvm.Term.int (115 : Int32))) ∈ flatC (Jvm.Cond.and given_1 narrow_1) := List.mem_of_getElem? (i := 105) rfl
set_option maxRecDepth 100000 in
theorem na_112 : (Jvm.Cond.eq (Jvm.Term.elem (Jvm.Term.field (Jvm.Term.string "MosaicOfSights$Reader" (109 : Nat)) "java/lang/String" "value" "[B") (Jvm.Term.int (0 : Int32))) (Jvm.Term.int (116 : Int32))) ∈ flatC (Jvm.Cond.and given_1 narrow_1) := List.mem_of_getElem? (i := 112) rfl
set_option maxRecDepth 100000 in
theorem na_113 : (Jvm.Cond.eq (Jvm.Term.elem (Jvm.Term.field (Jvm.Term.string "MosaicOfSights$Reader" (109 : Nat)) "java/lang/String" "value" "[B") (Jvm.Term.int (1 : Int32))) (Jvm.Term.int (117 : Int32))) ∈ flatC (Jvm.Cond.and given_1 narrow_1) := List.mem_of_getElem? (i := 113) rfl
set_option maxRecDepth 100000 in
theorem na_114 : (Jvm.Cond.eq (Jvm.Term.elem (Jvm.Term.field (Jvm.Term.string "MosaicOfSights$Reader" (109 : Nat)) "java/lang/String" "value" "[B") (Jvm.Term.int (2 : Int32))) (Jvm.Term.int (114 : Int32))) ∈ flatC (Jvm.Cond.and given_1 narrow_1) := List.mem_of_getElem? (i := 114) rfl
set_option maxRecDepth 100000 in
theorem na_115 : (Jvm.Cond.eq (Jvm.Term.elem (Jvm.Term.field (Jvm.Term.string "MosaicOfSights$Reader" (109 : Nat)) "java/lang/String" "value" "[B") (Jvm.Term.int (3 : Int32))) (Jvm.Term.int (110 : Int32))) ∈ flatC (Jvm.Cond.and given_1 narrow_1) := List.mem_of_getElem? (i := 115) rfl
set_option maxRecDepth 100000 in
theorem na_116 : (Jvm.Cond.eq (Jvm.Term.elem (Jvm.Term.field (Jvm.Term.string "MosaicOfSights$Reader" (109 : Nat)) "java/lang/String" "value" "[B") (Jvm.Term.int (4 : Int32))) (Jvm.Term.int (115 : Int32))) ∈ flatC (Jvm.Cond.and given_1 narrow_1) := List.mem_of_getElem? (i := 116) rfl
set_option maxRecDepth 100000 in
theorem na_124 : (Jvm.Cond.eq (Jvm.Term.elem (Jvm.Term.field (Jvm.Term.string "MosaicOfSights$Reader" (111 : Nat)) "java/lang/String" "value" "[B") (Jvm.Term.int (0 : Int32))) (Jvm.Term.int (111 : Int32))) ∈ flatC (Jvm.Cond.and given_1 narrow_1) := List.mem_of_getElem? (i := 124) rfl
set_option maxRecDepth 100000 in
theorem na_125 : (Jvm.Cond.eq (Jvm.Term.elem (Jvm.Term.field (Jvm.Term.string "MosaicOfSights$Reader" (111 : Nat)) "java/lang/String" "value" "[B") (Jvm.Term.int (1 : Int32))) (Jvm.Term.int (114 : Int32))) ∈ flatC (Jvm.Cond.and given_1 narrow_1) := List.mem_of_getElem? (i := 125) rfl
set_option maxRecDepth 100000 in
theorem na_134 : (Jvm.Cond.eq (Jvm.Term.elem (Jvm.Term.field (Jvm.Term.string "MosaicOfSights$Reader" (113 : Nat)) "java/lang/String" "value" "[B") (Jvm.Term.int (0 : Int32))) (Jvm.Term.int (97 : Int32))) ∈ flatC (Jvm.Cond.and given_1 narrow_1) := List.mem_of_getElem? (i := 134) rfl
set_option maxRecDepth 100000 in
theorem na_135 : (Jvm.Cond.eq (Jvm.Term.elem (Jvm.Term.field (Jvm.Term.string "MosaicOfSights$Reader" (113 : Nat)) "java/lang/String" "value" "[B") (Jvm.Term.int (1 : Int32))) (Jvm.Term.int (110 : Int32))) ∈ flatC (Jvm.Cond.and given_1 narrow_1) := List.mem_of_getElem? (i := 135) rfl
set_option maxRecDepth 100000 in
theorem na_136 : (Jvm.Cond.eq (Jvm.Term.elem (Jvm.Term.field (Jvm.Term.string "MosaicOfSights$Reader" (113 : Nat)) "java/lang/String" "value" "[B") (Jvm.Term.int (2 : Int32))) (Jvm.Term.int (100 : Int32))) ∈ flatC (Jvm.Cond.and given_1 narrow_1) := List.mem_of_getElem? (i := 136) rfl
set_option maxRecDepth 100000 in
theorem na_146 : (Jvm.Cond.eq (Jvm.Term.elem (Jvm.Term.field (Jvm.Term.string "MosaicOfSights$Reader" (115 : Nat)) "java/lang/String" "value" "[B") (Jvm.Term.int (0 : Int32))) (Jvm.Term.int (110 : Int32))) ∈ flatC (Jvm.Cond.and given_1 narrow_1) := List.mem_of_getElem? (i := 146) rfl
set_option maxRecDepth 100000 in
theorem na_147 : (Jvm.Cond.eq (Jvm.Term.elem (Jvm.Term.field (Jvm.Term.string "MosaicOfSights$Reader" (115 : Nat)) "java/lang/String" "value" "[B") (Jvm.Term.int (1 : Int32))) (Jvm.Term.int (111 : Int32))) ∈ flatC (Jvm.Cond.and given_1 narrow_1) := List.mem_of_getElem? (i := 147) rfl
set_option maxRecDepth 100000 in
theorem na_148 : (Jvm.Cond.eq (Jvm.Term.elem (Jvm.Term.field (Jvm.Term.string "MosaicOfSights$Reader" (115 : Nat)) "java/lang/String" "value" "[B") (Jvm.Term.int (2 : Int32))) (Jvm.Term.int (116 : Int32))) ∈ flatC (Jvm.Cond.and given_1 narrow_1) := List.mem_of_getElem? (i := 148) rfl
set_option maxRecDepth 100000 in
theorem na_159 : (Jvm.Cond.eq (Jvm.Term.elem (Jvm.Term.field (Jvm.Term.string "MosaicOfSights$Reader" (117 : Nat)) "java/lang/String" "value" "[B") (Jvm.Term.int (0 : Int32))) (Jvm.Term.int (108 : Int32))) ∈ flatC (Jvm.Cond.and given_1 narrow_1) := List.mem_of_getElem? (i := 159) rfl
set_option maxRecDepth 100000 in
theorem na_160 : (Jvm.Cond.eq (Jvm.Term.elem (Jvm.Term.field (Jvm.Term.string "MosaicOfSights$Reader" (117 : Nat)) "java/lang/String" "value" "[B") (Jvm.Term.int (1 : Int32))) (Jvm.Term.int (111 : Int32))) ∈ flatC (Jvm.Cond.and given_1 narrow_1) := List.mem_of_getElem? (i := 160) rfl
set_option maxRecDepth 100000 in
theorem na_161 : (Jvm.Cond.eq (Jvm.Term.elem (Jvm.Term.field (Jvm.Term.string "MosaicOfSights$Reader" (117 : Nat)) "java/lang/String" "value" "[B") (Jvm.Term.int (2 : Int32))) (Jvm.Term.int (111 : Int32))) ∈ flatC (Jvm.Cond.and given_1 narrow_1) := List.mem_of_getElem? (i := 161) rfl
set_option maxRecDepth 100000 in
theorem na_162 : (Jvm.Cond.eq (Jvm.Term.elem (Jvm.Term.field (Jvm.Term.string "MosaicOfSights$Reader" (117 : Nat)) "java/lang/String" "value" "[B") (Jvm.Term.int (3 : Int32))) (Jvm.Term.int (107 : Int32))) ∈ flatC (Jvm.Cond.and given_1 narrow_1) := List.mem_of_getElem? (i := 162) rfl
set_option maxRecDepth 100000 in
theorem na_163 : (Jvm.Cond.eq (Jvm.Term.elem (Jvm.Term.field (Jvm.Term.string "MosaicOfSights$Reader" (117 : Nat)) "java/lang/String" "value" "[B") (Jvm.Term.int (4 : Int32))) (Jvm.Term.int (101 : Int32))) ∈ flatC (Jvm.Cond.and given_1 narrow_1) := List.mem_of_getElem? (i := 163) rfl
set_option maxRecDepth 100000 in
theorem na_164 : (Jvm.Cond.eq (Jvm.Term.elem (Jvm.Term.field (Jvm.Term.string "MosaicOfSights$Reader" (117 : Nat)) "java/lang/String" "value" "[B") (Jvm.Term.int (5 : Int32))) (Jvm.Term.int (100 : Int32))) ∈ flatC (Jvm.Cond.and given_1 narrow_1) := List.mem_of_getElem? (i := 164) rfl
set_option maxRecDepth 100000 in
theorem na_176 : (Jvm.Cond.eq (Jvm.Term.elem (Jvm.Term.field (Jvm.Term.string "MosaicOfSights$Reader" (119 : Nat)) "java/lang/String" "value" "[B") (Jvm.Term.int (0 : Int32))) (Jvm.Term.int (99 : Int32))) ∈ flatC (Jvm.Cond.and given_1 narrow_1) := List.mem_of_getElem? (i := 176) rfl
set_option maxRecDepth 100000 in
theorem na_177 : (Jvm.Cond.eq (Jvm.Term.elem (Jvm.Term.field (Jvm.Term.string "MosaicOfSights$Reader" (119 : Nat)) "java/lang/String" "value" "[B") (Jvm.Term.int (1 : Int32))) (Jvm.Term.int (111 : Int32))) ∈ flatC (Jvm.Cond.and given_1 narrow_1) := List.mem_of_getElem? (i := 177) rfl
set_option maxRecDepth 100000 in
theorem na_178 : (Jvm.Cond.eq (Jvm.Term.elem (Jvm.Term.field (Jvm.Term.string "MosaicOfSights$Reader" (119 : Nat)) "java/lang/String" "value" "[B") (Jvm.Term.int (2 : Int32))) (Jvm.Term.int (108 : Int32))) ∈ flatC (Jvm.Cond.and given_1 narrow_1) := List.mem_of_getElem? (i := 178) rfl
set_option maxRecDepth 100000 in
theorem na_179 : (Jvm.Cond.eq (Jvm.Term.elem (Jvm.Term.field (Jvm.Term.string "MosaicOfSights$Reader" (119 : Nat)) "java/lang/String" "value" "[B") (Jvm.Term.int (3 : Int32))) (Jvm.Term.int (111 : Int32))) ∈ flatC (Jvm.Cond.and given_1 narrow_1) := List.mem_of_getElem? (i := 179) rfl
set_option maxRecDepth 100000 in
theorem na_180 : (Jvm.Cond.eq (Jvm.Term.elem (Jvm.Term.field (Jvm.Term.string "MosaicOfSights$Reader" (119 : Nat)) "java/lang/String" "value" "[B") (Jvm.Term.int (4 : Int32))) (Jvm.Term.int (117 : Int32))) ∈ flatC (Jvm.Cond.and given_1 narrow_1) := List.mem_of_getElem? (i := 180) rfl
set_option maxRecDepth 100000 in
theorem na_181 : (Jvm.Cond.eq (Jvm.Term.elem (Jvm.Term.field (Jvm.Term.string "MosaicOfSights$Reader" (119 : Nat)) "java/lang/String" "value" "[B") (Jvm.Term.int (5 : Int32))) (Jvm.Term.int (114 : Int32))) ∈ flatC (Jvm.Cond.and given_1 narrow_1) := List.mem_of_getElem? (i := 181) rfl
set_option maxRecDepth 100000 in
theorem na_194 : (Jvm.Cond.eq (Jvm.Term.elem (Jvm.Term.field (Jvm.Term.string "MosaicOfSights$Reader" (121 : Nat)) "java/lang/String" "value" "[B") (Jvm.Term.int (0 : Int32))) (Jvm.Term.int (110 : Int32))) ∈ flatC (Jvm.Cond.and given_1 narrow_1) := List.mem_of_getElem? (i := 194) rfl
set_option maxRecDepth 100000 in
theorem na_195 : (Jvm.Cond.eq (Jvm.Term.elem (Jvm.Term.field (Jvm.Term.string "MosaicOfSights$Reader" (121 : Nat)) "java/lang/String" "value" "[B") (Jvm.Term.int (1 : Int32))) (Jvm.Term.int (117 : Int32))) ∈ flatC (Jvm.Cond.and given_1 narrow_1) := List.mem_of_getElem? (i := 195) rfl
set_option maxRecDepth 100000 in
theorem na_196 : (Jvm.Cond.eq (Jvm.Term.elem (Jvm.Term.field (Jvm.Term.string "MosaicOfSights$Reader" (121 : Nat)) "java/lang/String" "value" "[B") (Jvm.Term.int (2 : Int32))) (Jvm.Term.int (109 : Int32))) ∈ flatC (Jvm.Cond.and given_1 narrow_1) := List.mem_of_getElem? (i := 196) rfl
set_option maxRecDepth 100000 in
theorem na_197 : (Jvm.Cond.eq (Jvm.Term.elem (Jvm.Term.field (Jvm.Term.string "MosaicOfSights$Reader" (121 : Nat)) "java/lang/String" "value" "[B") (Jvm.Term.int (3 : Int32))) (Jvm.Term.int (98 : Int32))) ∈ flatC (Jvm.Cond.and given_1 narrow_1) := List.mem_of_getElem? (i := 197) rfl
set_option maxRecDepth 100000 in
theorem na_198 : (Jvm.Cond.eq (Jvm.Term.elem (Jvm.Term.field (Jvm.Term.string "MosaicOfSights$Reader" (121 : Nat)) "java/lang/String" "value" "[B") (Jvm.Term.int (4 : Int32))) (Jvm.Term.int (101 : Int32))) ∈ flatC (Jvm.Cond.and given_1 narrow_1) := List.mem_of_getElem? (i := 198) rfl
set_option maxRecDepth 100000 in
theorem na_199 : (Jvm.Cond.eq (Jvm.Term.elem (Jvm.Term.field (Jvm.Term.string "MosaicOfSights$Reader" (121 : Nat)) "java/lang/String" "value" "[B") (Jvm.Term.int (5 : Int32))) (Jvm.Term.int (114 : Int32))) ∈ flatC (Jvm.Cond.and given_1 narrow_1) := List.mem_of_getElem? (i := 199) rfl
set_option maxRecDepth 100000 in
theorem na_213 : (Jvm.Cond.eq (Jvm.Term.elem (Jvm.Term.field (Jvm.Term.string "MosaicOfSights$Reader" (122 : Nat)) "java/lang/String" "value" "[B") (Jvm.Term.int (0 : Int32))) (Jvm.Term.int (100 : Int32))) ∈ flatC (Jvm.Cond.and given_1 narrow_1) := List.mem_of_getElem? (i := 213) rfl
set_option maxRecDepth 100000 in
theorem na_214 : (Jvm.Cond.eq (Jvm.Term.elem (Jvm.Term.field (Jvm.Term.string "MosaicOfSights$Reader" (122 : Nat)) "java/lang/String" "value" "[B") (Jvm.Term.int (1 : Int32))) (Jvm.Term.int (97 : Int32))) ∈ flatC (Jvm.Cond.and given_1 narrow_1) := List.mem_of_getElem? (i := 214) rfl
set_option maxRecDepth 100000 in
theorem na_215 : (Jvm.Cond.eq (Jvm.Term.elem (Jvm.Term.field (Jvm.Term.string "MosaicOfSights$Reader" (122 : Nat)) "java/lang/String" "value" "[B") (Jvm.Term.int (2 : Int32))) (Jvm.Term.int (121 : Int32))) ∈ flatC (Jvm.Cond.and given_1 narrow_1) := List.mem_of_getElem? (i := 215) rfl
set_option maxRecDepth 100000 in
theorem na_230 : (Jvm.Cond.eq (Jvm.Term.elem (Jvm.Term.field (Jvm.Term.string "MosaicOfSights$Reader" (124 : Nat)) "java/lang/String" "value" "[B") (Jvm.Term.int (0 : Int32))) (Jvm.Term.int (102 : Int32))) ∈ flatC (Jvm.Cond.and given_1 narrow_1) := List.mem_of_getElem? (i := 230) rfl
set_option maxRecDepth 100000 in
theorem na_231 : (Jvm.Cond.eq (Jvm.Term.elem (Jvm.Term.field (Jvm.Term.string "MosaicOfSights$Reader" (124 : Nat)) "java/lang/String" "value" "[B") (Jvm.Term.int (1 : Int32))) (Jvm.Term.int (105 : Int32))) ∈ flatC (Jvm.Cond.and given_1 narrow_1) := List.mem_of_getElem? (i := 231) rfl
set_option maxRecDepth 100000 in
theorem na_232 : (Jvm.Cond.eq (Jvm.Term.elem (Jvm.Term.field (Jvm.Term.string "MosaicOfSights$Reader" (124 : Nat)) "java/lang/String" "value" "[B") (Jvm.Term.int (2 : Int32))) (Jvm.Term.int (108 : Int32))) ∈ flatC (Jvm.Cond.and given_1 narrow_1) := List.mem_of_getElem? (i := 232) rfl
set_option maxRecDepth 100000 in
theorem na_233 : (Jvm.Cond.eq (Jvm.Term.elem (Jvm.Term.field (Jvm.Term.string "MosaicOfSights$Reader" (124 : Nat)) "java/lang/String" "value" "[B") (Jvm.Term.int (3 : Int32))) (Jvm.Term.int (108 : Int32))) ∈ flatC (Jvm.Cond.and given_1 narrow_1) := List.mem_of_getElem? (i := 233) rfl
set_option maxRecDepth 100000 in
theorem na_234 : (Jvm.Cond.eq (Jvm.Term.elem (Jvm.Term.field (Jvm.Term.string "MosaicOfSights$Reader" (124 : Nat)) "java/lang/String" "value" "[B") (Jvm.Term.int (4 : Int32))) (Jvm.Term.int (101 : Int32))) ∈ flatC (Jvm.Cond.and given_1 narrow_1) := List.mem_of_getElem? (i := 234) rfl
set_option maxRecDepth 100000 in
theorem na_235 : (Jvm.Cond.eq (Jvm.Term.elem (Jvm.Term.field (Jvm.Term.string "MosaicOfSights$Reader" (124 : Nat)) "java/lang/String" "value" "[B") (Jvm.Term.int (5 : Int32))) (Jvm.Term.int (100 : Int32))) ∈ flatC (Jvm.Cond.and given_1 narrow_1) := List.mem_of_getElem? (i := 235) rfl
set_option maxRecDepth 100000 in
theorem na_251 : (Jvm.Cond.eq (Jvm.Term.elem (Jvm.Term.field (Jvm.Term.string "MosaicOfSights$Reader" (126 : Nat)) "java/lang/String" "value" "[B") (Jvm.Term.int (0 : Int32))) (Jvm.Term.int (98 : Int32))) ∈ flatC (Jvm.Cond.and given_1 narrow_1) := List.mem_of_getElem? (i := 251) rfl
set_option maxRecDepth 100000 in
theorem na_252 : (Jvm.Cond.eq (Jvm.Term.elem (Jvm.Term.field (Jvm.Term.string "MosaicOfSights$Reader" (126 : Nat)) "java/lang/String" "value" "[B") (Jvm.Term.int (1 : Int32))) (Jvm.Term.int (111 : Int32))) ∈ flatC (Jvm.Cond.and given_1 narrow_1) := List.mem_of_getElem? (i := 252) rfl
set_option maxRecDepth 100000 in
theorem na_253 : (Jvm.Cond.eq (Jvm.Term.elem (Jvm.Term.field (Jvm.Term.string "MosaicOfSights$Reader" (126 : Nat)) "java/lang/String" "value" "[B") (Jvm.Term.int (2 : Int32))) (Jvm.Term.int (120 : Int32))) ∈ flatC (Jvm.Cond.and given_1 narrow_1) := List.mem_of_getElem? (i := 253) rfl
set_option maxRecDepth 100000 in
theorem na_47 : (Jvm.Cond.eq (Jvm.Term.elem (Jvm.Term.field (Jvm.Term.string "MosaicOfSights" (47 : Nat)) "java/lang/String" "value" "[B") (Jvm.Term.int (0 : Int32))) (Jvm.Term.int (110 : Int32))) ∈ flatC (Jvm.Cond.and given_1 narrow_1) := List.mem_of_getElem? (i := 47) rfl
set_option maxRecDepth 100000 in
theorem na_48 : (Jvm.Cond.eq (Jvm.Term.elem (Jvm.Term.field (Jvm.Term.string "MosaicOfSights" (47 : Nat)) "java/lang/String" "value" "[B") (Jvm.Term.int (1 : Int32))) (Jvm.Term.int (101 : Int32))) ∈ flatC (Jvm.Cond.and given_1 narrow_1) := List.mem_of_getElem? (i := 48) rfl
set_option maxRecDepth 100000 in
theorem na_49 : (Jvm.Cond.eq (Jvm.Term.elem (Jvm.Term.field (Jvm.Term.string "MosaicOfSights" (47 : Nat)) "java/lang/String" "value" "[B") (Jvm.Term.int (2 : Int32))) (Jvm.Term.int (101 : Int32))) ∈ flatC (Jvm.Cond.and given_1 narrow_1) := List.mem_of_getElem? (i := 49) rfl
set_option maxRecDepth 100000 in
theorem na_50 : (Jvm.Cond.eq (Jvm.Term.elem (Jvm.Term.field (Jvm.Term.string "MosaicOfSights" (47 : Nat)) "java/lang/String" "value" "[B") (Jvm.Term.int (3 : Int32))) (Jvm.Term.int (100 : Int32))) ∈ flatC (Jvm.Cond.and given_1 narrow_1) := List.mem_of_getElem? (i := 50) rfl
set_option maxRecDepth 100000 in
theorem na_51 : (Jvm.Cond.eq (Jvm.Term.elem (Jvm.Term.field (Jvm.Term.string "MosaicOfSights" (47 : Nat)) "java/lang/String" "value" "[B") (Jvm.Term.int (4 : Int32))) (Jvm.Term.int (115 : Int32))) ∈ flatC (Jvm.Cond.and given_1 narrow_1) := List.mem_of_getElem? (i := 51) rfl
set_option maxRecDepth 100000 in
theorem na_52 : (Jvm.Cond.eq (Jvm.Term.elem (Jvm.Term.field (Jvm.Term.string "MosaicOfSights" (47 : Nat)) "java/lang/String" "value" "[B") (Jvm.Term.int (5 : Int32))) (Jvm.Term.int (32 : Int32))) ∈ flatC (Jvm.Cond.and given_1 narrow_1) := List.mem_of_getElem? (i := 52) rfl
set_option maxRecDepth 100000 in
theorem na_53 : (Jvm.Cond.eq (Jvm.Term.elem (Jvm.Term.field (Jvm.Term.string "MosaicOfSights" (47 : Nat)) "java/lang/String" "value" "[B") (Jvm.Term.int (6 : Int32))) (Jvm.Term.int (50 : Int32))) ∈ flatC (Jvm.Cond.and given_1 narrow_1) := List.mem_of_getElem? (i := 53) rfl
set_option maxRecDepth 100000 in
theorem na_54 : (Jvm.Cond.eq (Jvm.Term.elem (Jvm.Term.field (Jvm.Term.string "MosaicOfSights" (47 : Nat)) "java/lang/String" "value" "[B") (Jvm.Term.int (7 : Int32))) (Jvm.Term.int (32 : Int32))) ∈ flatC (Jvm.Cond.and given_1 narrow_1) := List.mem_of_getElem? (i := 54) rfl
set_option maxRecDepth 100000 in
theorem na_55 : (Jvm.Cond.eq (Jvm.Term.elem (Jvm.Term.field (Jvm.Term.string "MosaicOfSights" (47 : Nat)) "java/lang/String" "value" "[B") (Jvm.Term.int (8 : Int32))) (Jvm.Term.int (59 : Int32))) ∈ flatC (Jvm.Cond.and given_1 narrow_1) := List.mem_of_getElem? (i := 55) rfl
set_option maxRecDepth 100000 in
theorem na_56 : (Jvm.Cond.eq (Jvm.Term.elem (Jvm.Term.field (Jvm.Term.string "MosaicOfSights" (47 : Nat)) "java/lang/String" "value" "[B") (Jvm.Term.int (9 : Int32))) (Jvm.Term.int (32 : Int32))) ∈ flatC (Jvm.Cond.and given_1 narrow_1) := List.mem_of_getElem? (i := 56) rfl
set_option maxRecDepth 100000 in
theorem na_57 : (Jvm.Cond.eq (Jvm.Term.elem (Jvm.Term.field (Jvm.Term.string "MosaicOfSights" (47 : Nat)) "java/lang/String" "value" "[B") (Jvm.Term.int (10 : Int32))) (Jvm.Term.int (115 : Int32))) ∈ flatC (Jvm.Cond.and given_1 narrow_1) := List.mem_of_getElem? (i := 57) rfl
set_option maxRecDepth 100000 in
theorem na_58 : (Jvm.Cond.eq (Jvm.Term.elem (Jvm.Term.field (Jvm.Term.string "MosaicOfSights" (47 : Nat)) "java/lang/String" "value" "[B") (Jvm.Term.int (11 : Int32))) (Jvm.Term.int (101 : Int32))) ∈ flatC (Jvm.Cond.and given_1 narrow_1) := List.mem_of_getElem? (i := 58) rfl
set_option maxRecDepth 100000 in
theorem na_59 : (Jvm.Cond.eq (Jvm.Term.elem (Jvm.Term.field (Jvm.Term.string "MosaicOfSights" (47 : Nat)) "java/lang/String" "value" "[B") (Jvm.Term.int (12 : Int32))) (Jvm.Term.int (101 : Int32))) ∈ flatC (Jvm.Cond.and given_1 narrow_1) := List.mem_of_getElem? (i := 59) rfl
set_option maxRecDepth 100000 in
theorem na_60 : (Jvm.Cond.eq (Jvm.Term.elem (Jvm.Term.field (Jvm.Term.string "MosaicOfSights" (47 : Nat)) "java/lang/String" "value" "[B") (Jvm.Term.int (13 : Int32))) (Jvm.Term.int (115 : Int32))) ∈ flatC (Jvm.Cond.and given_1 narrow_1) := List.mem_of_getElem? (i := 60) rfl
set_option maxRecDepth 100000 in
theorem na_61 : (Jvm.Cond.eq (Jvm.Term.elem (Jvm.Term.field (Jvm.Term.string "MosaicOfSights" (47 : Nat)) "java/lang/String" "value" "[B") (Jvm.Term.int (14 : Int32))) (Jvm.Term.int (32 : Int32))) ∈ flatC (Jvm.Cond.and given_1 narrow_1) := List.mem_of_getElem? (i := 61) rfl
set_option maxRecDepth 100000 in
theorem na_62 : (Jvm.Cond.eq (Jvm.Term.elem (Jvm.Term.field (Jvm.Term.string "MosaicOfSights" (47 : Nat)) "java/lang/String" "value" "[B") (Jvm.Term.int (15 : Int32))) (Jvm.Term.int (100 : Int32))) ∈ flatC (Jvm.Cond.and given_1 narrow_1) := List.mem_of_getElem? (i := 62) rfl
set_option maxRecDepth 100000 in
theorem na_63 : (Jvm.Cond.eq (Jvm.Term.elem (Jvm.Term.field (Jvm.Term.string "MosaicOfSights" (47 : Nat)) "java/lang/String" "value" "[B") (Jvm.Term.int (16 : Int32))) (Jvm.Term.int (97 : Int32))) ∈ flatC (Jvm.Cond.and given_1 narrow_1) := List.mem_of_getElem? (i := 63) rfl
set_option maxRecDepth 100000 in
theorem na_64 : (Jvm.Cond.eq (Jvm.Term.elem (Jvm.Term.field (Jvm.Term.string "MosaicOfSights" (47 : Nat)) "java/lang/String" "value" "[B") (Jvm.Term.int (17 : Int32))) (Jvm.Term.int (121 : Int32))) ∈ flatC (Jvm.Cond.and given_1 narrow_1) := List.mem_of_getElem? (i := 64) rfl
set_option maxRecDepth 100000 in
theorem na_65 : (Jvm.Cond.eq (Jvm.Term.elem (Jvm.Term.field (Jvm.Term.string "MosaicOfSights" (47 : Nat)) "java/lang/String" "value" "[B") (Jvm.Term.int (18 : Int32))) (Jvm.Term.int (32 : Int32))) ∈ flatC (Jvm.Cond.and given_1 narrow_1) := List.mem_of_getElem? (i := 65) rfl
set_option maxRecDepth 100000 in
theorem na_66 : (Jvm.Cond.eq (Jvm.Term.elem (Jvm.Term.field (Jvm.Term.string "MosaicOfSights" (47 : Nat)) "java/lang/String" "value" "[B") (Jvm.Term.int (19 : Int32))) (Jvm.Term.int (59 : Int32))) ∈ flatC (Jvm.Cond.and given_1 narrow_1) := List.mem_of_getElem? (i := 66) rfl
set_option maxRecDepth 100000 in
theorem na_67 : (Jvm.Cond.eq (Jvm.Term.elem (Jvm.Term.field (Jvm.Term.string "MosaicOfSights" (47 : Nat)) "java/lang/String" "value" "[B") (Jvm.Term.int (20 : Int32))) (Jvm.Term.int (32 : Int32))) ∈ flatC (Jvm.Cond.and given_1 narrow_1) := List.mem_of_getElem? (i := 67) rfl
set_option maxRecDepth 100000 in
theorem na_68 : (Jvm.Cond.eq (Jvm.Term.elem (Jvm.Term.field (Jvm.Term.string "MosaicOfSights" (47 : Nat)) "java/lang/String" "value" "[B") (Jvm.Term.int (21 : Int32))) (Jvm.Term.int (116 : Int32))) ∈ flatC (Jvm.Cond.and given_1 narrow_1) := List.mem_of_getElem? (i := 68) rfl
set_option maxRecDepth 100000 in
theorem na_69 : (Jvm.Cond.eq (Jvm.Term.elem (Jvm.Term.field (Jvm.Term.string "MosaicOfSights" (47 : Nat)) "java/lang/String" "value" "[B") (Jvm.Term.int (22 : Int32))) (Jvm.Term.int (117 : Int32))) ∈ flatC (Jvm.Cond.and given_1 narrow_1) := List.mem_of_getElem? (i := 69) rfl
set_option maxRecDepth 100000 in
theorem na_70 : (Jvm.Cond.eq (Jvm.Term.elem (Jvm.Term.field (Jvm.Term.string "MosaicOfSights" (47 : Nat)) "java/lang/String" "value" "[B") (Jvm.Term.int (23 : Int32))) (Jvm.Term.int (114 : Int32))) ∈ flatC (Jvm.Cond.and given_1 narrow_1) := List.mem_of_getElem? (i := 70) rfl
set_option maxRecDepth 100000 in
theorem na_71 : (Jvm.Cond.eq (Jvm.Term.elem (Jvm.Term.field (Jvm.Term.string "MosaicOfSights" (47 : Nat)) "java/lang/String" "value" "[B") (Jvm.Term.int (24 : Int32))) (Jvm.Term.int (110 : Int32))) ∈ flatC (Jvm.Cond.and given_1 narrow_1) := List.mem_of_getElem? (i := 71) rfl
set_option maxRecDepth 100000 in
theorem na_72 : (Jvm.Cond.eq (Jvm.Term.elem (Jvm.Term.field (Jvm.Term.string "MosaicOfSights" (47 : Nat)) "java/lang/String" "value" "[B") (Jvm.Term.int (25 : Int32))) (Jvm.Term.int (115 : Int32))) ∈ flatC (Jvm.Cond.and given_1 narrow_1) := List.mem_of_getElem? (i := 72) rfl
set_option maxRecDepth 100000 in
theorem na_73 : (Jvm.Cond.eq (Jvm.Term.elem (Jvm.Term.field (Jvm.Term.string "MosaicOfSights" (47 : Nat)) "java/lang/String" "value" "[B") (Jvm.Term.int (26 : Int32))) (Jvm.Term.int (32 : Int32))) ∈ flatC (Jvm.Cond.and given_1 narrow_1) := List.mem_of_getElem? (i := 73) rfl
set_option maxRecDepth 100000 in
theorem na_74 : (Jvm.Cond.eq (Jvm.Term.elem (Jvm.Term.field (Jvm.Term.string "MosaicOfSights" (47 : Nat)) "java/lang/String" "value" "[B") (Jvm.Term.int (27 : Int32))) (Jvm.Term.int (100 : Int32))) ∈ flatC (Jvm.Cond.and given_1 narrow_1) := List.mem_of_getElem? (i := 74) rfl
set_option maxRecDepth 100000 in
theorem na_75 : (Jvm.Cond.eq (Jvm.Term.elem (Jvm.Term.field (Jvm.Term.string "MosaicOfSights" (47 : Nat)) "java/lang/String" "value" "[B") (Jvm.Term.int (28 : Int32))) (Jvm.Term.int (97 : Int32))) ∈ flatC (Jvm.Cond.and given_1 narrow_1) := List.mem_of_getElem? (i := 75) rfl
set_option maxRecDepth 100000 in
theorem na_76 : (Jvm.Cond.eq (Jvm.Term.elem (Jvm.Term.field (Jvm.Term.string "MosaicOfSights" (47 : Nat)) "java/lang/String" "value" "[B") (Jvm.Term.int (29 : Int32))) (Jvm.Term.int (121 : Int32))) ∈ flatC (Jvm.Cond.and given_1 narrow_1) := List.mem_of_getElem? (i := 76) rfl
set_option maxRecDepth 100000 in
theorem na_77 : (Jvm.Cond.eq (Jvm.Term.elem (Jvm.Term.field (Jvm.Term.string "MosaicOfSights" (47 : Nat)) "java/lang/String" "value" "[B") (Jvm.Term.int (30 : Int32))) (Jvm.Term.int (32 : Int32))) ∈ flatC (Jvm.Cond.and given_1 narrow_1) := List.mem_of_getElem? (i := 77) rfl
set_option maxRecDepth 100000 in
theorem na_78 : (Jvm.Cond.eq (Jvm.Term.elem (Jvm.Term.field (Jvm.Term.string "MosaicOfSights" (47 : Nat)) "java/lang/String" "value" "[B") (Jvm.Term.int (31 : Int32))) (Jvm.Term.int (43 : Int32))) ∈ flatC (Jvm.Cond.and given_1 narrow_1) := List.mem_of_getElem? (i := 78) rfl
set_option maxRecDepth 100000 in
theorem na_79 : (Jvm.Cond.eq (Jvm.Term.elem (Jvm.Term.field (Jvm.Term.string "MosaicOfSights" (47 : Nat)) "java/lang/String" "value" "[B") (Jvm.Term.int (32 : Int32))) (Jvm.Term.int (32 : Int32))) ∈ flatC (Jvm.Cond.and given_1 narrow_1) := List.mem_of_getElem? (i := 79) rfl
set_option maxRecDepth 100000 in
theorem na_80 : (Jvm.Cond.eq (Jvm.Term.elem (Jvm.Term.field (Jvm.Term.string "MosaicOfSights" (47 : Nat)) "java/lang/String" "value" "[B") (Jvm.Term.int (33 : Int32))) (Jvm.Term.int (110 : Int32))) ∈ flatC (Jvm.Cond.and given_1 narrow_1) := List.mem_of_getElem? (i := 80) rfl
set_option maxRecDepth 100000 in
theorem na_81 : (Jvm.Cond.eq (Jvm.Term.elem (Jvm.Term.field (Jvm.Term.string "MosaicOfSights" (47 : Nat)) "java/lang/String" "value" "[B") (Jvm.Term.int (34 : Int32))) (Jvm.Term.int (117 : Int32))) ∈ flatC (Jvm.Cond.and given_1 narrow_1) := List.mem_of_getElem? (i := 81) rfl
set_option maxRecDepth 100000 in
theorem na_82 : (Jvm.Cond.eq (Jvm.Term.elem (Jvm.Term.field (Jvm.Term.string "MosaicOfSights" (47 : Nat)) "java/lang/String" "value" "[B") (Jvm.Term.int (35 : Int32))) (Jvm.Term.int (109 : Int32))) ∈ flatC (Jvm.Cond.and given_1 narrow_1) := List.mem_of_getElem? (i := 82) rfl
set_option maxRecDepth 100000 in
theorem na_83 : (Jvm.Cond.eq (Jvm.Term.elem (Jvm.Term.field (Jvm.Term.string "MosaicOfSights" (47 : Nat)) "java/lang/String" "value" "[B") (Jvm.Term.int (36 : Int32))) (Jvm.Term.int (98 : Int32))) ∈ flatC (Jvm.Cond.and given_1 narrow_1) := List.mem_of_getElem? (i := 83) rfl
set_option maxRecDepth 100000 in
theorem na_84 : (Jvm.Cond.eq (Jvm.Term.elem (Jvm.Term.field (Jvm.Term.string "MosaicOfSights" (47 : Nat)) "java/lang/String" "value" "[B") (Jvm.Term.int (37 : Int32))) (Jvm.Term.int (101 : Int32))) ∈ flatC (Jvm.Cond.and given_1 narrow_1) := List.mem_of_getElem? (i := 84) rfl
set_option maxRecDepth 100000 in
theorem na_85 : (Jvm.Cond.eq (Jvm.Term.elem (Jvm.Term.field (Jvm.Term.string "MosaicOfSights" (47 : Nat)) "java/lang/String" "value" "[B") (Jvm.Term.int (38 : Int32))) (Jvm.Term.int (114 : Int32))) ∈ flatC (Jvm.Cond.and given_1 narrow_1) := List.mem_of_getElem? (i := 85) rfl
set_option maxRecDepth 100000 in
theorem na_86 : (Jvm.Cond.eq (Jvm.Term.elem (Jvm.Term.field (Jvm.Term.string "MosaicOfSights" (47 : Nat)) "java/lang/String" "value" "[B") (Jvm.Term.int (39 : Int32))) (Jvm.Term.int (32 : Int32))) ∈ flatC (Jvm.Cond.and given_1 narrow_1) := List.mem_of_getElem? (i := 86) rfl
set_option maxRecDepth 100000 in
theorem na_87 : (Jvm.Cond.eq (Jvm.Term.elem (Jvm.Term.field (Jvm.Term.string "MosaicOfSights" (47 : Nat)) "java/lang/String" "value" "[B") (Jvm.Term.int (40 : Int32))) (Jvm.Term.int (59 : Int32))) ∈ flatC (Jvm.Cond.and given_1 narrow_1) := List.mem_of_getElem? (i := 87) rfl
set_option maxRecDepth 100000 in
theorem na_107 : (Jvm.Cond.not (Jvm.Cond.eq (Jvm.Term.string "MosaicOfSights$Reader" (105 : Nat)) (Jvm.Term.string "MosaicOfSights$Reader" (107 : Nat)))) ∈ flatC (Jvm.Cond.and given_1 narrow_1) := List.mem_of_getElem? (i := 107) rfl
set_option maxRecDepth 100000 in
theorem na_118 : (Jvm.Cond.not (Jvm.Cond.eq (Jvm.Term.string "MosaicOfSights$Reader" (105 : Nat)) (Jvm.Term.string "MosaicOfSights$Reader" (109 : Nat)))) ∈ flatC (Jvm.Cond.and given_1 narrow_1) := List.mem_of_getElem? (i := 118) rfl
set_option maxRecDepth 100000 in
theorem na_127 : (Jvm.Cond.not (Jvm.Cond.eq (Jvm.Term.string "MosaicOfSights$Reader" (105 : Nat)) (Jvm.Term.string "MosaicOfSights$Reader" (111 : Nat)))) ∈ flatC (Jvm.Cond.and given_1 narrow_1) := List.mem_of_getElem? (i := 127) rfl
set_option maxRecDepth 100000 in
theorem na_138 : (Jvm.Cond.not (Jvm.Cond.eq (Jvm.Term.string "MosaicOfSights$Reader" (105 : Nat)) (Jvm.Term.string "MosaicOfSights$Reader" (113 : Nat)))) ∈ flatC (Jvm.Cond.and given_1 narrow_1) := List.mem_of_getElem? (i := 138) rfl
set_option maxRecDepth 100000 in
theorem na_150 : (Jvm.Cond.not (Jvm.Cond.eq (Jvm.Term.string "MosaicOfSights$Reader" (105 : Nat)) (Jvm.Term.string "MosaicOfSights$Reader" (115 : Nat)))) ∈ flatC (Jvm.Cond.and given_1 narrow_1) := List.mem_of_getElem? (i := 150) rfl
set_option maxRecDepth 100000 in
theorem na_166 : (Jvm.Cond.not (Jvm.Cond.eq (Jvm.Term.string "MosaicOfSights$Reader" (105 : Nat)) (Jvm.Term.string "MosaicOfSights$Reader" (117 : Nat)))) ∈ flatC (Jvm.Cond.and given_1 narrow_1) := List.mem_of_getElem? (i := 166) rfl
set_option maxRecDepth 100000 in
theorem na_183 : (Jvm.Cond.not (Jvm.Cond.eq (Jvm.Term.string "MosaicOfSights$Reader" (105 : Nat)) (Jvm.Term.string "MosaicOfSights$Reader" (119 : Nat)))) ∈ flatC (Jvm.Cond.and given_1 narrow_1) := List.mem_of_getElem? (i := 183) rfl
set_option maxRecDepth 100000 in
theorem na_201 : (Jvm.Cond.not (Jvm.Cond.eq (Jvm.Term.string "MosaicOfSights$Reader" (105 : Nat)) (Jvm.Term.string "MosaicOfSights$Reader" (121 : Nat)))) ∈ flatC (Jvm.Cond.and given_1 narrow_1) := List.mem_of_getElem? (i := 201) rfl
set_option maxRecDepth 100000 in
theorem na_217 : (Jvm.Cond.not (Jvm.Cond.eq (Jvm.Term.string "MosaicOfSights$Reader" (105 : Nat)) (Jvm.Term.string "MosaicOfSights$Reader" (122 : Nat)))) ∈ flatC (Jvm.Cond.and given_1 narrow_1) := List.mem_of_getElem? (i := 217) rfl
set_option maxRecDepth 100000 in
theorem na_237 : (Jvm.Cond.not (Jvm.Cond.eq (Jvm.Term.string "MosaicOfSights$Reader" (105 : Nat)) (Jvm.Term.string "MosaicOfSights$Reader" (124 : Nat)))) ∈ flatC (Jvm.Cond.and given_1 narrow_1) := List.mem_of_getElem? (i := 237) rfl
set_option maxRecDepth 100000 in
theorem na_255 : (Jvm.Cond.not (Jvm.Cond.eq (Jvm.Term.string "MosaicOfSights$Reader" (105 : Nat)) (Jvm.Term.string "MosaicOfSights$Reader" (126 : Nat)))) ∈ flatC (Jvm.Cond.and given_1 narrow_1) := List.mem_of_getElem? (i := 255) rfl
set_option maxRecDepth 100000 in
theorem na_119 : (Jvm.Cond.not (Jvm.Cond.eq (Jvm.Term.string "MosaicOfSights$Reader" (107 : Nat)) (Jvm.Term.string "MosaicOfSights$Reader" (109 : Nat)))) ∈ flatC (Jvm.Cond.and given_1 narrow_1) := List.mem_of_getElem? (i := 119) rfl
set_option maxRecDepth 100000 in
theorem na_128 : (Jvm.Cond.not (Jvm.Cond.eq (Jvm.Term.string "MosaicOfSights$Reader" (107 : Nat)) (Jvm.Term.string "MosaicOfSights$Reader" (111 : Nat)))) ∈ flatC (Jvm.Cond.and given_1 narrow_1) := List.mem_of_getElem? (i := 128) rfl
set_option maxRecDepth 100000 in
theorem na_139 : (Jvm.Cond.not (Jvm.Cond.eq (Jvm.Term.string "MosaicOfSights$Reader" (107 : Nat)) (Jvm.Term.string "MosaicOfSights$Reader" (113 : Nat)))) ∈ flatC (Jvm.Cond.and given_1 narrow_1) := List.mem_of_getElem? (i := 139) rfl
set_option maxRecDepth 100000 in
theorem na_151 : (Jvm.Cond.not (Jvm.Cond.eq (Jvm.Term.string "MosaicOfSights$Reader" (107 : Nat)) (Jvm.Term.string "MosaicOfSights$Reader" (115 : Nat)))) ∈ flatC (Jvm.Cond.and given_1 narrow_1) := List.mem_of_getElem? (i := 151) rfl
set_option maxRecDepth 100000 in
theorem na_167 : (Jvm.Cond.not (Jvm.Cond.eq (Jvm.Term.string "MosaicOfSights$Reader" (107 : Nat)) (Jvm.Term.string "MosaicOfSights$Reader" (117 : Nat)))) ∈ flatC (Jvm.Cond.and given_1 narrow_1) := List.mem_of_getElem? (i := 167) rfl
set_option maxRecDepth 100000 in
theorem na_184 : (Jvm.Cond.not (Jvm.Cond.eq (Jvm.Term.string "MosaicOfSights$Reader" (107 : Nat)) (Jvm.Term.string "MosaicOfSights$Reader" (119 : Nat)))) ∈ flatC (Jvm.Cond.and given_1 narrow_1) := List.mem_of_getElem? (i := 184) rfl
set_option maxRecDepth 100000 in
theorem na_202 : (Jvm.Cond.not (Jvm.Cond.eq (Jvm.Term.string "MosaicOfSights$Reader" (107 : Nat)) (Jvm.Term.string "MosaicOfSights$Reader" (121 : Nat)))) ∈ flatC (Jvm.Cond.and given_1 narrow_1) := List.mem_of_getElem? (i := 202) rfl
set_option maxRecDepth 100000 in
theorem na_218 : (Jvm.Cond.not (Jvm.Cond.eq (Jvm.Term.string "MosaicOfSights$Reader" (107 : Nat)) (Jvm.Term.string "MosaicOfSights$Reader" (122 : Nat)))) ∈ flatC (Jvm.Cond.and given_1 narrow_1) := List.mem_of_getElem? (i := 218) rfl
set_option maxRecDepth 100000 in
theorem na_238 : (Jvm.Cond.not (Jvm.Cond.eq (Jvm.Term.string "MosaicOfSights$Reader" (107 : Nat)) (Jvm.Term.string "MosaicOfSights$Reader" (124 : Nat)))) ∈ flatC (Jvm.Cond.and given_1 narrow_1) := List.mem_of_getElem? (i := 238) rfl
set_option maxRecDepth 100000 in
theorem na_256 : (Jvm.Cond.not (Jvm.Cond.eq (Jvm.Term.string "MosaicOfSights$Reader" (107 : Nat)) (Jvm.Term.string "MosaicOfSights$Reader" (126 : Nat)))) ∈ flatC (Jvm.Cond.and given_1 narrow_1) := List.mem_of_getElem? (i := 256) rfl
set_option maxRecDepth 100000 in
theorem na_129 : (Jvm.Cond.not (Jvm.Cond.eq (Jvm.Term.string "MosaicOfSights$Reader" (109 : Nat)) (Jvm.Term.string "MosaicOfSights$Reader" (111 : Nat)))) ∈ flatC (Jvm.Cond.and given_1 narrow_1) := List.mem_of_getElem? (i := 129) rfl
set_option maxRecDepth 100000 in
theorem na_140 : (Jvm.Cond.not (Jvm.Cond.eq (Jvm.Term.string "MosaicOfSights$Reader" (109 : Nat)) (Jvm.Term.string "MosaicOfSights$Reader" (113 : Nat)))) ∈ flatC (Jvm.Cond.and given_1 narrow_1) := List.mem_of_getElem? (i := 140) rfl
set_option maxRecDepth 100000 in
theorem na_152 : (Jvm.Cond.not (Jvm.Cond.eq (Jvm.Term.string "MosaicOfSights$Reader" (109 : Nat)) (Jvm.Term.string "MosaicOfSights$Reader" (115 : Nat)))) ∈ flatC (Jvm.Cond.and given_1 narrow_1) := List.mem_of_getElem? (i := 152) rfl
set_option maxRecDepth 100000 in
theorem na_168 : (Jvm.Cond.not (Jvm.Cond.eq (Jvm.Term.string "MosaicOfSights$Reader" (109 : Nat)) (Jvm.Term.string "MosaicOfSights$Reader" (117 : Nat)))) ∈ flatC (Jvm.Cond.and given_1 narrow_1) := List.mem_of_getElem? (i := 168) rfl
set_option maxRecDepth 100000 in
theorem na_185 : (Jvm.Cond.not (Jvm.Cond.eq (Jvm.Term.string "MosaicOfSights$Reader" (109 : Nat)) (Jvm.Term.string "MosaicOfSights$Reader" (119 : Nat)))) ∈ flatC (Jvm.Cond.and given_1 narrow_1) := List.mem_of_getElem? (i := 185) rfl
set_option maxRecDepth 100000 in
theorem na_203 : (Jvm.Cond.not (Jvm.Cond.eq (Jvm.Term.string "MosaicOfSights$Reader" (109 : Nat)) (Jvm.Term.string "MosaicOfSights$Reader" (121 : Nat)))) ∈ flatC (Jvm.Cond.and given_1 narrow_1) := List.mem_of_getElem? (i := 203) rfl
set_option maxRecDepth 100000 in
theorem na_219 : (Jvm.Cond.not (Jvm.Cond.eq (Jvm.Term.string "MosaicOfSights$Reader" (109 : Nat)) (Jvm.Term.string "MosaicOfSights$Reader" (122 : Nat)))) ∈ flatC (Jvm.Cond.and given_1 narrow_1) := List.mem_of_getElem? (i := 219) rfl
set_option maxRecDepth 100000 in
theorem na_239 : (Jvm.Cond.not (Jvm.Cond.eq (Jvm.Term.string "MosaicOfSights$Reader" (109 : Nat)) (Jvm.Term.string "MosaicOfSights$Reader" (124 : Nat)))) ∈ flatC (Jvm.Cond.and given_1 narrow_1) := List.mem_of_getElem? (i := 239) rfl
set_option maxRecDepth 100000 in
theorem na_257 : (Jvm.Cond.not (Jvm.Cond.eq (Jvm.Term.string "MosaicOfSights$Reader" (109 : Nat)) (Jvm.Term.string "MosaicOfSights$Reader" (126 : Nat)))) ∈ flatC (Jvm.Cond.and given_1 narrow_1) := List.mem_of_getElem? (i := 257) rfl
set_option maxRecDepth 100000 in
theorem na_141 : (Jvm.Cond.not (Jvm.Cond.eq (Jvm.Term.string "MosaicOfSights$Reader" (111 : Nat)) (Jvm.Term.string "MosaicOfSights$Reader" (113 : Nat)))) ∈ flatC (Jvm.Cond.and given_1 narrow_1) := List.mem_of_getElem? (i := 141) rfl
set_option maxRecDepth 100000 in
theorem na_153 : (Jvm.Cond.not (Jvm.Cond.eq (Jvm.Term.string "MosaicOfSights$Reader" (111 : Nat)) (Jvm.Term.string "MosaicOfSights$Reader" (115 : Nat)))) ∈ flatC (Jvm.Cond.and given_1 narrow_1) := List.mem_of_getElem? (i := 153) rfl
set_option maxRecDepth 100000 in
theorem na_169 : (Jvm.Cond.not (Jvm.Cond.eq (Jvm.Term.string "MosaicOfSights$Reader" (111 : Nat)) (Jvm.Term.string "MosaicOfSights$Reader" (117 : Nat)))) ∈ flatC (Jvm.Cond.and given_1 narrow_1) := List.mem_of_getElem? (i := 169) rfl
set_option maxRecDepth 100000 in
theorem na_186 : (Jvm.Cond.not (Jvm.Cond.eq (Jvm.Term.string "MosaicOfSights$Reader" (111 : Nat)) (Jvm.Term.string "MosaicOfSights$Reader" (119 : Nat)))) ∈ flatC (Jvm.Cond.and given_1 narrow_1) := List.mem_of_getElem? (i := 186) rfl
set_option maxRecDepth 100000 in
theorem na_204 : (Jvm.Cond.not (Jvm.Cond.eq (Jvm.Term.string "MosaicOfSights$Reader" (111 : Nat)) (Jvm.Term.string "MosaicOfSights$Reader" (121 : Nat)))) ∈ flatC (Jvm.Cond.and given_1 narrow_1) := List.mem_of_getElem? (i := 204) rfl
set_option maxRecDepth 100000 in
theorem na_220 : (Jvm.Cond.not (Jvm.Cond.eq (Jvm.Term.string "MosaicOfSights$Reader" (111 : Nat)) (Jvm.Term.string "MosaicOfSights$Reader" (122 : Nat)))) ∈ flatC (Jvm.Cond.and given_1 narrow_1) := List.mem_of_getElem? (i := 220) rfl
set_option maxRecDepth 100000 in
theorem na_240 : (Jvm.Cond.not (Jvm.Cond.eq (Jvm.Term.string "MosaicOfSights$Reader" (111 : Nat)) (Jvm.Term.string "MosaicOfSights$Reader" (124 : Nat)))) ∈ flatC (Jvm.Cond.and given_1 narrow_1) := List.mem_of_getElem? (i := 240) rfl
set_option maxRecDepth 100000 in
theorem na_258 : (Jvm.Cond.not (Jvm.Cond.eq (Jvm.Term.string "MosaicOfSights$Reader" (111 : Nat)) (Jvm.Term.string "MosaicOfSights$Reader" (126 : Nat)))) ∈ flatC (Jvm.Cond.and given_1 narrow_1) := List.mem_of_getElem? (i := 258) rfl
set_option maxRecDepth 100000 in
theorem na_154 : (Jvm.Cond.not (Jvm.Cond.eq (Jvm.Term.string "MosaicOfSights$Reader" (113 : Nat)) (Jvm.Term.string "MosaicOfSights$Reader" (115 : Nat)))) ∈ flatC (Jvm.Cond.and given_1 narrow_1) := List.mem_of_getElem? (i := 154) rfl
set_option maxRecDepth 100000 in
theorem na_170 : (Jvm.Cond.not (Jvm.Cond.eq (Jvm.Term.string "MosaicOfSights$Reader" (113 : Nat)) (Jvm.Term.string "MosaicOfSights$Reader" (117 : Nat)))) ∈ flatC (Jvm.Cond.and given_1 narrow_1) := List.mem_of_getElem? (i := 170) rfl
set_option maxRecDepth 100000 in
theorem na_187 : (Jvm.Cond.not (Jvm.Cond.eq (Jvm.Term.string "MosaicOfSights$Reader" (113 : Nat)) (Jvm.Term.string "MosaicOfSights$Reader" (119 : Nat)))) ∈ flatC (Jvm.Cond.and given_1 narrow_1) := List.mem_of_getElem? (i := 187) rfl
set_option maxRecDepth 100000 in
theorem na_205 : (Jvm.Cond.not (Jvm.Cond.eq (Jvm.Term.string "MosaicOfSights$Reader" (113 : Nat)) (Jvm.Term.string "MosaicOfSights$Reader" (121 : Nat)))) ∈ flatC (Jvm.Cond.and given_1 narrow_1) := List.mem_of_getElem? (i := 205) rfl
set_option maxRecDepth 100000 in
theorem na_221 : (Jvm.Cond.not (Jvm.Cond.eq (Jvm.Term.string "MosaicOfSights$Reader" (113 : Nat)) (Jvm.Term.string "MosaicOfSights$Reader" (122 : Nat)))) ∈ flatC (Jvm.Cond.and given_1 narrow_1) := List.mem_of_getElem? (i := 221) rfl
set_option maxRecDepth 100000 in
theorem na_241 : (Jvm.Cond.not (Jvm.Cond.eq (Jvm.Term.string "MosaicOfSights$Reader" (113 : Nat)) (Jvm.Term.string "MosaicOfSights$Reader" (124 : Nat)))) ∈ flatC (Jvm.Cond.and given_1 narrow_1) := List.mem_of_getElem? (i := 241) rfl
set_option maxRecDepth 100000 in
theorem na_259 : (Jvm.Cond.not (Jvm.Cond.eq (Jvm.Term.string "MosaicOfSights$Reader" (113 : Nat)) (Jvm.Term.string "MosaicOfSights$Reader" (126 : Nat)))) ∈ flatC (Jvm.Cond.and given_1 narrow_1) := List.mem_of_getElem? (i := 259) rfl
set_option maxRecDepth 100000 in
theorem na_171 : (Jvm.Cond.not (Jvm.Cond.eq (Jvm.Term.string "MosaicOfSights$Reader" (115 : Nat)) (Jvm.Term.string "MosaicOfSights$Reader" (117 : Nat)))) ∈ flatC (Jvm.Cond.and given_1 narrow_1) := List.mem_of_getElem? (i := 171) rfl
set_option maxRecDepth 100000 in
theorem na_188 : (Jvm.Cond.not (Jvm.Cond.eq (Jvm.Term.string "MosaicOfSights$Reader" (115 : Nat)) (Jvm.Term.string "MosaicOfSights$Reader" (119 : Nat)))) ∈ flatC (Jvm.Cond.and given_1 narrow_1) := List.mem_of_getElem? (i := 188) rfl
set_option maxRecDepth 100000 in
theorem na_206 : (Jvm.Cond.not (Jvm.Cond.eq (Jvm.Term.string "MosaicOfSights$Reader" (115 : Nat)) (Jvm.Term.string "MosaicOfSights$Reader" (121 : Nat)))) ∈ flatC (Jvm.Cond.and given_1 narrow_1) := List.mem_of_getElem? (i := 206) rfl
set_option maxRecDepth 100000 in
theorem na_222 : (Jvm.Cond.not (Jvm.Cond.eq (Jvm.Term.string "MosaicOfSights$Reader" (115 : Nat)) (Jvm.Term.string "MosaicOfSights$Reader" (122 : Nat)))) ∈ flatC (Jvm.Cond.and given_1 narrow_1) := List.mem_of_getElem? (i := 222) rfl
set_option maxRecDepth 100000 in
theorem na_242 : (Jvm.Cond.not (Jvm.Cond.eq (Jvm.Term.string "MosaicOfSights$Reader" (115 : Nat)) (Jvm.Term.string "MosaicOfSights$Reader" (124 : Nat)))) ∈ flatC (Jvm.Cond.and given_1 narrow_1) := List.mem_of_getElem? (i := 242) rfl
set_option maxRecDepth 100000 in
theorem na_260 : (Jvm.Cond.not (Jvm.Cond.eq (Jvm.Term.string "MosaicOfSights$Reader" (115 : Nat)) (Jvm.Term.string "MosaicOfSights$Reader" (126 : Nat)))) ∈ flatC (Jvm.Cond.and given_1 narrow_1) := List.mem_of_getElem? (i := 260) rfl
set_option maxRecDepth 100000 in
theorem na_189 : (Jvm.Cond.not (Jvm.Cond.eq (Jvm.Term.string "MosaicOfSights$Reader" (117 : Nat)) (Jvm.Term.string "MosaicOfSights$Reader" (119 : Nat)))) ∈ flatC (Jvm.Cond.and given_1 narrow_1) := List.mem_of_getElem? (i := 189) rfl
set_option maxRecDepth 100000 in
theorem na_207 : (Jvm.Cond.not (Jvm.Cond.eq (Jvm.Term.string "MosaicOfSights$Reader" (117 : Nat)) (Jvm.Term.string "MosaicOfSights$Reader" (121 : Nat)))) ∈ flatC (Jvm.Cond.and given_1 narrow_1) := List.mem_of_getElem? (i := 207) rfl
set_option maxRecDepth 100000 in
theorem na_223 : (Jvm.Cond.not (Jvm.Cond.eq (Jvm.Term.string "MosaicOfSights$Reader" (117 : Nat)) (Jvm.Term.string "MosaicOfSights$Reader" (122 : Nat)))) ∈ flatC (Jvm.Cond.and given_1 narrow_1) := List.mem_of_getElem? (i := 223) rfl
set_option maxRecDepth 100000 in
theorem na_243 : (Jvm.Cond.not (Jvm.Cond.eq (Jvm.Term.string "MosaicOfSights$Reader" (117 : Nat)) (Jvm.Term.string "MosaicOfSights$Reader" (124 : Nat)))) ∈ flatC (Jvm.Cond.and given_1 narrow_1) := List.mem_of_getElem? (i := 243) rfl
set_option maxRecDepth 100000 in
theorem na_261 : (Jvm.Cond.not (Jvm.Cond.eq (Jvm.Term.string "MosaicOfSights$Reader" (117 : Nat)) (Jvm.Term.string "MosaicOfSights$Reader" (126 : Nat)))) ∈ flatC (Jvm.Cond.and given_1 narrow_1) := List.mem_of_getElem? (i := 261) rfl
set_option maxRecDepth 100000 in
theorem na_208 : (Jvm.Cond.not (Jvm.Cond.eq (Jvm.Term.string "MosaicOfSights$Reader" (119 : Nat)) (Jvm.Term.string "MosaicOfSights$Reader" (121 : Nat)))) ∈ flatC (Jvm.Cond.and given_1 narrow_1) := List.mem_of_getElem? (i := 208) rfl
set_option maxRecDepth 100000 in
theorem na_224 : (Jvm.Cond.not (Jvm.Cond.eq (Jvm.Term.string "MosaicOfSights$Reader" (119 : Nat)) (Jvm.Term.string "MosaicOfSights$Reader" (122 : Nat)))) ∈ flatC (Jvm.Cond.and given_1 narrow_1) := List.mem_of_getElem? (i := 224) rfl
set_option maxRecDepth 100000 in
theorem na_244 : (Jvm.Cond.not (Jvm.Cond.eq (Jvm.Term.string "MosaicOfSights$Reader" (119 : Nat)) (Jvm.Term.string "MosaicOfSights$Reader" (124 : Nat)))) ∈ flatC (Jvm.Cond.and given_1 narrow_1) := List.mem_of_getElem? (i := 244) rfl
set_option maxRecDepth 100000 in
theorem na_262 : (Jvm.Cond.not (Jvm.Cond.eq (Jvm.Term.string "MosaicOfSights$Reader" (119 : Nat)) (Jvm.Term.string "MosaicOfSights$Reader" (126 : Nat)))) ∈ flatC (Jvm.Cond.and given_1 narrow_1) := List.mem_of_getElem? (i := 262) rfl
set_option maxRecDepth 100000 in
theorem na_225 : (Jvm.Cond.not (Jvm.Cond.eq (Jvm.Term.string "MosaicOfSights$Reader" (121 : Nat)) (Jvm.Term.string "MosaicOfSights$Reader" (122 : Nat)))) ∈ flatC (Jvm.Cond.and given_1 narrow_1) := List.mem_of_getElem? (i := 225) rfl
set_option maxRecDepth 100000 in
theorem na_245 : (Jvm.Cond.not (Jvm.Cond.eq (Jvm.Term.string "MosaicOfSights$Reader" (121 : Nat)) (Jvm.Term.string "MosaicOfSights$Reader" (124 : Nat)))) ∈ flatC (Jvm.Cond.and given_1 narrow_1) := List.mem_of_getElem? (i := 245) rfl
set_option maxRecDepth 100000 in
theorem na_263 : (Jvm.Cond.not (Jvm.Cond.eq (Jvm.Term.string "MosaicOfSights$Reader" (121 : Nat)) (Jvm.Term.string "MosaicOfSights$Reader" (126 : Nat)))) ∈ flatC (Jvm.Cond.and given_1 narrow_1) := List.mem_of_getElem? (i := 263) rfl
set_option maxRecDepth 100000 in
theorem na_246 : (Jvm.Cond.not (Jvm.Cond.eq (Jvm.Term.string "MosaicOfSights$Reader" (122 : Nat)) (Jvm.Term.string "MosaicOfSights$Reader" (124 : Nat)))) ∈ flatC (Jvm.Cond.and given_1 narrow_1) := List.mem_of_getElem? (i := 246) rfl
set_option maxRecDepth 100000 in
theorem na_264 : (Jvm.Cond.not (Jvm.Cond.eq (Jvm.Term.string "MosaicOfSights$Reader" (122 : Nat)) (Jvm.Term.string "MosaicOfSights$Reader" (126 : Nat)))) ∈ flatC (Jvm.Cond.and given_1 narrow_1) := List.mem_of_getElem? (i := 264) rfl
set_option maxRecDepth 100000 in
theorem na_265 : (Jvm.Cond.not (Jvm.Cond.eq (Jvm.Term.string "MosaicOfSights$Reader" (124 : Nat)) (Jvm.Term.string "MosaicOfSights$Reader" (126 : Nat)))) ∈ flatC (Jvm.Cond.and given_1 narrow_1) := List.mem_of_getElem? (i := 265) rfl
set_option maxRecDepth 100000 in
theorem na_97 : (Jvm.Cond.not (Jvm.Cond.eq (Jvm.Term.string "MosaicOfSights" (47 : Nat)) (Jvm.Term.string "MosaicOfSights$Reader" (105 : Nat)))) ∈ flatC (Jvm.Cond.and given_1 narrow_1) := List.mem_of_getElem? (i := 97) rfl
set_option maxRecDepth 100000 in
theorem na_106 : (Jvm.Cond.not (Jvm.Cond.eq (Jvm.Term.string "MosaicOfSights" (47 : Nat)) (Jvm.Term.string "MosaicOfSights$Reader" (107 : Nat)))) ∈ flatC (Jvm.Cond.and given_1 narrow_1) := List.mem_of_getElem? (i := 106) rfl
set_option maxRecDepth 100000 in
theorem na_117 : (Jvm.Cond.not (Jvm.Cond.eq (Jvm.Term.string "MosaicOfSights" (47 : Nat)) (Jvm.Term.string "MosaicOfSights$Reader" (109 : Nat)))) ∈ flatC (Jvm.Cond.and given_1 narrow_1) := List.mem_of_getElem? (i := 117) rfl
set_option maxRecDepth 100000 in
theorem na_126 : (Jvm.Cond.not (Jvm.Cond.eq (Jvm.Term.string "MosaicOfSights" (47 : Nat)) (Jvm.Term.string "MosaicOfSights$Reader" (111 : Nat)))) ∈ flatC (Jvm.Cond.and given_1 narrow_1) := List.mem_of_getElem? (i := 126) rfl
set_option maxRecDepth 100000 in
theorem na_137 : (Jvm.Cond.not (Jvm.Cond.eq (Jvm.Term.string "MosaicOfSights" (47 : Nat)) (Jvm.Term.string "MosaicOfSights$Reader" (113 : Nat)))) ∈ flatC (Jvm.Cond.and given_1 narrow_1) := List.mem_of_getElem? (i := 137) rfl
set_option maxRecDepth 100000 in
theorem na_149 : (Jvm.Cond.not (Jvm.Cond.eq (Jvm.Term.string "MosaicOfSights" (47 : Nat)) (Jvm.Term.string "MosaicOfSights$Reader" (115 : Nat)))) ∈ flatC (Jvm.Cond.and given_1 narrow_1) := List.mem_of_getElem? (i := 149) rfl
set_option maxRecDepth 100000 in
theorem na_165 : (Jvm.Cond.not (Jvm.Cond.eq (Jvm.Term.string "MosaicOfSights" (47 : Nat)) (Jvm.Term.string "MosaicOfSights$Reader" (117 : Nat)))) ∈ flatC (Jvm.Cond.and given_1 narrow_1) := List.mem_of_getElem? (i := 165) rfl
set_option maxRecDepth 100000 in
theorem na_182 : (Jvm.Cond.not (Jvm.Cond.eq (Jvm.Term.string "MosaicOfSights" (47 : Nat)) (Jvm.Term.string "MosaicOfSights$Reader" (119 : Nat)))) ∈ flatC (Jvm.Cond.and given_1 narrow_1) := List.mem_of_getElem? (i := 182) rfl
set_option maxRecDepth 100000 in
theorem na_200 : (Jvm.Cond.not (Jvm.Cond.eq (Jvm.Term.string "MosaicOfSights" (47 : Nat)) (Jvm.Term.string "MosaicOfSights$Reader" (121 : Nat)))) ∈ flatC (Jvm.Cond.and given_1 narrow_1) := List.mem_of_getElem? (i := 200) rfl
set_option maxRecDepth 100000 in
theorem na_216 : (Jvm.Cond.not (Jvm.Cond.eq (Jvm.Term.string "MosaicOfSights" (47 : Nat)) (Jvm.Term.string "MosaicOfSights$Reader" (122 : Nat)))) ∈ flatC (Jvm.Cond.and given_1 narrow_1) := List.mem_of_getElem? (i := 216) rfl
set_option maxRecDepth 100000 in
theorem na_236 : (Jvm.Cond.not (Jvm.Cond.eq (Jvm.Term.string "MosaicOfSights" (47 : Nat)) (Jvm.Term.string "MosaicOfSights$Reader" (124 : Nat)))) ∈ flatC (Jvm.Cond.and given_1 narrow_1) := List.mem_of_getElem? (i := 236) rfl
set_option maxRecDepth 100000 in
theorem na_254 : (Jvm.Cond.not (Jvm.Cond.eq (Jvm.Term.string "MosaicOfSights" (47 : Nat)) (Jvm.Term.string "MosaicOfSights$Reader" (126 : Nat)))) ∈ flatC (Jvm.Cond.and given_1 narrow_1) := List.mem_of_getElem? (i := 254) rfl
set_option maxRecDepth 100000 in
theorem na_10 : (Jvm.Cond.arrayOf (Jvm.Term.static "MosaicOfSights" "GREATEST" "[I") Jvm.ClassFile.FieldType.int) ∈ flatC (Jvm.Cond.and given_1 narrow_1) := List.mem_of_getElem? (i := 10) rfl
set_option maxRecDepth 100000 in
theorem na_11 : (Jvm.Cond.eq (Jvm.Term.length (Jvm.Term.static "MosaicOfSights" "GREATEST" "[I")) (Jvm.Term.int (8 : Int32))) ∈ flatC (Jvm.Cond.and given_1 narrow_1) := List.mem_of_getElem? (i := 11) rfl
set_option maxRecDepth 100000 in
theorem na_12 : (Jvm.Cond.eq (Jvm.Term.elem (Jvm.Term.static "MosaicOfSights" "GREATEST" "[I") (Jvm.Term.int (0 : Int32))) (Jvm.Term.int (999 : Int32))) ∈ flatC (Jvm.Cond.and given_1 narrow_1) := List.mem_of_getElem? (i := 12) rfl
set_option maxRecDepth 100000 in
theorem na_13 : (Jvm.Cond.eq (Jvm.Term.elem (Jvm.Term.static "MosaicOfSights" "GREATEST" "[I") (Jvm.Term.int (1 : Int32))) (Jvm.Term.int (3 : Int32))) ∈ flatC (Jvm.Cond.and given_1 narrow_1) := List.mem_of_getElem? (i := 13) rfl
set_option maxRecDepth 100000 in
theorem na_14 : (Jvm.Cond.eq (Jvm.Term.elem (Jvm.Term.static "MosaicOfSights" "GREATEST" "[I") (Jvm.Term.int (2 : Int32))) (Jvm.Term.int (1 : Int32))) ∈ flatC (Jvm.Cond.and given_1 narrow_1) := List.mem_of_getElem? (i := 14) rfl
set_option maxRecDepth 100000 in
theorem na_15 : (Jvm.Cond.eq (Jvm.Term.elem (Jvm.Term.static "MosaicOfSights" "GREATEST" "[I") (Jvm.Term.int (3 : Int32))) (Jvm.Term.int (99 : Int32))) ∈ flatC (Jvm.Cond.and given_1 narrow_1) := List.mem_of_getElem? (i := 15) rfl
set_option maxRecDepth 100000 in
theorem na_16 : (Jvm.Cond.eq (Jvm.Term.elem (Jvm.Term.static "MosaicOfSights" "GREATEST" "[I") (Jvm.Term.int (4 : Int32))) (Jvm.Term.int (9 : Int32))) ∈ flatC (Jvm.Cond.and given_1 narrow_1) := List.mem_of_getElem? (i := 16) rfl
set_option maxRecDepth 100000 in
theorem na_17 : (Jvm.Cond.eq (Jvm.Term.elem (Jvm.Term.static "MosaicOfSights" "GREATEST" "[I") (Jvm.Term.int (5 : Int32))) (Jvm.Term.int (3 : Int32))) ∈ flatC (Jvm.Cond.and given_1 narrow_1) := List.mem_of_getElem? (i := 17) rfl
set_option maxRecDepth 100000 in
theorem na_18 : (Jvm.Cond.eq (Jvm.Term.elem (Jvm.Term.static "MosaicOfSights" "GREATEST" "[I") (Jvm.Term.int (6 : Int32))) (Jvm.Term.int (99 : Int32))) ∈ flatC (Jvm.Cond.and given_1 narrow_1) := List.mem_of_getElem? (i := 18) rfl
set_option maxRecDepth 100000 in
theorem na_19 : (Jvm.Cond.eq (Jvm.Term.elem (Jvm.Term.static "MosaicOfSights" "GREATEST" "[I") (Jvm.Term.int (7 : Int32))) (Jvm.Term.int (99 : Int32))) ∈ flatC (Jvm.Cond.and given_1 narrow_1) := List.mem_of_getElem? (i := 19) rfl
set_option maxRecDepth 100000 in
theorem na_21 : (Jvm.Cond.arrayOf (Jvm.Term.static "MosaicOfSights" "ABOVE" "[I") Jvm.ClassFile.FieldType.int) ∈ flatC (Jvm.Cond.and given_1 narrow_1) := List.mem_of_getElem? (i := 21) rfl
set_option maxRecDepth 100000 in
theorem na_22 : (Jvm.Cond.eq (Jvm.Term.length (Jvm.Term.static "MosaicOfSights" "ABOVE" "[I")) (Jvm.Term.int (6 : Int32))) ∈ flatC (Jvm.Cond.and given_1 narrow_1) := List.mem_of_getElem? (i := 22) rfl
set_option maxRecDepth 100000 in
theorem na_23 : (Jvm.Cond.eq (Jvm.Term.elem (Jvm.Term.static "MosaicOfSights" "ABOVE" "[I") (Jvm.Term.int (0 : Int32))) (Jvm.Term.int (-1 : Int32))) ∈ flatC (Jvm.Cond.and given_1 narrow_1) := List.mem_of_getElem? (i := 23) rfl
set_option maxRecDepth 100000 in
theorem na_24 : (Jvm.Cond.eq (Jvm.Term.elem (Jvm.Term.static "MosaicOfSights" "ABOVE" "[I") (Jvm.Term.int (1 : Int32))) (Jvm.Term.int (0 : Int32))) ∈ flatC (Jvm.Cond.and given_1 narrow_1) := List.mem_of_getElem? (i := 24) rfl
set_option maxRecDepth 100000 in
theorem na_25 : (Jvm.Cond.eq (Jvm.Term.elem (Jvm.Term.static "MosaicOfSights" "ABOVE" "[I") (Jvm.Term.int (2 : Int32))) (Jvm.Term.int (0 : Int32))) ∈ flatC (Jvm.Cond.and given_1 narrow_1) := List.mem_of_getElem? (i := 25) rfl
set_option maxRecDepth 100000 in
theorem na_26 : (Jvm.Cond.eq (Jvm.Term.elem (Jvm.Term.static "MosaicOfSights" "ABOVE" "[I") (Jvm.Term.int (3 : Int32))) (Jvm.Term.int (1 : Int32))) ∈ flatC (Jvm.Cond.and given_1 narrow_1) := List.mem_of_getElem? (i := 26) rfl
set_option maxRecDepth 100000 in
theorem na_27 : (Jvm.Cond.eq (Jvm.Term.elem (Jvm.Term.static "MosaicOfSights" "ABOVE" "[I") (Jvm.Term.int (4 : Int32))) (Jvm.Term.int (2 : Int32))) ∈ flatC (Jvm.Cond.and given_1 narrow_1) := List.mem_of_getElem? (i := 27) rfl
set_option maxRecDepth 100000 in
theorem na_28 : (Jvm.Cond.eq (Jvm.Term.elem (Jvm.Term.static "MosaicOfSights" "ABOVE" "[I") (Jvm.Term.int (5 : Int32))) (Jvm.Term.int (0 : Int32))) ∈ flatC (Jvm.Cond.and given_1 narrow_1) := List.mem_of_getElem? (i := 28) rfl
set_option maxRecDepth 100000 in
theorem na_4 : (Jvm.Cond.eq (Jvm.Term.static "java/lang/String" "COMPACT_STRINGS" "Z") (Jvm.Term.int (1 : Int32))) ∈ flatC (Jvm.Cond.and given_1 narrow_1) := List.mem_of_getElem? (i := 4) rfl
set_option maxRecDepth 100000 in
theorem na_5 : (Jvm.Cond.isRef (Jvm.Term.static "jdk/internal/util/Preconditions" "SIOOBE_FORMATTER" "Ljava/util/function/BiFunction;")) ∈ flatC (Jvm.Cond.and given_1 narrow_1) := List.mem_of_getElem? (i := 5) rfl
set_option maxRecDepth 100000 in
theorem ini_MosaicOfSights : Cond.initialized "MosaicOfSights" ∈ lw_tbl := by
  have h : Cond.initialized "MosaicOfSights" ∈ tables_1_1 := List.mem_of_getElem? (i := 1) rfl
  exact List.mem_append_right _ (List.mem_append_left _ h)
set_option maxRecDepth 100000 in
theorem ini_java_lang_String : Cond.initialized "java/lang/String" ∈ lw_tbl := by
  have h : Cond.initialized "java/lang/String" ∈ tables_1_1 := List.mem_of_getElem? (i := 7) rfl
  exact List.mem_append_right _ (List.mem_append_left _ h)
set_option maxRecDepth 100000 in
theorem ini_jdk_internal_util_Preconditions : Cond.initialized "jdk/internal/util/Preconditions" ∈ lw_tbl := by
  have h : Cond.initialized "jdk/internal/util/Preconditions" ∈ tables_1_1 := List.mem_of_getElem? (i := 9) rfl
  exact List.mem_append_right _ (List.mem_append_left _ h)
set_option maxRecDepth 100000 in
theorem aoText : Cond.arrayOver (.object "MosaicOfSights$Text") ∈ lw_tbl := by
  have h : Cond.arrayOver (.object "MosaicOfSights$Text") ∈ tables_1_1 := List.mem_of_getElem? (i := 91) rfl
  exact List.mem_append_right _ (List.mem_append_left _ h)
set_option maxRecDepth 100000 in
theorem nlB : Cond.methodLinkNest RX1 25 yX3_init "MosaicOfSights" ∈ lw_tbl := by
  have h : Cond.methodLinkNest RX1 25 yX3_init "MosaicOfSights" ∈ tables_1_1 := List.mem_of_getElem? (i := 93) rfl
  exact List.mem_append_right _ (List.mem_append_left _ h)
set_option maxRecDepth 100000 in
theorem nlC : Cond.methodLinkNest RX5 35 yX0_init "MosaicOfSights" ∈ lw_tbl := by
  have h : Cond.methodLinkNest RX5 35 yX0_init "MosaicOfSights" ∈ tables_1_1 := List.mem_of_getElem? (i := 123) rfl
  exact List.mem_append_right _ (List.mem_append_left _ h)
set_option maxRecDepth 100000 in
theorem aoSheet : Cond.arrayOver (.object "MosaicOfSights$Sheet") ∈ lw_tbl := by
  have h : Cond.arrayOver (.object "MosaicOfSights$Sheet") ∈ tables_1_1 := List.mem_of_getElem? (i := 148) rfl
  exact List.mem_append_right _ (List.mem_append_left _ h)
set_option maxRecDepth 100000 in
theorem nlD : Cond.methodLinkNest RX5 46 yX2_init "MosaicOfSights" ∈ lw_tbl := by
  have h : Cond.methodLinkNest RX5 46 yX2_init "MosaicOfSights" ∈ tables_1_1 := List.mem_of_getElem? (i := 150) rfl
  exact List.mem_append_right _ (List.mem_append_left _ h)
set_option maxRecDepth 100000 in
theorem sref_12 : Cond.stringRef "MosaicOfSights" 47 "needs 2 ; sees day ; turns day + number ;" ∈ lw_tbl := by
  have h : Cond.stringRef "MosaicOfSights" 47 "needs 2 ; sees day ; turns day + number ;" ∈ tables_1_1 := List.mem_of_getElem? (i := 167) rfl
  exact List.mem_append_right _ (List.mem_append_left _ h)
set_option maxRecDepth 100000 in
theorem lsta_COMPACT_STRINGS : Cond.laysStatic "java/lang/String" "COMPACT_STRINGS" "Z" ∈ lw_tbl := by
  have h : Cond.laysStatic "java/lang/String" "COMPACT_STRINGS" "Z" ∈ tables_1_1 := List.mem_of_getElem? (i := 177) rfl
  exact List.mem_append_right _ (List.mem_append_left _ h)
set_option maxRecDepth 100000 in
theorem lsta_SIOOBE_FORMATTER : Cond.laysStatic "jdk/internal/util/Preconditions" "SIOOBE_FORMATTER" "Ljava/util/function/BiFunction;" ∈ lw_tbl := by
  have h : Cond.laysStatic "jdk/internal/util/Preconditions" "SIOOBE_FORMATTER" "Ljava/util/function/BiFunction;" ∈ tables_1_1 := List.mem_of_getElem? (i := 193) rfl
  exact List.mem_append_right _ (List.mem_append_left _ h)
set_option maxRecDepth 100000 in
theorem sref_0 : Cond.stringRef "MosaicOfSights$Reader" 105 "needs" ∈ lw_tbl := by
  have h : Cond.stringRef "MosaicOfSights$Reader" 105 "needs" ∈ tables_1_2 := List.mem_of_getElem? (i := 2) rfl
  exact List.mem_append_right _ (List.mem_append_right _ (List.mem_append_left _ h))
set_option maxRecDepth 100000 in
theorem sref_1 : Cond.stringRef "MosaicOfSights$Reader" 107 "sees" ∈ lw_tbl := by
  have h : Cond.stringRef "MosaicOfSights$Reader" 107 "sees" ∈ tables_1_2 := List.mem_of_getElem? (i := 3) rfl
  exact List.mem_append_right _ (List.mem_append_right _ (List.mem_append_left _ h))
set_option maxRecDepth 100000 in
theorem sref_2 : Cond.stringRef "MosaicOfSights$Reader" 109 "turns" ∈ lw_tbl := by
  have h : Cond.stringRef "MosaicOfSights$Reader" 109 "turns" ∈ tables_1_2 := List.mem_of_getElem? (i := 4) rfl
  exact List.mem_append_right _ (List.mem_append_right _ (List.mem_append_left _ h))
set_option maxRecDepth 100000 in
theorem sref_3 : Cond.stringRef "MosaicOfSights$Reader" 111 "or" ∈ lw_tbl := by
  have h : Cond.stringRef "MosaicOfSights$Reader" 111 "or" ∈ tables_1_2 := List.mem_of_getElem? (i := 5) rfl
  exact List.mem_append_right _ (List.mem_append_right _ (List.mem_append_left _ h))
set_option maxRecDepth 100000 in
theorem sref_4 : Cond.stringRef "MosaicOfSights$Reader" 113 "and" ∈ lw_tbl := by
  have h : Cond.stringRef "MosaicOfSights$Reader" 113 "and" ∈ tables_1_2 := List.mem_of_getElem? (i := 6) rfl
  exact List.mem_append_right _ (List.mem_append_right _ (List.mem_append_left _ h))
set_option maxRecDepth 100000 in
theorem sref_5 : Cond.stringRef "MosaicOfSights$Reader" 115 "not" ∈ lw_tbl := by
  have h : Cond.stringRef "MosaicOfSights$Reader" 115 "not" ∈ tables_1_2 := List.mem_of_getElem? (i := 7) rfl
  exact List.mem_append_right _ (List.mem_append_right _ (List.mem_append_left _ h))
set_option maxRecDepth 100000 in
theorem sref_6 : Cond.stringRef "MosaicOfSights$Reader" 117 "looked" ∈ lw_tbl := by
  have h : Cond.stringRef "MosaicOfSights$Reader" 117 "looked" ∈ tables_1_2 := List.mem_of_getElem? (i := 8) rfl
  exact List.mem_append_right _ (List.mem_append_right _ (List.mem_append_left _ h))
set_option maxRecDepth 100000 in
theorem sref_7 : Cond.stringRef "MosaicOfSights$Reader" 119 "colour" ∈ lw_tbl := by
  have h : Cond.stringRef "MosaicOfSights$Reader" 119 "colour" ∈ tables_1_2 := List.mem_of_getElem? (i := 9) rfl
  exact List.mem_append_right _ (List.mem_append_right _ (List.mem_append_left _ h))
set_option maxRecDepth 100000 in
theorem sref_8 : Cond.stringRef "MosaicOfSights$Reader" 121 "number" ∈ lw_tbl := by
  have h : Cond.stringRef "MosaicOfSights$Reader" 121 "number" ∈ tables_1_2 := List.mem_of_getElem? (i := 10) rfl
  exact List.mem_append_right _ (List.mem_append_right _ (List.mem_append_left _ h))
set_option maxRecDepth 100000 in
theorem sref_9 : Cond.stringRef "MosaicOfSights$Reader" 122 "day" ∈ lw_tbl := by
  have h : Cond.stringRef "MosaicOfSights$Reader" 122 "day" ∈ tables_1_2 := List.mem_of_getElem? (i := 11) rfl
  exact List.mem_append_right _ (List.mem_append_right _ (List.mem_append_left _ h))
set_option maxRecDepth 100000 in
theorem sref_10 : Cond.stringRef "MosaicOfSights$Reader" 124 "filled" ∈ lw_tbl := by
  have h : Cond.stringRef "MosaicOfSights$Reader" 124 "filled" ∈ tables_1_2 := List.mem_of_getElem? (i := 12) rfl
  exact List.mem_append_right _ (List.mem_append_right _ (List.mem_append_left _ h))
set_option maxRecDepth 100000 in
theorem sref_11 : Cond.stringRef "MosaicOfSights$Reader" 126 "box" ∈ lw_tbl := by
  have h : Cond.stringRef "MosaicOfSights$Reader" 126 "box" ∈ tables_1_2 := List.mem_of_getElem? (i := 13) rfl
  exact List.mem_append_right _ (List.mem_append_right _ (List.mem_append_left _ h))
set_option maxRecDepth 100000 in
theorem lsta_GREATEST : Cond.laysStatic "MosaicOfSights" "GREATEST" "[I" ∈ lw_tbl := by
  have h : Cond.laysStatic "MosaicOfSights" "GREATEST" "[I" ∈ tables_1_2 := List.mem_of_getElem? (i := 109) rfl
  exact List.mem_append_right _ (List.mem_append_right _ (List.mem_append_left _ h))
set_option maxRecDepth 100000 in
theorem nlA : Cond.methodLinkNest RX1 99 yX5_isIn "MosaicOfSights" ∈ lw_tbl := by
  have h : Cond.methodLinkNest RX1 99 yX5_isIn "MosaicOfSights" ∈ tables_1_2 := List.mem_of_getElem? (i := 155) rfl
  exact List.mem_append_right _ (List.mem_append_right _ (List.mem_append_left _ h))
set_option maxRecDepth 100000 in
theorem lsta_ABOVE : Cond.laysStatic "MosaicOfSights" "ABOVE" "[I" ∈ lw_tbl := by
  have h : Cond.laysStatic "MosaicOfSights" "ABOVE" "[I" ∈ tables_1_3 := List.mem_of_getElem? (i := 160) rfl
  exact List.mem_append_right _ (List.mem_append_right _ (List.mem_append_right _ (List.mem_append_left _ h)))
set_option maxRecDepth 100000 in
set_option maxHeartbeats 4000000 in
theorem sf_of {s : State} {b : Nat} (hts : ∀ w ∈ lw_tbl, w.before #[Value.ref b] s = true) (hgv : (Jvm.Cond.and given_1 narrow_1).before #[Value.ref b] s = true) : ∃ z : Nat → Nat, SF z (fun q => s.heap.size ≤ q) s := by
  have hs := flat_of_before _ hgv
  have hA : ∀ a : Nat, a < s.heap.size → ¬ (fun q => s.heap.size ≤ q) a := fun a h q => absurd h (Nat.not_lt.mpr q)
  obtain ⟨tG, eG, TGv⟩ := va_Tof (f := fun j => .int (grt j)) (N := 8) (A := fun q => s.heap.size ≤ q) (by decide) (hs _ na_10) (va_eqt (hs _ na_11)) (by
    intro j hj
    rcases (by omega : j = 0 ∨ j = 1 ∨ j = 2 ∨ j = 3 ∨ j = 4 ∨ j = 5 ∨ j = 6 ∨ j = 7) with rfl | rfl | rfl | rfl | rfl | rfl | rfl | rfl
    · exact va_eqt (hs _ na_12)
    · exact va_eqt (hs _ na_13)
    · exact va_eqt (hs _ na_14)
    · exact va_eqt (hs _ na_15)
    · exact va_eqt (hs _ na_16)
    · exact va_eqt (hs _ na_17)
    · exact va_eqt (hs _ na_18)
    · exact va_eqt (hs _ na_19)) hA
  obtain ⟨tB, eB, TBv⟩ := va_Tof (f := fun j => .int (abv j)) (N := 6) (A := fun q => s.heap.size ≤ q) (by decide) (hs _ na_21) (va_eqt (hs _ na_22)) (by
    intro j hj
    rcases (by omega : j = 0 ∨ j = 1 ∨ j = 2 ∨ j = 3 ∨ j = 4 ∨ j = 5) with rfl | rfl | rfl | rfl | rfl | rfl
    · exact va_eqt (hs _ na_23)
    · exact va_eqt (hs _ na_24)
    · exact va_eqt (hs _ na_25)
    · exact va_eqt (hs _ na_26)
    · exact va_eqt (hs _ na_27)
    · exact va_eqt (hs _ na_28)) hA
  obtain ⟨adK, adV, hK, hKe⟩ := vk_Sof (N := 13) (tm := fun i => Term.string (strO i) (strI i)) (len := strL) (byt := strB) (A := fun q => s.heap.size ≤ q) (args := #[Value.ref b]) (s := s) (by decide)
    (by intro i hi
        rcases (by omega : i = 0 ∨ i = 1 ∨ i = 2 ∨ i = 3 ∨ i = 4 ∨ i = 5 ∨ i = 6 ∨ i = 7 ∨ i = 8 ∨ i = 9 ∨ i = 10 ∨ i = 11 ∨ i = 12) with rfl | rfl | rfl | rfl | rfl | rfl | rfl | rfl | rfl | rfl | rfl | rfl | rfl
        · exact hs _ na_88
        · exact hs _ na_98
        · exact hs _ na_108
        · exact hs _ na_120
        · exact hs _ na_130
        · exact hs _ na_142
        · exact hs _ na_155
        · exact hs _ na_172
        · exact hs _ na_190
        · exact hs _ na_209
        · exact hs _ na_226
        · exact hs _ na_247
        · exact hs _ na_43)
    (by intro i hi
        rcases (by omega : i = 0 ∨ i = 1 ∨ i = 2 ∨ i = 3 ∨ i = 4 ∨ i = 5 ∨ i = 6 ∨ i = 7 ∨ i = 8 ∨ i = 9 ∨ i = 10 ∨ i = 11 ∨ i = 12) with rfl | rfl | rfl | rfl | rfl | rfl | rfl | rfl | rfl | rfl | rfl | rfl | rfl
        · exact hs _ na_89
        · exact hs _ na_99
        · exact hs _ na_109
        · exact hs _ na_121
        · exact hs _ na_131
        · exact hs _ na_143
        · exact hs _ na_156
        · exact hs _ na_173
        · exact hs _ na_191
        · exact hs _ na_210
        · exact hs _ na_227
        · exact hs _ na_248
        · exact hs _ na_44)
    (by intro i hi
        rcases (by omega : i = 0 ∨ i = 1 ∨ i = 2 ∨ i = 3 ∨ i = 4 ∨ i = 5 ∨ i = 6 ∨ i = 7 ∨ i = 8 ∨ i = 9 ∨ i = 10 ∨ i = 11 ∨ i = 12) with rfl | rfl | rfl | rfl | rfl | rfl | rfl | rfl | rfl | rfl | rfl | rfl | rfl
        · exact hs _ na_90
        · exact hs _ na_100
        · exact hs _ na_110
        · exact hs _ na_122
        · exact hs _ na_132
        · exact hs _ na_144
        · exact hs _ na_157
        · exact hs _ na_174
        · exact hs _ na_192
        · exact hs _ na_211
        · exact hs _ na_228
        · exact hs _ na_249
        · exact hs _ na_45)
    (by intro i hi
        rcases (by omega : i = 0 ∨ i = 1 ∨ i = 2 ∨ i = 3 ∨ i = 4 ∨ i = 5 ∨ i = 6 ∨ i = 7 ∨ i = 8 ∨ i = 9 ∨ i = 10 ∨ i = 11 ∨ i = 12) with rfl | rfl | rfl | rfl | rfl | rfl | rfl | rfl | rfl | rfl | rfl | rfl | rfl
        · exact hs _ na_91
        · exact hs _ na_101
        · exact hs _ na_111
        · exact hs _ na_123
        · exact hs _ na_133
        · exact hs _ na_145
        · exact hs _ na_158
        · exact hs _ na_175
        · exact hs _ na_193
        · exact hs _ na_212
        · exact hs _ na_229
        · exact hs _ na_250
        · exact hs _ na_46)
    (by intro i hi j hj
        rcases (by omega : i = 0 ∨ i = 1 ∨ i = 2 ∨ i = 3 ∨ i = 4 ∨ i = 5 ∨ i = 6 ∨ i = 7 ∨ i = 8 ∨ i = 9 ∨ i = 10 ∨ i = 11 ∨ i = 12) with rfl | rfl | rfl | rfl | rfl | rfl | rfl | rfl | rfl | rfl | rfl | rfl | rfl
        · have hj : j < 5 := hj
          rcases (by omega : j = 0 ∨ j = 1 ∨ j = 2 ∨ j = 3 ∨ j = 4) with rfl | rfl | rfl | rfl | rfl
          · exact hs _ na_92
          · exact hs _ na_93
          · exact hs _ na_94
          · exact hs _ na_95
          · exact hs _ na_96
        · have hj : j < 4 := hj
          rcases (by omega : j = 0 ∨ j = 1 ∨ j = 2 ∨ j = 3) with rfl | rfl | rfl | rfl
          · exact hs _ na_102
          · exact hs _ na_103
          · exact hs _ na_104
          · exact hs _ na_105
        · have hj : j < 5 := hj
          rcases (by omega : j = 0 ∨ j = 1 ∨ j = 2 ∨ j = 3 ∨ j = 4) with rfl | rfl | rfl | rfl | rfl
          · exact hs _ na_112
          · exact hs _ na_113
          · exact hs _ na_114
          · exact hs _ na_115
          · exact hs _ na_116
        · have hj : j < 2 := hj
          rcases (by omega : j = 0 ∨ j = 1) with rfl | rfl
          · exact hs _ na_124
          · exact hs _ na_125
        · have hj : j < 3 := hj
          rcases (by omega : j = 0 ∨ j = 1 ∨ j = 2) with rfl | rfl | rfl
          · exact hs _ na_134
          · exact hs _ na_135
          · exact hs _ na_136
        · have hj : j < 3 := hj
          rcases (by omega : j = 0 ∨ j = 1 ∨ j = 2) with rfl | rfl | rfl
          · exact hs _ na_146
          · exact hs _ na_147
          · exact hs _ na_148
        · have hj : j < 6 := hj
          rcases (by omega : j = 0 ∨ j = 1 ∨ j = 2 ∨ j = 3 ∨ j = 4 ∨ j = 5) with rfl | rfl | rfl | rfl | rfl | rfl
          · exact hs _ na_159
          · exact hs _ na_160
          · exact hs _ na_161
          · exact hs _ na_162
          · exact hs _ na_163
          · exact hs _ na_164
        · have hj : j < 6 := hj
          rcases (by omega : j = 0 ∨ j = 1 ∨ j = 2 ∨ j = 3 ∨ j = 4 ∨ j = 5) with rfl | rfl | rfl | rfl | rfl | rfl
          · exact hs _ na_176
          · exact hs _ na_177
          · exact hs _ na_178
          · exact hs _ na_179
          · exact hs _ na_180
          · exact hs _ na_181
        · have hj : j < 6 := hj
          rcases (by omega : j = 0 ∨ j = 1 ∨ j = 2 ∨ j = 3 ∨ j = 4 ∨ j = 5) with rfl | rfl | rfl | rfl | rfl | rfl
          · exact hs _ na_194
          · exact hs _ na_195
          · exact hs _ na_196
          · exact hs _ na_197
          · exact hs _ na_198
          · exact hs _ na_199
        · have hj : j < 3 := hj
          rcases (by omega : j = 0 ∨ j = 1 ∨ j = 2) with rfl | rfl | rfl
          · exact hs _ na_213
          · exact hs _ na_214
          · exact hs _ na_215
        · have hj : j < 6 := hj
          rcases (by omega : j = 0 ∨ j = 1 ∨ j = 2 ∨ j = 3 ∨ j = 4 ∨ j = 5) with rfl | rfl | rfl | rfl | rfl | rfl
          · exact hs _ na_230
          · exact hs _ na_231
          · exact hs _ na_232
          · exact hs _ na_233
          · exact hs _ na_234
          · exact hs _ na_235
        · have hj : j < 3 := hj
          rcases (by omega : j = 0 ∨ j = 1 ∨ j = 2) with rfl | rfl | rfl
          · exact hs _ na_251
          · exact hs _ na_252
          · exact hs _ na_253
        · have hj : j < 41 := hj
          rcases (by omega : j = 0 ∨ j = 1 ∨ j = 2 ∨ j = 3 ∨ j = 4 ∨ j = 5 ∨ j = 6 ∨ j = 7 ∨ j = 8 ∨ j = 9 ∨ j = 10 ∨ j = 11 ∨ j = 12 ∨ j = 13 ∨ j = 14 ∨ j = 15 ∨ j = 16 ∨ j = 17 ∨ j = 18 ∨ j = 19 ∨ j = 20 ∨ j = 21 ∨ j = 22 ∨ j = 23 ∨ j = 24 ∨ j = 25 ∨ j = 26 ∨ j = 27 ∨ j = 28 ∨ j = 29 ∨ j = 30 ∨ j = 31 ∨ j = 32 ∨ j = 33 ∨ j = 34 ∨ j = 35 ∨ j = 36 ∨ j = 37 ∨ j = 38 ∨ j = 39 ∨ j = 40) with rfl | rfl | rfl | rfl | rfl | rfl | rfl | rfl | rfl | rfl | rfl | rfl | rfl | rfl | rfl | rfl | rfl | rfl | rfl | rfl | rfl | rfl | rfl | rfl | rfl | rfl | rfl | rfl | rfl | rfl | rfl | rfl | rfl | rfl | rfl | rfl | rfl | rfl | rfl | rfl | rfl
          · exact hs _ na_47
          · exact hs _ na_48
          · exact hs _ na_49
          · exact hs _ na_50
          · exact hs _ na_51
          · exact hs _ na_52
          · exact hs _ na_53
          · exact hs _ na_54
          · exact hs _ na_55
          · exact hs _ na_56
          · exact hs _ na_57
          · exact hs _ na_58
          · exact hs _ na_59
          · exact hs _ na_60
          · exact hs _ na_61
          · exact hs _ na_62
          · exact hs _ na_63
          · exact hs _ na_64
          · exact hs _ na_65
          · exact hs _ na_66
          · exact hs _ na_67
          · exact hs _ na_68
          · exact hs _ na_69
          · exact hs _ na_70
          · exact hs _ na_71
          · exact hs _ na_72
          · exact hs _ na_73
          · exact hs _ na_74
          · exact hs _ na_75
          · exact hs _ na_76
          · exact hs _ na_77
          · exact hs _ na_78
          · exact hs _ na_79
          · exact hs _ na_80
          · exact hs _ na_81
          · exact hs _ na_82
          · exact hs _ na_83
          · exact hs _ na_84
          · exact hs _ na_85
          · exact hs _ na_86
          · exact hs _ na_87)
    (by intro i j hi hj hij
        rcases (by omega : i = 0 ∨ i = 1 ∨ i = 2 ∨ i = 3 ∨ i = 4 ∨ i = 5 ∨ i = 6 ∨ i = 7 ∨ i = 8 ∨ i = 9 ∨ i = 10 ∨ i = 11 ∨ i = 12) with rfl | rfl | rfl | rfl | rfl | rfl | rfl | rfl | rfl | rfl | rfl | rfl | rfl
        · rcases (by omega : j = 0 ∨ j = 1 ∨ j = 2 ∨ j = 3 ∨ j = 4 ∨ j = 5 ∨ j = 6 ∨ j = 7 ∨ j = 8 ∨ j = 9 ∨ j = 10 ∨ j = 11 ∨ j = 12) with rfl | rfl | rfl | rfl | rfl | rfl | rfl | rfl | rfl | rfl | rfl | rfl | rfl
          · exact absurd rfl hij
          · exact Or.inl (hs _ na_107)
          · exact Or.inl (hs _ na_118)
          · exact Or.inl (hs _ na_127)
          · exact Or.inl (hs _ na_138)
          · exact Or.inl (hs _ na_150)
          · exact Or.inl (hs _ na_166)
          · exact Or.inl (hs _ na_183)
          · exact Or.inl (hs _ na_201)
          · exact Or.inl (hs _ na_217)
          · exact Or.inl (hs _ na_237)
          · exact Or.inl (hs _ na_255)
          · exact Or.inr (hs _ na_97)
        · rcases (by omega : j = 0 ∨ j = 1 ∨ j = 2 ∨ j = 3 ∨ j = 4 ∨ j = 5 ∨ j = 6 ∨ j = 7 ∨ j = 8 ∨ j = 9 ∨ j = 10 ∨ j = 11 ∨ j = 12) with rfl | rfl | rfl | rfl | rfl | rfl | rfl | rfl | rfl | rfl | rfl | rfl | rfl
          · exact Or.inr (hs _ na_107)
          · exact absurd rfl hij
          · exact Or.inl (hs _ na_119)
          · exact Or.inl (hs _ na_128)
          · exact Or.inl (hs _ na_139)
          · exact Or.inl (hs _ na_151)
          · exact Or.inl (hs _ na_167)
          · exact Or.inl (hs _ na_184)
          · exact Or.inl (hs _ na_202)
          · exact Or.inl (hs _ na_218)
          · exact Or.inl (hs _ na_238)
          · exact Or.inl (hs _ na_256)
          · exact Or.inr (hs _ na_106)
        · rcases (by omega : j = 0 ∨ j = 1 ∨ j = 2 ∨ j = 3 ∨ j = 4 ∨ j = 5 ∨ j = 6 ∨ j = 7 ∨ j = 8 ∨ j = 9 ∨ j = 10 ∨ j = 11 ∨ j = 12) with rfl | rfl | rfl | rfl | rfl | rfl | rfl | rfl | rfl | rfl | rfl | rfl | rfl
          · exact Or.inr (hs _ na_118)
          · exact Or.inr (hs _ na_119)
          · exact absurd rfl hij
          · exact Or.inl (hs _ na_129)
          · exact Or.inl (hs _ na_140)
          · exact Or.inl (hs _ na_152)
          · exact Or.inl (hs _ na_168)
          · exact Or.inl (hs _ na_185)
          · exact Or.inl (hs _ na_203)
          · exact Or.inl (hs _ na_219)
          · exact Or.inl (hs _ na_239)
          · exact Or.inl (hs _ na_257)
          · exact Or.inr (hs _ na_117)
        · rcases (by omega : j = 0 ∨ j = 1 ∨ j = 2 ∨ j = 3 ∨ j = 4 ∨ j = 5 ∨ j = 6 ∨ j = 7 ∨ j = 8 ∨ j = 9 ∨ j = 10 ∨ j = 11 ∨ j = 12) with rfl | rfl | rfl | rfl | rfl | rfl | rfl | rfl | rfl | rfl | rfl | rfl | rfl
          · exact Or.inr (hs _ na_127)
          · exact Or.inr (hs _ na_128)
          · exact Or.inr (hs _ na_129)
          · exact absurd rfl hij
          · exact Or.inl (hs _ na_141)
          · exact Or.inl (hs _ na_153)
          · exact Or.inl (hs _ na_169)
          · exact Or.inl (hs _ na_186)
          · exact Or.inl (hs _ na_204)
          · exact Or.inl (hs _ na_220)
          · exact Or.inl (hs _ na_240)
          · exact Or.inl (hs _ na_258)
          · exact Or.inr (hs _ na_126)
        · rcases (by omega : j = 0 ∨ j = 1 ∨ j = 2 ∨ j = 3 ∨ j = 4 ∨ j = 5 ∨ j = 6 ∨ j = 7 ∨ j = 8 ∨ j = 9 ∨ j = 10 ∨ j = 11 ∨ j = 12) with rfl | rfl | rfl | rfl | rfl | rfl | rfl | rfl | rfl | rfl | rfl | rfl | rfl
          · exact Or.inr (hs _ na_138)
          · exact Or.inr (hs _ na_139)
          · exact Or.inr (hs _ na_140)
          · exact Or.inr (hs _ na_141)
          · exact absurd rfl hij
          · exact Or.inl (hs _ na_154)
          · exact Or.inl (hs _ na_170)
          · exact Or.inl (hs _ na_187)
          · exact Or.inl (hs _ na_205)
          · exact Or.inl (hs _ na_221)
          · exact Or.inl (hs _ na_241)
          · exact Or.inl (hs _ na_259)
          · exact Or.inr (hs _ na_137)
        · rcases (by omega : j = 0 ∨ j = 1 ∨ j = 2 ∨ j = 3 ∨ j = 4 ∨ j = 5 ∨ j = 6 ∨ j = 7 ∨ j = 8 ∨ j = 9 ∨ j = 10 ∨ j = 11 ∨ j = 12) with rfl | rfl | rfl | rfl | rfl | rfl | rfl | rfl | rfl | rfl | rfl | rfl | rfl
          · exact Or.inr (hs _ na_150)
          · exact Or.inr (hs _ na_151)
          · exact Or.inr (hs _ na_152)
          · exact Or.inr (hs _ na_153)
          · exact Or.inr (hs _ na_154)
          · exact absurd rfl hij
          · exact Or.inl (hs _ na_171)
          · exact Or.inl (hs _ na_188)
          · exact Or.inl (hs _ na_206)
          · exact Or.inl (hs _ na_222)
          · exact Or.inl (hs _ na_242)
          · exact Or.inl (hs _ na_260)
          · exact Or.inr (hs _ na_149)
        · rcases (by omega : j = 0 ∨ j = 1 ∨ j = 2 ∨ j = 3 ∨ j = 4 ∨ j = 5 ∨ j = 6 ∨ j = 7 ∨ j = 8 ∨ j = 9 ∨ j = 10 ∨ j = 11 ∨ j = 12) with rfl | rfl | rfl | rfl | rfl | rfl | rfl | rfl | rfl | rfl | rfl | rfl | rfl
          · exact Or.inr (hs _ na_166)
          · exact Or.inr (hs _ na_167)
          · exact Or.inr (hs _ na_168)
          · exact Or.inr (hs _ na_169)
          · exact Or.inr (hs _ na_170)
          · exact Or.inr (hs _ na_171)
          · exact absurd rfl hij
          · exact Or.inl (hs _ na_189)
          · exact Or.inl (hs _ na_207)
          · exact Or.inl (hs _ na_223)
          · exact Or.inl (hs _ na_243)
          · exact Or.inl (hs _ na_261)
          · exact Or.inr (hs _ na_165)
        · rcases (by omega : j = 0 ∨ j = 1 ∨ j = 2 ∨ j = 3 ∨ j = 4 ∨ j = 5 ∨ j = 6 ∨ j = 7 ∨ j = 8 ∨ j = 9 ∨ j = 10 ∨ j = 11 ∨ j = 12) with rfl | rfl | rfl | rfl | rfl | rfl | rfl | rfl | rfl | rfl | rfl | rfl | rfl
          · exact Or.inr (hs _ na_183)
          · exact Or.inr (hs _ na_184)
          · exact Or.inr (hs _ na_185)
          · exact Or.inr (hs _ na_186)
          · exact Or.inr (hs _ na_187)
          · exact Or.inr (hs _ na_188)
          · exact Or.inr (hs _ na_189)
          · exact absurd rfl hij
          · exact Or.inl (hs _ na_208)
          · exact Or.inl (hs _ na_224)
          · exact Or.inl (hs _ na_244)
          · exact Or.inl (hs _ na_262)
          · exact Or.inr (hs _ na_182)
        · rcases (by omega : j = 0 ∨ j = 1 ∨ j = 2 ∨ j = 3 ∨ j = 4 ∨ j = 5 ∨ j = 6 ∨ j = 7 ∨ j = 8 ∨ j = 9 ∨ j = 10 ∨ j = 11 ∨ j = 12) with rfl | rfl | rfl | rfl | rfl | rfl | rfl | rfl | rfl | rfl | rfl | rfl | rfl
          · exact Or.inr (hs _ na_201)
          · exact Or.inr (hs _ na_202)
          · exact Or.inr (hs _ na_203)
          · exact Or.inr (hs _ na_204)
          · exact Or.inr (hs _ na_205)
          · exact Or.inr (hs _ na_206)
          · exact Or.inr (hs _ na_207)
          · exact Or.inr (hs _ na_208)
          · exact absurd rfl hij
          · exact Or.inl (hs _ na_225)
          · exact Or.inl (hs _ na_245)
          · exact Or.inl (hs _ na_263)
          · exact Or.inr (hs _ na_200)
        · rcases (by omega : j = 0 ∨ j = 1 ∨ j = 2 ∨ j = 3 ∨ j = 4 ∨ j = 5 ∨ j = 6 ∨ j = 7 ∨ j = 8 ∨ j = 9 ∨ j = 10 ∨ j = 11 ∨ j = 12) with rfl | rfl | rfl | rfl | rfl | rfl | rfl | rfl | rfl | rfl | rfl | rfl | rfl
          · exact Or.inr (hs _ na_217)
          · exact Or.inr (hs _ na_218)
          · exact Or.inr (hs _ na_219)
          · exact Or.inr (hs _ na_220)
          · exact Or.inr (hs _ na_221)
          · exact Or.inr (hs _ na_222)
          · exact Or.inr (hs _ na_223)
          · exact Or.inr (hs _ na_224)
          · exact Or.inr (hs _ na_225)
          · exact absurd rfl hij
          · exact Or.inl (hs _ na_246)
          · exact Or.inl (hs _ na_264)
          · exact Or.inr (hs _ na_216)
        · rcases (by omega : j = 0 ∨ j = 1 ∨ j = 2 ∨ j = 3 ∨ j = 4 ∨ j = 5 ∨ j = 6 ∨ j = 7 ∨ j = 8 ∨ j = 9 ∨ j = 10 ∨ j = 11 ∨ j = 12) with rfl | rfl | rfl | rfl | rfl | rfl | rfl | rfl | rfl | rfl | rfl | rfl | rfl
          · exact Or.inr (hs _ na_237)
          · exact Or.inr (hs _ na_238)
          · exact Or.inr (hs _ na_239)
          · exact Or.inr (hs _ na_240)
          · exact Or.inr (hs _ na_241)
          · exact Or.inr (hs _ na_242)
          · exact Or.inr (hs _ na_243)
          · exact Or.inr (hs _ na_244)
          · exact Or.inr (hs _ na_245)
          · exact Or.inr (hs _ na_246)
          · exact absurd rfl hij
          · exact Or.inl (hs _ na_265)
          · exact Or.inr (hs _ na_236)
        · rcases (by omega : j = 0 ∨ j = 1 ∨ j = 2 ∨ j = 3 ∨ j = 4 ∨ j = 5 ∨ j = 6 ∨ j = 7 ∨ j = 8 ∨ j = 9 ∨ j = 10 ∨ j = 11 ∨ j = 12) with rfl | rfl | rfl | rfl | rfl | rfl | rfl | rfl | rfl | rfl | rfl | rfl | rfl
          · exact Or.inr (hs _ na_255)
          · exact Or.inr (hs _ na_256)
          · exact Or.inr (hs _ na_257)
          · exact Or.inr (hs _ na_258)
          · exact Or.inr (hs _ na_259)
          · exact Or.inr (hs _ na_260)
          · exact Or.inr (hs _ na_261)
          · exact Or.inr (hs _ na_262)
          · exact Or.inr (hs _ na_263)
          · exact Or.inr (hs _ na_264)
          · exact Or.inr (hs _ na_265)
          · exact absurd rfl hij
          · exact Or.inr (hs _ na_254)
        · rcases (by omega : j = 0 ∨ j = 1 ∨ j = 2 ∨ j = 3 ∨ j = 4 ∨ j = 5 ∨ j = 6 ∨ j = 7 ∨ j = 8 ∨ j = 9 ∨ j = 10 ∨ j = 11 ∨ j = 12) with rfl | rfl | rfl | rfl | rfl | rfl | rfl | rfl | rfl | rfl | rfl | rfl | rfl
          · exact Or.inl (hs _ na_97)
          · exact Or.inl (hs _ na_106)
          · exact Or.inl (hs _ na_117)
          · exact Or.inl (hs _ na_126)
          · exact Or.inl (hs _ na_137)
          · exact Or.inl (hs _ na_149)
          · exact Or.inl (hs _ na_165)
          · exact Or.inl (hs _ na_182)
          · exact Or.inl (hs _ na_200)
          · exact Or.inl (hs _ na_216)
          · exact Or.inl (hs _ na_236)
          · exact Or.inl (hs _ na_254)
          · exact absurd rfl hij) hA
  refine ⟨fun k => if k = 0 then tG else if k = 1 then tB else if k < 30 then adK (k - 10) else adV (k - 30), ?_⟩
  have eK : (fun i => (fun k => if k = 0 then tG else if k = 1 then tB else if k < 30 then adK (k - 10) else adV (k - 30)) (10 + i)) = fun i => if i < 20 then adK i else adV (10 + i - 30) := by
    funext i
    show (if 10 + i = 0 then tG else if 10 + i = 1 then tB else if 10 + i < 30 then adK (10 + i - 10) else adV (10 + i - 30)) = _
    rw [if_neg (by omega), if_neg (by omega)]
    by_cases h : i < 20
    · rw [if_pos (by omega), if_pos h, show 10 + i - 10 = i by omega]
    · rw [if_neg (by omega), if_neg h]
  have eV : (fun i => (fun k => if k = 0 then tG else if k = 1 then tB else if k < 30 then adK (k - 10) else adV (k - 30)) (30 + i)) = adV := by
    funext i
    show (if 30 + i = 0 then tG else if 30 + i = 1 then tB else if 30 + i < 30 then adK (30 + i - 10) else adV (30 + i - 30)) = _
    rw [if_neg (by omega), if_neg (by omega), if_neg (by omega), show 30 + i - 30 = i by omega]
  have hi13 : ∀ i, i < 13 → (if i < 20 then adK i else adV (10 + i - 30)) = adK i := fun i hi => if_pos (by omega)
  have eK1 : ∀ i, i < 13 → (fun k => if k = 0 then tG else if k = 1 then tB else if k < 30 then adK (k - 10) else adV (k - 30)) (10 + i) = adK i := fun i hi => (congrFun eK i).trans (hi13 i hi)
  refine ⟨⟨va_Nw.of rfl (hts _ nlA), va_Nw.of rfl (hts _ nlB), va_Nw.of rfl (hts _ nlC), va_Nw.of rfl (hts _ nlD), va_AO.of (hts _ aoSheet), va_AO.of (hts _ aoText)⟩, ⟨va_Zref (hts _ lsta_GREATEST) (hts _ ini_MosaicOfSights) eG hA, TGv⟩, ⟨va_Zref (hts _ lsta_ABOVE) (hts _ ini_MosaicOfSights) eB hA, TBv⟩, va_Zof (hts _ lsta_COMPACT_STRINGS) (hts _ ini_java_lang_String) (va_eqt (hs _ na_4)) hA, va_Zqof (hts _ lsta_SIOOBE_FORMATTER) (hts _ ini_jdk_internal_util_Preconditions) (hs _ na_5) hA, ?_, ?_⟩
  · rw [eV]
    refine ⟨fun i hi => ?_, fun i j hi hj h => ?_⟩
    · show va_O _ ((fun k => if k = 0 then tG else if k = 1 then tB else if k < 30 then adK (k - 10) else adV (k - 30)) (10 + i)) _ _ _ ∧ _
      rw [eK1 i hi]
      exact hK.1 i hi
    · have h1 : (fun k => if k = 0 then tG else if k = 1 then tB else if k < 30 then adK (k - 10) else adV (k - 30)) (10 + i) = (fun k => if k = 0 then tG else if k = 1 then tB else if k < 30 then adK (k - 10) else adV (k - 30)) (10 + j) := h
      rw [eK1 i hi, eK1 j hj] at h1
      exact hK.2 i j hi hj h1
  · intro i hi
    rw [eK1 i hi]
    have he := hKe i hi

    rcases (by omega : i = 0 ∨ i = 1 ∨ i = 2 ∨ i = 3 ∨ i = 4 ∨ i = 5 ∨ i = 6 ∨ i = 7 ∨ i = 8 ∨ i = 9 ∨ i = 10 ∨ i = 11 ∨ i = 12) with rfl | rfl | rfl | rfl | rfl | rfl | rfl | rfl | rfl | rfl | rfl | rfl | rfl
    · exact vk_R.of (hts _ sref_0) he
    · exact vk_R.of (hts _ sref_1) he
    · exact vk_R.of (hts _ sref_2) he
    · exact vk_R.of (hts _ sref_3) he
    · exact vk_R.of (hts _ sref_4) he
    · exact vk_R.of (hts _ sref_5) he
    · exact vk_R.of (hts _ sref_6) he
    · exact vk_R.of (hts _ sref_7) he
    · exact vk_R.of (hts _ sref_8) he
    · exact vk_R.of (hts _ sref_9) he
    · exact vk_R.of (hts _ sref_10) he
    · exact vk_R.of (hts _ sref_11) he
    · exact vk_R.of (hts _ sref_12) he
