/-- the words of the tables that any method may lean on -/
def GW : List Cond := lw_tbl.filter goodWord
theorem gw_t (i : Nat) (w : Cond) (h : tables_1[i]? = some w) (hg : goodWord w = true) : w ∈ GW := List.mem_filter.mpr ⟨List.mem_append_right _ (List.mem_of_getElem? h), hg⟩
theorem gw_p (i : Nat) (w : Cond) (h : (k2_sels lw_privs)[i]? = some w) (hg : goodWord w = true) : w ∈ GW := List.mem_filter.mpr ⟨List.mem_append_left _ (List.mem_of_getElem? h), hg⟩
theorem gw_lw {w : Cond} (h : w ∈ GW) : w ∈ lw_tbl := (List.mem_filter.mp h).1
theorem gw_good {w : Cond} (h : w ∈ GW) : (w.onTables && w.keeps) = true ∨ ∃ ty, w = .arrayClass ty := good_of_word (List.mem_filter.mp h).2
theorem kw0 : (Jvm.Cond.initialized "MilesKeptLaw") ∈ GW := gw_t 0 _ (by decide +kernel) rfl
theorem kw1 : (Jvm.Cond.initialized "MilesKept") ∈ GW := gw_t 1 _ (by decide +kernel) rfl
theorem kw2 : (Jvm.Cond.initialized "MilesKept$History") ∈ GW := gw_t 2 _ (by decide +kernel) rfl
theorem kw3 : (Jvm.Cond.initialized "MilesKept$Entries") ∈ GW := gw_t 3 _ (by decide +kernel) rfl
theorem kw4 : (Jvm.Cond.initialized "MilesKept$Plates") ∈ GW := gw_t 4 _ (by decide +kernel) rfl
theorem kw5 : (Jvm.Cond.initialized "MilesKept$Teller") ∈ GW := gw_t 5 _ (by decide +kernel) rfl
theorem kw6 : (Jvm.Cond.initialized "MilesKept$Past") ∈ GW := gw_t 6 _ (by decide +kernel) rfl
theorem kw7 : (Jvm.Cond.initialized "MilesKept$Stands") ∈ GW := gw_t 7 _ (by decide +kernel) rfl
theorem kw8 : (Jvm.Cond.initialized "MilesKept$Repairs") ∈ GW := gw_t 8 _ (by decide +kernel) rfl
theorem kw9 : (Jvm.Cond.initialized "MilesKept$Losses") ∈ GW := gw_t 9 _ (by decide +kernel) rfl
theorem kw10 : (Jvm.Cond.initialized "java/util/Arrays") ∈ GW := gw_t 10 _ (by decide +kernel) rfl
theorem kw11 : (Jvm.Cond.initialized "java/lang/Math") ∈ GW := gw_t 11 _ (by decide +kernel) rfl
theorem kw12 : (Jvm.Cond.initialized "MilesKeptModel") ∈ GW := gw_t 12 _ (by decide +kernel) rfl
theorem kw13 : (Jvm.Cond.initialized "java/lang/Integer") ∈ GW := gw_t 13 _ (by decide +kernel) rfl
theorem kw14 : (Jvm.Cond.classLink "MilesKeptLaw" (7 : Nat) "MilesKept") ∈ GW := gw_t 14 _ (by decide +kernel) rfl
theorem kw15 : (Jvm.Cond.instantiable "MilesKept" (8 : Nat)) ∈ GW := gw_t 15 _ (by decide +kernel) rfl
theorem kw16 : (Jvm.Cond.methodLink "MilesKeptLaw" (9 : Nat) ({ cls := "MilesKept", name := "<init>", desc := "()V" } : Jvm.MethodName)) ∈ GW := gw_t 16 _ (by decide +kernel) rfl
theorem kw17 : (Jvm.Cond.instanceMethod ({ cls := "MilesKept", name := "<init>", desc := "()V" } : Jvm.MethodName)) ∈ GW := gw_t 17 _ (by decide +kernel) rfl
theorem kw18 : (Jvm.Cond.code ({ cls := "MilesKept", name := "<init>", desc := "()V" } : Jvm.MethodName) prog_1_method_1_code (2 : Nat) (Option.none : Option Jvm.ClassFile.FieldType)) ∈ GW := gw_t 18 _ (by decide +kernel) rfl
theorem kw19 : (Jvm.Cond.methodLink "MilesKept" (3 : Nat) ({ cls := "java/lang/Object", name := "<init>", desc := "()V" } : Jvm.MethodName)) ∈ GW := gw_t 19 _ (by decide +kernel) rfl
theorem kw20 : (Jvm.Cond.instanceMethod ({ cls := "java/lang/Object", name := "<init>", desc := "()V" } : Jvm.MethodName)) ∈ GW := gw_t 20 _ (by decide +kernel) rfl
theorem kw21 : (Jvm.Cond.code ({ cls := "java/lang/Object", name := "<init>", desc := "()V" } : Jvm.MethodName) object_method_1_code (1 : Nat) (Option.none : Option Jvm.ClassFile.FieldType)) ∈ GW := gw_t 21 _ (by decide +kernel) rfl
theorem kw22 : (Jvm.Cond.classLink "MilesKept" (9 : Nat) "MilesKept$History") ∈ GW := gw_t 22 _ (by decide +kernel) rfl
theorem kw23 : (Jvm.Cond.instantiable "MilesKept$History" (3 : Nat)) ∈ GW := gw_t 23 _ (by decide +kernel) rfl
theorem kw25 : (Jvm.Cond.instanceMethod ({ cls := "MilesKept$History", name := "<init>", desc := "()V" } : Jvm.MethodName)) ∈ GW := gw_t 25 _ (by decide +kernel) rfl
theorem kw26 : (Jvm.Cond.code ({ cls := "MilesKept$History", name := "<init>", desc := "()V" } : Jvm.MethodName) prog_3_method_1_code (1 : Nat) (Option.none : Option Jvm.ClassFile.FieldType)) ∈ GW := gw_t 26 _ (by decide +kernel) rfl
theorem kw27 : (Jvm.Cond.methodLink "MilesKept$History" (3 : Nat) ({ cls := "java/lang/Object", name := "<init>", desc := "()V" } : Jvm.MethodName)) ∈ GW := gw_t 27 _ (by decide +kernel) rfl
theorem kw28 : (Jvm.Cond.classLink "MilesKept$History" (9 : Nat) "MilesKept$Entries") ∈ GW := gw_t 28 _ (by decide +kernel) rfl
theorem kw29 : (Jvm.Cond.instantiable "MilesKept$Entries" (4 : Nat)) ∈ GW := gw_t 29 _ (by decide +kernel) rfl
theorem kw30 : (Jvm.Cond.methodLink "MilesKept$History" (11 : Nat) ({ cls := "MilesKept$Entries", name := "<init>", desc := "(I)V" } : Jvm.MethodName)) ∈ GW := gw_t 30 _ (by decide +kernel) rfl
theorem kw31 : (Jvm.Cond.instanceMethod ({ cls := "MilesKept$Entries", name := "<init>", desc := "(I)V" } : Jvm.MethodName)) ∈ GW := gw_t 31 _ (by decide +kernel) rfl
theorem kw32 : (Jvm.Cond.code ({ cls := "MilesKept$Entries", name := "<init>", desc := "(I)V" } : Jvm.MethodName) prog_2_method_1_code (2 : Nat) (Option.none : Option Jvm.ClassFile.FieldType)) ∈ GW := gw_t 32 _ (by decide +kernel) rfl
theorem kw33 : (Jvm.Cond.methodLink "MilesKept$Entries" (3 : Nat) ({ cls := "java/lang/Object", name := "<init>", desc := "()V" } : Jvm.MethodName)) ∈ GW := gw_t 33 _ (by decide +kernel) rfl
theorem kw34 : (Jvm.Cond.fieldLink "MilesKept$Entries" (9 : Nat) "MilesKept$Entries" "days" "[I") ∈ GW := gw_t 34 _ (by decide +kernel) rfl
theorem kw35 : (Jvm.Cond.fieldLink "MilesKept$Plates" (60 : Nat) "MilesKept$Entries" "days" "[I") ∈ GW := gw_t 35 _ (by decide +kernel) rfl
theorem kw36 : (Jvm.Cond.fieldLink "MilesKept" (104 : Nat) "MilesKept$Entries" "days" "[I") ∈ GW := gw_t 36 _ (by decide +kernel) rfl
theorem kw37 : (Jvm.Cond.fieldLink "MilesKept$Stands" (50 : Nat) "MilesKept$Entries" "days" "[I") ∈ GW := gw_t 37 _ (by decide +kernel) rfl
theorem kw38 : (Jvm.Cond.fieldLink "MilesKept$Entries" (15 : Nat) "MilesKept$Entries" "firsts" "[I") ∈ GW := gw_t 38 _ (by decide +kernel) rfl
theorem kw39 : (Jvm.Cond.fieldLink "MilesKept" (108 : Nat) "MilesKept$Entries" "firsts" "[I") ∈ GW := gw_t 39 _ (by decide +kernel) rfl
theorem kw40 : (Jvm.Cond.fieldLink "MilesKept$Plates" (74 : Nat) "MilesKept$Entries" "firsts" "[I") ∈ GW := gw_t 40 _ (by decide +kernel) rfl
theorem kw41 : (Jvm.Cond.fieldLink "MilesKept$Stands" (44 : Nat) "MilesKept$Entries" "firsts" "[I") ∈ GW := gw_t 41 _ (by decide +kernel) rfl
theorem kw42 : (Jvm.Cond.fieldLink "MilesKept$Entries" (18 : Nat) "MilesKept$Entries" "seconds" "[I") ∈ GW := gw_t 42 _ (by decide +kernel) rfl
theorem kw43 : (Jvm.Cond.fieldLink "MilesKept$Plates" (57 : Nat) "MilesKept$Entries" "seconds" "[I") ∈ GW := gw_t 43 _ (by decide +kernel) rfl
theorem kw44 : (Jvm.Cond.fieldLink "MilesKept" (111 : Nat) "MilesKept$Entries" "seconds" "[I") ∈ GW := gw_t 44 _ (by decide +kernel) rfl
theorem kw45 : (Jvm.Cond.fieldLink "MilesKept$Stands" (47 : Nat) "MilesKept$Entries" "seconds" "[I") ∈ GW := gw_t 45 _ (by decide +kernel) rfl
theorem kw46 : (Jvm.Cond.fieldLink "MilesKept$History" (27 : Nat) "MilesKept$Entries" "size" "I") ∈ GW := gw_t 46 _ (by decide +kernel) rfl
theorem kw47 : (Jvm.Cond.fieldLink "MilesKept$Plates" (32 : Nat) "MilesKept$Entries" "size" "I") ∈ GW := gw_t 47 _ (by decide +kernel) rfl
theorem kw48 : (Jvm.Cond.fieldLink "MilesKept$Entries" (21 : Nat) "MilesKept$Entries" "size" "I") ∈ GW := gw_t 48 _ (by decide +kernel) rfl
theorem kw49 : (Jvm.Cond.fieldLink "MilesKept$Stands" (31 : Nat) "MilesKept$Entries" "size" "I") ∈ GW := gw_t 49 _ (by decide +kernel) rfl
theorem kw50 : (Jvm.Cond.fieldLink "MilesKept" (180 : Nat) "MilesKept$Entries" "size" "I") ∈ GW := gw_t 50 _ (by decide +kernel) rfl
theorem kw51 : (Jvm.Cond.laysFinal "MilesKept$Entries" "MilesKept$Entries" "days" "[I") ∈ GW := gw_t 51 _ (by decide +kernel) rfl
theorem kw53 : (Jvm.Cond.laysFinal "MilesKept$Entries" "MilesKept$Entries" "firsts" "[I") ∈ GW := gw_t 53 _ (by decide +kernel) rfl
theorem kw55 : (Jvm.Cond.laysFinal "MilesKept$Entries" "MilesKept$Entries" "seconds" "[I") ∈ GW := gw_t 55 _ (by decide +kernel) rfl
theorem kw57 : (Jvm.Cond.lays "MilesKept$Entries" "MilesKept$Entries" "size" "I") ∈ GW := gw_t 57 _ (by decide +kernel) rfl
theorem kw60 : (Jvm.Cond.arrayClass Jvm.ClassFile.FieldType.int) ∈ GW := gw_t 60 _ (by decide +kernel) rfl
theorem kw61 : (Jvm.Cond.fieldLink "MilesKept$History" (14 : Nat) "MilesKept$History" "readings" "LMilesKept$Entries;") ∈ GW := gw_t 61 _ (by decide +kernel) rfl
theorem kw62 : (Jvm.Cond.fieldLink "MilesKept$Stands" (25 : Nat) "MilesKept$History" "readings" "LMilesKept$Entries;") ∈ GW := gw_t 62 _ (by decide +kernel) rfl
theorem kw63 : (Jvm.Cond.fieldLink "MilesKept" (94 : Nat) "MilesKept$History" "readings" "LMilesKept$Entries;") ∈ GW := gw_t 63 _ (by decide +kernel) rfl
theorem kw64 : (Jvm.Cond.fieldLink "MilesKept$Teller" (78 : Nat) "MilesKept$History" "readings" "LMilesKept$Entries;") ∈ GW := gw_t 64 _ (by decide +kernel) rfl
theorem kw65 : (Jvm.Cond.fieldLink "MilesKept$History" (20 : Nat) "MilesKept$History" "rate" "I") ∈ GW := gw_t 65 _ (by decide +kernel) rfl
theorem kw66 : (Jvm.Cond.fieldLink "MilesKept$Teller" (98 : Nat) "MilesKept$History" "rate" "I") ∈ GW := gw_t 66 _ (by decide +kernel) rfl
theorem kw67 : (Jvm.Cond.fieldLink "MilesKept$Stands" (61 : Nat) "MilesKept$History" "rate" "I") ∈ GW := gw_t 67 _ (by decide +kernel) rfl
theorem kw68 : (Jvm.Cond.fieldLink "MilesKept" (184 : Nat) "MilesKept$History" "rate" "I") ∈ GW := gw_t 68 _ (by decide +kernel) rfl
theorem kw69 : (Jvm.Cond.fieldLink "MilesKept$History" (24 : Nat) "MilesKept$History" "wrap" "I") ∈ GW := gw_t 69 _ (by decide +kernel) rfl
theorem kw70 : (Jvm.Cond.fieldLink "MilesKept$Stands" (55 : Nat) "MilesKept$History" "wrap" "I") ∈ GW := gw_t 70 _ (by decide +kernel) rfl
theorem kw71 : (Jvm.Cond.fieldLink "MilesKept$Teller" (105 : Nat) "MilesKept$History" "wrap" "I") ∈ GW := gw_t 71 _ (by decide +kernel) rfl
theorem kw72 : (Jvm.Cond.fieldLink "MilesKept" (187 : Nat) "MilesKept$History" "wrap" "I") ∈ GW := gw_t 72 _ (by decide +kernel) rfl
theorem kw73 : (Jvm.Cond.laysFinal "MilesKept$History" "MilesKept$History" "readings" "LMilesKept$Entries;") ∈ GW := gw_t 73 _ (by decide +kernel) rfl
theorem kw75 : (Jvm.Cond.lays "MilesKept$History" "MilesKept$History" "rate" "I") ∈ GW := gw_t 75 _ (by decide +kernel) rfl
theorem kw77 : (Jvm.Cond.lays "MilesKept$History" "MilesKept$History" "wrap" "I") ∈ GW := gw_t 77 _ (by decide +kernel) rfl
theorem kw80 : (Jvm.Cond.classLink "MilesKept" (16 : Nat) "MilesKept$Plates") ∈ GW := gw_t 80 _ (by decide +kernel) rfl
theorem kw81 : (Jvm.Cond.instantiable "MilesKept$Plates" (5 : Nat)) ∈ GW := gw_t 81 _ (by decide +kernel) rfl
theorem kw83 : (Jvm.Cond.instanceMethod ({ cls := "MilesKept$Plates", name := "<init>", desc := "()V" } : Jvm.MethodName)) ∈ GW := gw_t 83 _ (by decide +kernel) rfl
theorem kw84 : (Jvm.Cond.code ({ cls := "MilesKept$Plates", name := "<init>", desc := "()V" } : Jvm.MethodName) prog_6_method_1_code (1 : Nat) (Option.none : Option Jvm.ClassFile.FieldType)) ∈ GW := gw_t 84 _ (by decide +kernel) rfl
theorem kw85 : (Jvm.Cond.methodLink "MilesKept$Plates" (3 : Nat) ({ cls := "java/lang/Object", name := "<init>", desc := "()V" } : Jvm.MethodName)) ∈ GW := gw_t 85 _ (by decide +kernel) rfl
theorem kw86 : (Jvm.Cond.classLink "MilesKept$Plates" (9 : Nat) "MilesKept$Entries") ∈ GW := gw_t 86 _ (by decide +kernel) rfl
theorem kw87 : (Jvm.Cond.methodLink "MilesKept$Plates" (11 : Nat) ({ cls := "MilesKept$Entries", name := "<init>", desc := "(I)V" } : Jvm.MethodName)) ∈ GW := gw_t 87 _ (by decide +kernel) rfl
theorem kw88 : (Jvm.Cond.fieldLink "MilesKept$Plates" (14 : Nat) "MilesKept$Plates" "changes" "LMilesKept$Entries;") ∈ GW := gw_t 88 _ (by decide +kernel) rfl
theorem kw89 : (Jvm.Cond.fieldLink "MilesKept" (123 : Nat) "MilesKept$Plates" "changes" "LMilesKept$Entries;") ∈ GW := gw_t 89 _ (by decide +kernel) rfl
theorem kw90 : (Jvm.Cond.fieldLink "MilesKept$Teller" (115 : Nat) "MilesKept$Plates" "changes" "LMilesKept$Entries;") ∈ GW := gw_t 90 _ (by decide +kernel) rfl
theorem kw91 : (Jvm.Cond.fieldLink "MilesKept$Plates" (20 : Nat) "MilesKept$Plates" "held" "[Z") ∈ GW := gw_t 91 _ (by decide +kernel) rfl
theorem kw92 : (Jvm.Cond.fieldLink "MilesKept" (126 : Nat) "MilesKept$Plates" "held" "[Z") ∈ GW := gw_t 92 _ (by decide +kernel) rfl
theorem kw93 : (Jvm.Cond.fieldLink "MilesKept$Plates" (24 : Nat) "MilesKept$Plates" "most" "[I") ∈ GW := gw_t 93 _ (by decide +kernel) rfl
theorem kw94 : (Jvm.Cond.fieldLink "MilesKept$Plates" (28 : Nat) "MilesKept$Plates" "start" "I") ∈ GW := gw_t 94 _ (by decide +kernel) rfl
theorem kw95 : (Jvm.Cond.fieldLink "MilesKept$Teller" (112 : Nat) "MilesKept$Plates" "start" "I") ∈ GW := gw_t 95 _ (by decide +kernel) rfl
theorem kw96 : (Jvm.Cond.fieldLink "MilesKept" (213 : Nat) "MilesKept$Plates" "start" "I") ∈ GW := gw_t 96 _ (by decide +kernel) rfl
theorem kw97 : (Jvm.Cond.fieldLink "MilesKept$Plates" (42 : Nat) "MilesKept$Plates" "heldInAll" "I") ∈ GW := gw_t 97 _ (by decide +kernel) rfl
theorem kw98 : (Jvm.Cond.fieldLink "MilesKept" (148 : Nat) "MilesKept$Plates" "heldInAll" "I") ∈ GW := gw_t 98 _ (by decide +kernel) rfl
theorem kw99 : (Jvm.Cond.laysFinal "MilesKept$Plates" "MilesKept$Plates" "changes" "LMilesKept$Entries;") ∈ GW := gw_t 99 _ (by decide +kernel) rfl
theorem kw101 : (Jvm.Cond.laysFinal "MilesKept$Plates" "MilesKept$Plates" "held" "[Z") ∈ GW := gw_t 101 _ (by decide +kernel) rfl
theorem kw103 : (Jvm.Cond.laysFinal "MilesKept$Plates" "MilesKept$Plates" "most" "[I") ∈ GW := gw_t 103 _ (by decide +kernel) rfl
theorem kw105 : (Jvm.Cond.lays "MilesKept$Plates" "MilesKept$Plates" "start" "I") ∈ GW := gw_t 105 _ (by decide +kernel) rfl
theorem kw107 : (Jvm.Cond.lays "MilesKept$Plates" "MilesKept$Plates" "heldInAll" "I") ∈ GW := gw_t 107 _ (by decide +kernel) rfl
theorem kw110 : (Jvm.Cond.arrayClass Jvm.ClassFile.FieldType.boolean) ∈ GW := gw_t 110 _ (by decide +kernel) rfl
theorem kw111 : (Jvm.Cond.classLink "MilesKept" (23 : Nat) "MilesKept$Teller") ∈ GW := gw_t 111 _ (by decide +kernel) rfl
theorem kw112 : (Jvm.Cond.instantiable "MilesKept$Teller" (11 : Nat)) ∈ GW := gw_t 112 _ (by decide +kernel) rfl
theorem kw114 : (Jvm.Cond.instanceMethod ({ cls := "MilesKept$Teller", name := "<init>", desc := "()V" } : Jvm.MethodName)) ∈ GW := gw_t 114 _ (by decide +kernel) rfl
theorem kw115 : (Jvm.Cond.code ({ cls := "MilesKept$Teller", name := "<init>", desc := "()V" } : Jvm.MethodName) prog_9_method_1_code (1 : Nat) (Option.none : Option Jvm.ClassFile.FieldType)) ∈ GW := gw_t 115 _ (by decide +kernel) rfl
theorem kw116 : (Jvm.Cond.methodLink "MilesKept$Teller" (3 : Nat) ({ cls := "java/lang/Object", name := "<init>", desc := "()V" } : Jvm.MethodName)) ∈ GW := gw_t 116 _ (by decide +kernel) rfl
theorem kw117 : (Jvm.Cond.classLink "MilesKept$Teller" (15 : Nat) "MilesKept$History") ∈ GW := gw_t 117 _ (by decide +kernel) rfl
theorem kw119 : (Jvm.Cond.classLink "MilesKept$Teller" (22 : Nat) "MilesKept$Plates") ∈ GW := gw_t 119 _ (by decide +kernel) rfl
theorem kw121 : (Jvm.Cond.fieldLink "MilesKept$Teller" (9 : Nat) "MilesKept$Teller" "letters" "[I") ∈ GW := gw_t 121 _ (by decide +kernel) rfl
theorem kw122 : (Jvm.Cond.fieldLink "MilesKept$Teller" (18 : Nat) "MilesKept$Teller" "history" "LMilesKept$History;") ∈ GW := gw_t 122 _ (by decide +kernel) rfl
theorem kw123 : (Jvm.Cond.fieldLink "MilesKept" (83 : Nat) "MilesKept$Teller" "history" "LMilesKept$History;") ∈ GW := gw_t 123 _ (by decide +kernel) rfl
theorem kw124 : (Jvm.Cond.fieldLink "MilesKept$Teller" (25 : Nat) "MilesKept$Teller" "plates" "LMilesKept$Plates;") ∈ GW := gw_t 124 _ (by decide +kernel) rfl
theorem kw125 : (Jvm.Cond.fieldLink "MilesKept" (87 : Nat) "MilesKept$Teller" "plates" "LMilesKept$Plates;") ∈ GW := gw_t 125 _ (by decide +kernel) rfl
theorem kw126 : (Jvm.Cond.fieldLink "MilesKept$Teller" (29 : Nat) "MilesKept$Teller" "length" "I") ∈ GW := gw_t 126 _ (by decide +kernel) rfl
theorem kw127 : (Jvm.Cond.fieldLink "MilesKept" (216 : Nat) "MilesKept$Teller" "length" "I") ∈ GW := gw_t 127 _ (by decide +kernel) rfl
theorem kw128 : (Jvm.Cond.fieldLink "MilesKept$Teller" (65 : Nat) "MilesKept$Teller" "at" "I") ∈ GW := gw_t 128 _ (by decide +kernel) rfl
theorem kw129 : (Jvm.Cond.fieldLink "MilesKept$Teller" (58 : Nat) "MilesKept$Teller" "place" "I") ∈ GW := gw_t 129 _ (by decide +kernel) rfl
theorem kw130 : (Jvm.Cond.fieldLink "MilesKept$Teller" (39 : Nat) "MilesKept$Teller" "token" "I") ∈ GW := gw_t 130 _ (by decide +kernel) rfl
theorem kw131 : (Jvm.Cond.fieldLink "MilesKept$Teller" (118 : Nat) "MilesKept$Teller" "number" "I") ∈ GW := gw_t 131 _ (by decide +kernel) rfl
theorem kw132 : (Jvm.Cond.fieldLink "MilesKept$Teller" (68 : Nat) "MilesKept$Teller" "rateTold" "Z") ∈ GW := gw_t 132 _ (by decide +kernel) rfl
theorem kw133 : (Jvm.Cond.fieldLink "MilesKept$Teller" (72 : Nat) "MilesKept$Teller" "wrapTold" "Z") ∈ GW := gw_t 133 _ (by decide +kernel) rfl
theorem kw134 : (Jvm.Cond.fieldLink "MilesKept$Teller" (75 : Nat) "MilesKept$Teller" "startTold" "Z") ∈ GW := gw_t 134 _ (by decide +kernel) rfl
theorem kw135 : (Jvm.Cond.laysFinal "MilesKept$Teller" "MilesKept$Teller" "letters" "[I") ∈ GW := gw_t 135 _ (by decide +kernel) rfl
theorem kw137 : (Jvm.Cond.laysFinal "MilesKept$Teller" "MilesKept$Teller" "history" "LMilesKept$History;") ∈ GW := gw_t 137 _ (by decide +kernel) rfl
theorem kw139 : (Jvm.Cond.laysFinal "MilesKept$Teller" "MilesKept$Teller" "plates" "LMilesKept$Plates;") ∈ GW := gw_t 139 _ (by decide +kernel) rfl
theorem kw141 : (Jvm.Cond.lays "MilesKept$Teller" "MilesKept$Teller" "length" "I") ∈ GW := gw_t 141 _ (by decide +kernel) rfl
theorem kw143 : (Jvm.Cond.lays "MilesKept$Teller" "MilesKept$Teller" "at" "I") ∈ GW := gw_t 143 _ (by decide +kernel) rfl
theorem kw145 : (Jvm.Cond.lays "MilesKept$Teller" "MilesKept$Teller" "place" "I") ∈ GW := gw_t 145 _ (by decide +kernel) rfl
theorem kw147 : (Jvm.Cond.lays "MilesKept$Teller" "MilesKept$Teller" "token" "I") ∈ GW := gw_t 147 _ (by decide +kernel) rfl
theorem kw149 : (Jvm.Cond.lays "MilesKept$Teller" "MilesKept$Teller" "number" "I") ∈ GW := gw_t 149 _ (by decide +kernel) rfl
theorem kw151 : (Jvm.Cond.lays "MilesKept$Teller" "MilesKept$Teller" "rateTold" "Z") ∈ GW := gw_t 151 _ (by decide +kernel) rfl
theorem kw153 : (Jvm.Cond.lays "MilesKept$Teller" "MilesKept$Teller" "wrapTold" "Z") ∈ GW := gw_t 153 _ (by decide +kernel) rfl
theorem kw155 : (Jvm.Cond.lays "MilesKept$Teller" "MilesKept$Teller" "startTold" "Z") ∈ GW := gw_t 155 _ (by decide +kernel) rfl
theorem kw158 : (Jvm.Cond.classLink "MilesKept" (30 : Nat) "MilesKept$Past") ∈ GW := gw_t 158 _ (by decide +kernel) rfl
theorem kw159 : (Jvm.Cond.instantiable "MilesKept$Past" (3 : Nat)) ∈ GW := gw_t 159 _ (by decide +kernel) rfl
theorem kw160 : (Jvm.Cond.methodLink "MilesKept" (32 : Nat) ({ cls := "MilesKept$Past", name := "<init>", desc := "()V" } : Jvm.MethodName)) ∈ GW := gw_t 160 _ (by decide +kernel) rfl
theorem kw161 : (Jvm.Cond.instanceMethod ({ cls := "MilesKept$Past", name := "<init>", desc := "()V" } : Jvm.MethodName)) ∈ GW := gw_t 161 _ (by decide +kernel) rfl
theorem kw162 : (Jvm.Cond.code ({ cls := "MilesKept$Past", name := "<init>", desc := "()V" } : Jvm.MethodName) prog_5_method_1_code (2 : Nat) (Option.none : Option Jvm.ClassFile.FieldType)) ∈ GW := gw_t 162 _ (by decide +kernel) rfl
theorem kw163 : (Jvm.Cond.methodLink "MilesKept$Past" (3 : Nat) ({ cls := "java/lang/Object", name := "<init>", desc := "()V" } : Jvm.MethodName)) ∈ GW := gw_t 163 _ (by decide +kernel) rfl
theorem kw164 : (Jvm.Cond.classLink "MilesKept$Past" (9 : Nat) "MilesKept$History") ∈ GW := gw_t 164 _ (by decide +kernel) rfl
theorem kw167 : (Jvm.Cond.fieldLink "MilesKept$Past" (11 : Nat) "MilesKept$Past" "earlier" "[LMilesKept$History;") ∈ GW := gw_t 167 _ (by decide +kernel) rfl
theorem kw168 : (Jvm.Cond.fieldLink "MilesKept$Past" (18 : Nat) "MilesKept$Past" "size" "I") ∈ GW := gw_t 168 _ (by decide +kernel) rfl
theorem kw169 : (Jvm.Cond.fieldLink "MilesKept" (151 : Nat) "MilesKept$Past" "size" "I") ∈ GW := gw_t 169 _ (by decide +kernel) rfl
theorem kw170 : (Jvm.Cond.fieldLink "MilesKept$Past" (22 : Nat) "MilesKept$Past" "next" "I") ∈ GW := gw_t 170 _ (by decide +kernel) rfl
theorem kw171 : (Jvm.Cond.laysFinal "MilesKept$Past" "MilesKept$Past" "earlier" "[LMilesKept$History;") ∈ GW := gw_t 171 _ (by decide +kernel) rfl
theorem kw173 : (Jvm.Cond.lays "MilesKept$Past" "MilesKept$Past" "size" "I") ∈ GW := gw_t 173 _ (by decide +kernel) rfl
theorem kw175 : (Jvm.Cond.lays "MilesKept$Past" "MilesKept$Past" "next" "I") ∈ GW := gw_t 175 _ (by decide +kernel) rfl
theorem kw178 : (Jvm.Cond.classLink "MilesKept" (45 : Nat) "MilesKept$Stands") ∈ GW := gw_t 178 _ (by decide +kernel) rfl
theorem kw179 : (Jvm.Cond.instantiable "MilesKept$Stands" (4 : Nat)) ∈ GW := gw_t 179 _ (by decide +kernel) rfl
theorem kw180 : (Jvm.Cond.methodLink "MilesKept" (47 : Nat) ({ cls := "MilesKept$Stands", name := "<init>", desc := "(LMilesKept$History;)V" } : Jvm.MethodName)) ∈ GW := gw_t 180 _ (by decide +kernel) rfl
theorem kw181 : (Jvm.Cond.instanceMethod ({ cls := "MilesKept$Stands", name := "<init>", desc := "(LMilesKept$History;)V" } : Jvm.MethodName)) ∈ GW := gw_t 181 _ (by decide +kernel) rfl
theorem kw182 : (Jvm.Cond.code ({ cls := "MilesKept$Stands", name := "<init>", desc := "(LMilesKept$History;)V" } : Jvm.MethodName) prog_8_method_1_code (2 : Nat) (Option.none : Option Jvm.ClassFile.FieldType)) ∈ GW := gw_t 182 _ (by decide +kernel) rfl
theorem kw183 : (Jvm.Cond.methodLink "MilesKept$Stands" (3 : Nat) ({ cls := "java/lang/Object", name := "<init>", desc := "()V" } : Jvm.MethodName)) ∈ GW := gw_t 183 _ (by decide +kernel) rfl
theorem kw184 : (Jvm.Cond.fieldLink "MilesKept$Stands" (9 : Nat) "MilesKept$Stands" "days" "[I") ∈ GW := gw_t 184 _ (by decide +kernel) rfl
theorem kw185 : (Jvm.Cond.fieldLink "MilesKept$Repairs" (68 : Nat) "MilesKept$Stands" "days" "[I") ∈ GW := gw_t 185 _ (by decide +kernel) rfl
theorem kw186 : (Jvm.Cond.fieldLink "MilesKept$Stands" (15 : Nat) "MilesKept$Stands" "fars" "[I") ∈ GW := gw_t 186 _ (by decide +kernel) rfl
theorem kw187 : (Jvm.Cond.fieldLink "MilesKept$Repairs" (59 : Nat) "MilesKept$Stands" "fars" "[I") ∈ GW := gw_t 187 _ (by decide +kernel) rfl
theorem kw188 : (Jvm.Cond.fieldLink "MilesKept$Stands" (18 : Nat) "MilesKept$Stands" "goods" "[I") ∈ GW := gw_t 188 _ (by decide +kernel) rfl
theorem kw189 : (Jvm.Cond.fieldLink "MilesKept$Losses" (86 : Nat) "MilesKept$Stands" "goods" "[I") ∈ GW := gw_t 189 _ (by decide +kernel) rfl
theorem kw190 : (Jvm.Cond.fieldLink "MilesKept$Repairs" (107 : Nat) "MilesKept$Stands" "goods" "[I") ∈ GW := gw_t 190 _ (by decide +kernel) rfl
theorem kw191 : (Jvm.Cond.fieldLink "MilesKept$Stands" (21 : Nat) "MilesKept$Stands" "history" "LMilesKept$History;") ∈ GW := gw_t 191 _ (by decide +kernel) rfl
theorem kw192 : (Jvm.Cond.laysFinal "MilesKept$Stands" "MilesKept$Stands" "days" "[I") ∈ GW := gw_t 192 _ (by decide +kernel) rfl
theorem kw194 : (Jvm.Cond.laysFinal "MilesKept$Stands" "MilesKept$Stands" "fars" "[I") ∈ GW := gw_t 194 _ (by decide +kernel) rfl
theorem kw196 : (Jvm.Cond.laysFinal "MilesKept$Stands" "MilesKept$Stands" "goods" "[I") ∈ GW := gw_t 196 _ (by decide +kernel) rfl
theorem kw198 : (Jvm.Cond.laysFinal "MilesKept$Stands" "MilesKept$Stands" "history" "LMilesKept$History;") ∈ GW := gw_t 198 _ (by decide +kernel) rfl
theorem kw201 : (Jvm.Cond.classLink "MilesKept" (50 : Nat) "MilesKept$Repairs") ∈ GW := gw_t 201 _ (by decide +kernel) rfl
theorem kw202 : (Jvm.Cond.instantiable "MilesKept$Repairs" (11 : Nat)) ∈ GW := gw_t 202 _ (by decide +kernel) rfl
theorem kw203 : (Jvm.Cond.methodLink "MilesKept" (52 : Nat) ({ cls := "MilesKept$Repairs", name := "<init>", desc := "(LMilesKept$Stands;)V" } : Jvm.MethodName)) ∈ GW := gw_t 203 _ (by decide +kernel) rfl
theorem kw204 : (Jvm.Cond.instanceMethod ({ cls := "MilesKept$Repairs", name := "<init>", desc := "(LMilesKept$Stands;)V" } : Jvm.MethodName)) ∈ GW := gw_t 204 _ (by decide +kernel) rfl
theorem kw205 : (Jvm.Cond.code ({ cls := "MilesKept$Repairs", name := "<init>", desc := "(LMilesKept$Stands;)V" } : Jvm.MethodName) prog_7_method_1_code (2 : Nat) (Option.none : Option Jvm.ClassFile.FieldType)) ∈ GW := gw_t 205 _ (by decide +kernel) rfl
theorem kw206 : (Jvm.Cond.methodLink "MilesKept$Repairs" (3 : Nat) ({ cls := "java/lang/Object", name := "<init>", desc := "()V" } : Jvm.MethodName)) ∈ GW := gw_t 206 _ (by decide +kernel) rfl
theorem kw207 : (Jvm.Cond.fieldLink "MilesKept$Repairs" (34 : Nat) "MilesKept$Repairs" "stands" "LMilesKept$Stands;") ∈ GW := gw_t 207 _ (by decide +kernel) rfl
theorem kw208 : (Jvm.Cond.fieldLink "MilesKept$Repairs" (9 : Nat) "MilesKept$Repairs" "until" "[I") ∈ GW := gw_t 208 _ (by decide +kernel) rfl
theorem kw209 : (Jvm.Cond.fieldLink "MilesKept$Repairs" (15 : Nat) "MilesKept$Repairs" "rest" "[I") ∈ GW := gw_t 209 _ (by decide +kernel) rfl
theorem kw210 : (Jvm.Cond.fieldLink "MilesKept$Repairs" (18 : Nat) "MilesKept$Repairs" "ways" "[J") ∈ GW := gw_t 210 _ (by decide +kernel) rfl
theorem kw211 : (Jvm.Cond.fieldLink "MilesKept$Repairs" (22 : Nat) "MilesKept$Repairs" "inEach" "[I") ∈ GW := gw_t 211 _ (by decide +kernel) rfl
theorem kw212 : (Jvm.Cond.fieldLink "MilesKept$Repairs" (25 : Nat) "MilesKept$Repairs" "inAny" "[I") ∈ GW := gw_t 212 _ (by decide +kernel) rfl
theorem kw213 : (Jvm.Cond.fieldLink "MilesKept$Repairs" (28 : Nat) "MilesKept$Repairs" "firstStands" "[I") ∈ GW := gw_t 213 _ (by decide +kernel) rfl
theorem kw214 : (Jvm.Cond.fieldLink "MilesKept$Repairs" (31 : Nat) "MilesKept$Repairs" "reasons" "[I") ∈ GW := gw_t 214 _ (by decide +kernel) rfl
theorem kw215 : (Jvm.Cond.fieldLink "MilesKept" (132 : Nat) "MilesKept$Repairs" "keptInFirst" "I") ∈ GW := gw_t 215 _ (by decide +kernel) rfl
theorem kw216 : (Jvm.Cond.fieldLink "MilesKept$Repairs" (113 : Nat) "MilesKept$Repairs" "keptInFirst" "I") ∈ GW := gw_t 216 _ (by decide +kernel) rfl
theorem kw217 : (Jvm.Cond.fieldLink "MilesKept" (142 : Nat) "MilesKept$Repairs" "swapAt" "I") ∈ GW := gw_t 217 _ (by decide +kernel) rfl
theorem kw218 : (Jvm.Cond.fieldLink "MilesKept$Repairs" (123 : Nat) "MilesKept$Repairs" "swapAt" "I") ∈ GW := gw_t 218 _ (by decide +kernel) rfl
theorem kw219 : (Jvm.Cond.fieldLink "MilesKept" (145 : Nat) "MilesKept$Repairs" "swapGood" "I") ∈ GW := gw_t 219 _ (by decide +kernel) rfl
theorem kw220 : (Jvm.Cond.fieldLink "MilesKept$Repairs" (126 : Nat) "MilesKept$Repairs" "swapGood" "I") ∈ GW := gw_t 220 _ (by decide +kernel) rfl
theorem kw221 : (Jvm.Cond.laysFinal "MilesKept$Repairs" "MilesKept$Repairs" "stands" "LMilesKept$Stands;") ∈ GW := gw_t 221 _ (by decide +kernel) rfl
theorem kw223 : (Jvm.Cond.laysFinal "MilesKept$Repairs" "MilesKept$Repairs" "until" "[I") ∈ GW := gw_t 223 _ (by decide +kernel) rfl
theorem kw225 : (Jvm.Cond.laysFinal "MilesKept$Repairs" "MilesKept$Repairs" "rest" "[I") ∈ GW := gw_t 225 _ (by decide +kernel) rfl
theorem kw227 : (Jvm.Cond.laysFinal "MilesKept$Repairs" "MilesKept$Repairs" "ways" "[J") ∈ GW := gw_t 227 _ (by decide +kernel) rfl
theorem kw229 : (Jvm.Cond.laysFinal "MilesKept$Repairs" "MilesKept$Repairs" "inEach" "[I") ∈ GW := gw_t 229 _ (by decide +kernel) rfl
theorem kw231 : (Jvm.Cond.laysFinal "MilesKept$Repairs" "MilesKept$Repairs" "inAny" "[I") ∈ GW := gw_t 231 _ (by decide +kernel) rfl
theorem kw233 : (Jvm.Cond.laysFinal "MilesKept$Repairs" "MilesKept$Repairs" "firstStands" "[I") ∈ GW := gw_t 233 _ (by decide +kernel) rfl
theorem kw235 : (Jvm.Cond.laysFinal "MilesKept$Repairs" "MilesKept$Repairs" "reasons" "[I") ∈ GW := gw_t 235 _ (by decide +kernel) rfl
theorem kw237 : (Jvm.Cond.lays "MilesKept$Repairs" "MilesKept$Repairs" "keptInFirst" "I") ∈ GW := gw_t 237 _ (by decide +kernel) rfl
theorem kw239 : (Jvm.Cond.lays "MilesKept$Repairs" "MilesKept$Repairs" "swapAt" "I") ∈ GW := gw_t 239 _ (by decide +kernel) rfl
theorem kw241 : (Jvm.Cond.lays "MilesKept$Repairs" "MilesKept$Repairs" "swapGood" "I") ∈ GW := gw_t 241 _ (by decide +kernel) rfl
theorem kw244 : (Jvm.Cond.arrayClass Jvm.ClassFile.FieldType.long) ∈ GW := gw_t 244 _ (by decide +kernel) rfl
theorem kw245 : (Jvm.Cond.classLink "MilesKept" (59 : Nat) "MilesKept$Losses") ∈ GW := gw_t 245 _ (by decide +kernel) rfl
theorem kw246 : (Jvm.Cond.instantiable "MilesKept$Losses" (5 : Nat)) ∈ GW := gw_t 246 _ (by decide +kernel) rfl
theorem kw247 : (Jvm.Cond.methodLink "MilesKept" (61 : Nat) ({ cls := "MilesKept$Losses", name := "<init>", desc := "(LMilesKept$Stands;)V" } : Jvm.MethodName)) ∈ GW := gw_t 247 _ (by decide +kernel) rfl
theorem kw248 : (Jvm.Cond.instanceMethod ({ cls := "MilesKept$Losses", name := "<init>", desc := "(LMilesKept$Stands;)V" } : Jvm.MethodName)) ∈ GW := gw_t 248 _ (by decide +kernel) rfl
theorem kw249 : (Jvm.Cond.code ({ cls := "MilesKept$Losses", name := "<init>", desc := "(LMilesKept$Stands;)V" } : Jvm.MethodName) prog_4_method_1_code (2 : Nat) (Option.none : Option Jvm.ClassFile.FieldType)) ∈ GW := gw_t 249 _ (by decide +kernel) rfl
theorem kw250 : (Jvm.Cond.methodLink "MilesKept$Losses" (3 : Nat) ({ cls := "java/lang/Object", name := "<init>", desc := "()V" } : Jvm.MethodName)) ∈ GW := gw_t 250 _ (by decide +kernel) rfl
theorem kw251 : (Jvm.Cond.fieldLink "MilesKept$Losses" (21 : Nat) "MilesKept$Losses" "stands" "LMilesKept$Stands;") ∈ GW := gw_t 251 _ (by decide +kernel) rfl
theorem kw252 : (Jvm.Cond.fieldLink "MilesKept$Losses" (9 : Nat) "MilesKept$Losses" "bests" "[I") ∈ GW := gw_t 252 _ (by decide +kernel) rfl
theorem kw253 : (Jvm.Cond.fieldLink "MilesKept$Losses" (15 : Nat) "MilesKept$Losses" "keptGoods" "[I") ∈ GW := gw_t 253 _ (by decide +kernel) rfl
theorem kw254 : (Jvm.Cond.fieldLink "MilesKept$Losses" (18 : Nat) "MilesKept$Losses" "enough" "[I") ∈ GW := gw_t 254 _ (by decide +kernel) rfl
theorem kw255 : (Jvm.Cond.fieldLink "MilesKept$Losses" (25 : Nat) "MilesKept$Losses" "known" "Z") ∈ GW := gw_t 255 _ (by decide +kernel) rfl
theorem kw256 : (Jvm.Cond.laysFinal "MilesKept$Losses" "MilesKept$Losses" "stands" "LMilesKept$Stands;") ∈ GW := gw_t 256 _ (by decide +kernel) rfl
theorem kw258 : (Jvm.Cond.laysFinal "MilesKept$Losses" "MilesKept$Losses" "bests" "[I") ∈ GW := gw_t 258 _ (by decide +kernel) rfl
theorem kw260 : (Jvm.Cond.laysFinal "MilesKept$Losses" "MilesKept$Losses" "keptGoods" "[I") ∈ GW := gw_t 260 _ (by decide +kernel) rfl
theorem kw262 : (Jvm.Cond.laysFinal "MilesKept$Losses" "MilesKept$Losses" "enough" "[I") ∈ GW := gw_t 262 _ (by decide +kernel) rfl
theorem kw264 : (Jvm.Cond.lays "MilesKept$Losses" "MilesKept$Losses" "known" "Z") ∈ GW := gw_t 264 _ (by decide +kernel) rfl
theorem kw267 : (Jvm.Cond.methodLink "MilesKept" (66 : Nat) ({ cls := "MilesKept", name := "repairAnew", desc := "()V" } : Jvm.MethodName)) ∈ GW := gw_t 267 _ (by decide +kernel) rfl
theorem kw269 : (Jvm.Cond.instanceMethod ({ cls := "MilesKept", name := "repairAnew", desc := "()V" } : Jvm.MethodName)) ∈ GW := gw_t 269 _ (by decide +kernel) rfl
theorem kw270 : (Jvm.Cond.code ({ cls := "MilesKept", name := "repairAnew", desc := "()V" } : Jvm.MethodName) prog_1_method_19_code (1 : Nat) (Option.none : Option Jvm.ClassFile.FieldType)) ∈ GW := gw_t 270 _ (by decide +kernel) rfl
theorem kw271 : (Jvm.Cond.methodLink "MilesKept" (219 : Nat) ({ cls := "MilesKept$Repairs", name := "solve", desc := "()V" } : Jvm.MethodName)) ∈ GW := gw_t 271 _ (by decide +kernel) rfl
theorem kw272 : (Jvm.Cond.instanceMethod ({ cls := "MilesKept$Repairs", name := "solve", desc := "()V" } : Jvm.MethodName)) ∈ GW := gw_t 272 _ (by decide +kernel) rfl
theorem kw273 : (Jvm.Cond.selects "MilesKept$Repairs" ({ cls := "MilesKept$Repairs", name := "solve", desc := "()V" } : Jvm.MethodName) ({ cls := "MilesKept$Repairs", name := "solve", desc := "()V" } : Jvm.MethodName)) ∈ GW := gw_t 273 _ (by decide +kernel) rfl
theorem kw274 : (Jvm.Cond.code ({ cls := "MilesKept$Repairs", name := "solve", desc := "()V" } : Jvm.MethodName) prog_7_method_2_code (1 : Nat) (Option.none : Option Jvm.ClassFile.FieldType)) ∈ GW := gw_t 274 _ (by decide +kernel) rfl
theorem kw275 : (Jvm.Cond.methodLink "MilesKept$Repairs" (38 : Nat) ({ cls := "MilesKept$Stands", name := "measure", desc := "()V" } : Jvm.MethodName)) ∈ GW := gw_t 275 _ (by decide +kernel) rfl
theorem kw276 : (Jvm.Cond.instanceMethod ({ cls := "MilesKept$Stands", name := "measure", desc := "()V" } : Jvm.MethodName)) ∈ GW := gw_t 276 _ (by decide +kernel) rfl
theorem kw277 : (Jvm.Cond.selects "MilesKept$Stands" ({ cls := "MilesKept$Stands", name := "measure", desc := "()V" } : Jvm.MethodName) ({ cls := "MilesKept$Stands", name := "measure", desc := "()V" } : Jvm.MethodName)) ∈ GW := gw_t 277 _ (by decide +kernel) rfl
theorem kw278 : (Jvm.Cond.code ({ cls := "MilesKept$Stands", name := "measure", desc := "()V" } : Jvm.MethodName) prog_8_method_7_code (5 : Nat) (Option.none : Option Jvm.ClassFile.FieldType)) ∈ GW := gw_t 278 _ (by decide +kernel) rfl
theorem kw279 : (Jvm.Cond.methodLink "MilesKept$Stands" (40 : Nat) ({ cls := "MilesKept$Stands", name := "standOf", desc := "(II)I" } : Jvm.MethodName)) ∈ GW := gw_t 279 _ (by decide +kernel) rfl
theorem kw280 : (Jvm.Cond.static ({ cls := "MilesKept$Stands", name := "standOf", desc := "(II)I" } : Jvm.MethodName)) ∈ GW := gw_t 280 _ (by decide +kernel) rfl
theorem kw281 : (Jvm.Cond.code ({ cls := "MilesKept$Stands", name := "standOf", desc := "(II)I" } : Jvm.MethodName) prog_8_method_4_code (2 : Nat) (Option.some Jvm.ClassFile.FieldType.int)) ∈ GW := gw_t 281 _ (by decide +kernel) rfl
theorem kw282 : (Jvm.Cond.methodLink "MilesKept$Stands" (51 : Nat) ({ cls := "MilesKept$Stands", name := "place", desc := "(IIII)V" } : Jvm.MethodName)) ∈ GW := gw_t 282 _ (by decide +kernel) rfl
theorem kw284 : (Jvm.Cond.instanceMethod ({ cls := "MilesKept$Stands", name := "place", desc := "(IIII)V" } : Jvm.MethodName)) ∈ GW := gw_t 284 _ (by decide +kernel) rfl
theorem kw285 : (Jvm.Cond.code ({ cls := "MilesKept$Stands", name := "place", desc := "(IIII)V" } : Jvm.MethodName) prog_8_method_8_code (6 : Nat) (Option.none : Option Jvm.ClassFile.FieldType)) ∈ GW := gw_t 285 _ (by decide +kernel) rfl
theorem kw286 : (Jvm.Cond.methodLink "MilesKept$Repairs" (43 : Nat) ({ cls := "MilesKept$Repairs", name := "goForward", desc := "()V" } : Jvm.MethodName)) ∈ GW := gw_t 286 _ (by decide +kernel) rfl
theorem kw288 : (Jvm.Cond.instanceMethod ({ cls := "MilesKept$Repairs", name := "goForward", desc := "()V" } : Jvm.MethodName)) ∈ GW := gw_t 288 _ (by decide +kernel) rfl
theorem kw289 : (Jvm.Cond.code ({ cls := "MilesKept$Repairs", name := "goForward", desc := "()V" } : Jvm.MethodName) prog_7_method_13_code (2 : Nat) (Option.none : Option Jvm.ClassFile.FieldType)) ∈ GW := gw_t 289 _ (by decide +kernel) rfl
theorem kw290 : (Jvm.Cond.methodLink "MilesKept$Repairs" (87 : Nat) ({ cls := "java/util/Arrays", name := "fill", desc := "([II)V" } : Jvm.MethodName)) ∈ GW := gw_t 290 _ (by decide +kernel) rfl
theorem kw291 : (Jvm.Cond.static ({ cls := "java/util/Arrays", name := "fill", desc := "([II)V" } : Jvm.MethodName)) ∈ GW := gw_t 291 _ (by decide +kernel) rfl
theorem kw292 : (Jvm.Cond.code ({ cls := "java/util/Arrays", name := "fill", desc := "([II)V" } : Jvm.MethodName) prog_14_method_103_code (4 : Nat) (Option.none : Option Jvm.ClassFile.FieldType)) ∈ GW := gw_t 292 _ (by decide +kernel) rfl
theorem kw293 : (Jvm.Cond.methodLink "MilesKept$Repairs" (93 : Nat) ({ cls := "MilesKept$Stands", name := "end", desc := "()I" } : Jvm.MethodName)) ∈ GW := gw_t 293 _ (by decide +kernel) rfl
theorem kw294 : (Jvm.Cond.instanceMethod ({ cls := "MilesKept$Stands", name := "end", desc := "()I" } : Jvm.MethodName)) ∈ GW := gw_t 294 _ (by decide +kernel) rfl
theorem kw295 : (Jvm.Cond.selects "MilesKept$Stands" ({ cls := "MilesKept$Stands", name := "end", desc := "()I" } : Jvm.MethodName) ({ cls := "MilesKept$Stands", name := "end", desc := "()I" } : Jvm.MethodName)) ∈ GW := gw_t 295 _ (by decide +kernel) rfl
theorem kw296 : (Jvm.Cond.code ({ cls := "MilesKept$Stands", name := "end", desc := "()I" } : Jvm.MethodName) prog_8_method_3_code (1 : Nat) (Option.some Jvm.ClassFile.FieldType.int)) ∈ GW := gw_t 296 _ (by decide +kernel) rfl
theorem kw297 : (Jvm.Cond.methodLink "MilesKept$Stands" (37 : Nat) ({ cls := "MilesKept$Stands", name := "size", desc := "()I" } : Jvm.MethodName)) ∈ GW := gw_t 297 _ (by decide +kernel) rfl
theorem kw298 : (Jvm.Cond.instanceMethod ({ cls := "MilesKept$Stands", name := "size", desc := "()I" } : Jvm.MethodName)) ∈ GW := gw_t 298 _ (by decide +kernel) rfl
theorem kw299 : (Jvm.Cond.selects "MilesKept$Stands" ({ cls := "MilesKept$Stands", name := "size", desc := "()I" } : Jvm.MethodName) ({ cls := "MilesKept$Stands", name := "size", desc := "()I" } : Jvm.MethodName)) ∈ GW := gw_t 299 _ (by decide +kernel) rfl
theorem kw300 : (Jvm.Cond.code ({ cls := "MilesKept$Stands", name := "size", desc := "()I" } : Jvm.MethodName) prog_8_method_2_code (1 : Nat) (Option.some Jvm.ClassFile.FieldType.int)) ∈ GW := gw_t 300 _ (by decide +kernel) rfl
theorem kw301 : (Jvm.Cond.methodLink "MilesKept$Repairs" (96 : Nat) ({ cls := "MilesKept$Repairs", name := "spread", desc := "(I)V" } : Jvm.MethodName)) ∈ GW := gw_t 301 _ (by decide +kernel) rfl
theorem kw303 : (Jvm.Cond.instanceMethod ({ cls := "MilesKept$Repairs", name := "spread", desc := "(I)V" } : Jvm.MethodName)) ∈ GW := gw_t 303 _ (by decide +kernel) rfl
theorem kw304 : (Jvm.Cond.code ({ cls := "MilesKept$Repairs", name := "spread", desc := "(I)V" } : Jvm.MethodName) prog_7_method_14_code (5 : Nat) (Option.none : Option Jvm.ClassFile.FieldType)) ∈ GW := gw_t 304 _ (by decide +kernel) rfl
theorem kw305 : (Jvm.Cond.methodLink "MilesKept$Repairs" (100 : Nat) ({ cls := "MilesKept$Stands", name := "readingOf", desc := "(I)I" } : Jvm.MethodName)) ∈ GW := gw_t 305 _ (by decide +kernel) rfl
theorem kw306 : (Jvm.Cond.static ({ cls := "MilesKept$Stands", name := "readingOf", desc := "(I)I" } : Jvm.MethodName)) ∈ GW := gw_t 306 _ (by decide +kernel) rfl
theorem kw307 : (Jvm.Cond.code ({ cls := "MilesKept$Stands", name := "readingOf", desc := "(I)I" } : Jvm.MethodName) prog_8_method_5_code (1 : Nat) (Option.some Jvm.ClassFile.FieldType.int)) ∈ GW := gw_t 307 _ (by decide +kernel) rfl
theorem kw308 : (Jvm.Cond.methodLink "MilesKept$Repairs" (83 : Nat) ({ cls := "MilesKept$Stands", name := "size", desc := "()I" } : Jvm.MethodName)) ∈ GW := gw_t 308 _ (by decide +kernel) rfl
theorem kw309 : (Jvm.Cond.methodLink "MilesKept$Repairs" (103 : Nat) ({ cls := "MilesKept$Stands", name := "following", desc := "(III)I" } : Jvm.MethodName)) ∈ GW := gw_t 309 _ (by decide +kernel) rfl
theorem kw310 : (Jvm.Cond.instanceMethod ({ cls := "MilesKept$Stands", name := "following", desc := "(III)I" } : Jvm.MethodName)) ∈ GW := gw_t 310 _ (by decide +kernel) rfl
theorem kw311 : (Jvm.Cond.selects "MilesKept$Stands" ({ cls := "MilesKept$Stands", name := "following", desc := "(III)I" } : Jvm.MethodName) ({ cls := "MilesKept$Stands", name := "following", desc := "(III)I" } : Jvm.MethodName)) ∈ GW := gw_t 311 _ (by decide +kernel) rfl
theorem kw312 : (Jvm.Cond.code ({ cls := "MilesKept$Stands", name := "following", desc := "(III)I" } : Jvm.MethodName) prog_8_method_9_code (7 : Nat) (Option.some Jvm.ClassFile.FieldType.int)) ∈ GW := gw_t 312 _ (by decide +kernel) rfl
theorem kw313 : (Jvm.Cond.methodLink "MilesKept$Stands" (58 : Nat) ({ cls := "MilesKept$Stands", name := "mostGone", desc := "(II)I" } : Jvm.MethodName)) ∈ GW := gw_t 313 _ (by decide +kernel) rfl
theorem kw314 : (Jvm.Cond.instanceMethod ({ cls := "MilesKept$Stands", name := "mostGone", desc := "(II)I" } : Jvm.MethodName)) ∈ GW := gw_t 314 _ (by decide +kernel) rfl
theorem kw315 : (Jvm.Cond.selects "MilesKept$Stands" ({ cls := "MilesKept$Stands", name := "mostGone", desc := "(II)I" } : Jvm.MethodName) ({ cls := "MilesKept$Stands", name := "mostGone", desc := "(II)I" } : Jvm.MethodName)) ∈ GW := gw_t 315 _ (by decide +kernel) rfl
theorem kw316 : (Jvm.Cond.code ({ cls := "MilesKept$Stands", name := "mostGone", desc := "(II)I" } : Jvm.MethodName) prog_8_method_10_code (3 : Nat) (Option.some Jvm.ClassFile.FieldType.int)) ∈ GW := gw_t 316 _ (by decide +kernel) rfl
theorem kw317 : (Jvm.Cond.methodLink "MilesKept$Repairs" (80 : Nat) ({ cls := "java/lang/Math", name := "max", desc := "(II)I" } : Jvm.MethodName)) ∈ GW := gw_t 317 _ (by decide +kernel) rfl
theorem kw318 : (Jvm.Cond.static ({ cls := "java/lang/Math", name := "max", desc := "(II)I" } : Jvm.MethodName)) ∈ GW := gw_t 318 _ (by decide +kernel) rfl
theorem kw319 : (Jvm.Cond.code ({ cls := "java/lang/Math", name := "max", desc := "(II)I" } : Jvm.MethodName) prog_13_method_65_code (2 : Nat) (Option.some Jvm.ClassFile.FieldType.int)) ∈ GW := gw_t 319 _ (by decide +kernel) rfl
theorem kw320 : (Jvm.Cond.methodLink "MilesKept$Repairs" (46 : Nat) ({ cls := "MilesKept$Repairs", name := "goBackward", desc := "()V" } : Jvm.MethodName)) ∈ GW := gw_t 320 _ (by decide +kernel) rfl
theorem kw322 : (Jvm.Cond.instanceMethod ({ cls := "MilesKept$Repairs", name := "goBackward", desc := "()V" } : Jvm.MethodName)) ∈ GW := gw_t 322 _ (by decide +kernel) rfl
theorem kw323 : (Jvm.Cond.code ({ cls := "MilesKept$Repairs", name := "goBackward", desc := "()V" } : Jvm.MethodName) prog_7_method_15_code (2 : Nat) (Option.none : Option Jvm.ClassFile.FieldType)) ∈ GW := gw_t 323 _ (by decide +kernel) rfl
theorem kw324 : (Jvm.Cond.methodLink "MilesKept$Repairs" (110 : Nat) ({ cls := "MilesKept$Repairs", name := "gather", desc := "(I)V" } : Jvm.MethodName)) ∈ GW := gw_t 324 _ (by decide +kernel) rfl
theorem kw326 : (Jvm.Cond.instanceMethod ({ cls := "MilesKept$Repairs", name := "gather", desc := "(I)V" } : Jvm.MethodName)) ∈ GW := gw_t 326 _ (by decide +kernel) rfl
theorem kw327 : (Jvm.Cond.code ({ cls := "MilesKept$Repairs", name := "gather", desc := "(I)V" } : Jvm.MethodName) prog_7_method_16_code (11 : Nat) (Option.none : Option Jvm.ClassFile.FieldType)) ∈ GW := gw_t 327 _ (by decide +kernel) rfl
theorem kw328 : (Jvm.Cond.methodLink "MilesKept$Repairs" (49 : Nat) ({ cls := "MilesKept$Repairs", name := "chooseFirst", desc := "()V" } : Jvm.MethodName)) ∈ GW := gw_t 328 _ (by decide +kernel) rfl
theorem kw330 : (Jvm.Cond.instanceMethod ({ cls := "MilesKept$Repairs", name := "chooseFirst", desc := "()V" } : Jvm.MethodName)) ∈ GW := gw_t 330 _ (by decide +kernel) rfl
theorem kw331 : (Jvm.Cond.code ({ cls := "MilesKept$Repairs", name := "chooseFirst", desc := "()V" } : Jvm.MethodName) prog_7_method_17_code (5 : Nat) (Option.none : Option Jvm.ClassFile.FieldType)) ∈ GW := gw_t 331 _ (by decide +kernel) rfl
theorem kw332 : (Jvm.Cond.methodLink "MilesKept$Repairs" (117 : Nat) ({ cls := "MilesKept$Repairs", name := "bestStand", desc := "(III)I" } : Jvm.MethodName)) ∈ GW := gw_t 332 _ (by decide +kernel) rfl
theorem kw334 : (Jvm.Cond.instanceMethod ({ cls := "MilesKept$Repairs", name := "bestStand", desc := "(III)I" } : Jvm.MethodName)) ∈ GW := gw_t 334 _ (by decide +kernel) rfl
theorem kw335 : (Jvm.Cond.code ({ cls := "MilesKept$Repairs", name := "bestStand", desc := "(III)I" } : Jvm.MethodName) prog_7_method_18_code (6 : Nat) (Option.some Jvm.ClassFile.FieldType.int)) ∈ GW := gw_t 335 _ (by decide +kernel) rfl
theorem kw336 : (Jvm.Cond.methodLink "MilesKept$Repairs" (120 : Nat) ({ cls := "MilesKept$Repairs", name := "reasonBehind", desc := "(II)I" } : Jvm.MethodName)) ∈ GW := gw_t 336 _ (by decide +kernel) rfl
theorem kw338 : (Jvm.Cond.instanceMethod ({ cls := "MilesKept$Repairs", name := "reasonBehind", desc := "(II)I" } : Jvm.MethodName)) ∈ GW := gw_t 338 _ (by decide +kernel) rfl
theorem kw339 : (Jvm.Cond.code ({ cls := "MilesKept$Repairs", name := "reasonBehind", desc := "(II)I" } : Jvm.MethodName) prog_7_method_19_code (3 : Nat) (Option.some Jvm.ClassFile.FieldType.int)) ∈ GW := gw_t 339 _ (by decide +kernel) rfl
theorem kw340 : (Jvm.Cond.methodLink "MilesKept$Repairs" (52 : Nat) ({ cls := "MilesKept$Repairs", name := "findSwap", desc := "()V" } : Jvm.MethodName)) ∈ GW := gw_t 340 _ (by decide +kernel) rfl
theorem kw342 : (Jvm.Cond.instanceMethod ({ cls := "MilesKept$Repairs", name := "findSwap", desc := "()V" } : Jvm.MethodName)) ∈ GW := gw_t 342 _ (by decide +kernel) rfl
theorem kw343 : (Jvm.Cond.code ({ cls := "MilesKept$Repairs", name := "findSwap", desc := "()V" } : Jvm.MethodName) prog_7_method_20_code (4 : Nat) (Option.none : Option Jvm.ClassFile.FieldType)) ∈ GW := gw_t 343 _ (by decide +kernel) rfl
theorem kw344 : (Jvm.Cond.methodLink "MilesKept$Repairs" (129 : Nat) ({ cls := "MilesKept$Repairs", name := "bestGood", desc := "()I" } : Jvm.MethodName)) ∈ GW := gw_t 344 _ (by decide +kernel) rfl
theorem kw345 : (Jvm.Cond.instanceMethod ({ cls := "MilesKept$Repairs", name := "bestGood", desc := "()I" } : Jvm.MethodName)) ∈ GW := gw_t 345 _ (by decide +kernel) rfl
theorem kw346 : (Jvm.Cond.selects "MilesKept$Repairs" ({ cls := "MilesKept$Repairs", name := "bestGood", desc := "()I" } : Jvm.MethodName) ({ cls := "MilesKept$Repairs", name := "bestGood", desc := "()I" } : Jvm.MethodName)) ∈ GW := gw_t 346 _ (by decide +kernel) rfl
theorem kw347 : (Jvm.Cond.code ({ cls := "MilesKept$Repairs", name := "bestGood", desc := "()I" } : Jvm.MethodName) prog_7_method_3_code (1 : Nat) (Option.some Jvm.ClassFile.FieldType.int)) ∈ GW := gw_t 347 _ (by decide +kernel) rfl
theorem kw348 : (Jvm.Cond.methodLink "MilesKept$Repairs" (132 : Nat) ({ cls := "MilesKept$Repairs", name := "goodAhead", desc := "(I)I" } : Jvm.MethodName)) ∈ GW := gw_t 348 _ (by decide +kernel) rfl
theorem kw350 : (Jvm.Cond.instanceMethod ({ cls := "MilesKept$Repairs", name := "goodAhead", desc := "(I)I" } : Jvm.MethodName)) ∈ GW := gw_t 350 _ (by decide +kernel) rfl
theorem kw351 : (Jvm.Cond.code ({ cls := "MilesKept$Repairs", name := "goodAhead", desc := "(I)I" } : Jvm.MethodName) prog_7_method_21_code (4 : Nat) (Option.some Jvm.ClassFile.FieldType.int)) ∈ GW := gw_t 351 _ (by decide +kernel) rfl
theorem kw352 : (Jvm.Cond.methodLink "MilesKept$Repairs" (138 : Nat) ({ cls := "MilesKept$Stands", name := "standOf", desc := "(II)I" } : Jvm.MethodName)) ∈ GW := gw_t 352 _ (by decide +kernel) rfl
theorem kw353 : (Jvm.Cond.methodLink "MilesKept$Repairs" (135 : Nat) ({ cls := "MilesKept$Repairs", name := "goodFrom", desc := "(I)I" } : Jvm.MethodName)) ∈ GW := gw_t 353 _ (by decide +kernel) rfl
theorem kw355 : (Jvm.Cond.instanceMethod ({ cls := "MilesKept$Repairs", name := "goodFrom", desc := "(I)I" } : Jvm.MethodName)) ∈ GW := gw_t 355 _ (by decide +kernel) rfl
theorem kw356 : (Jvm.Cond.code ({ cls := "MilesKept$Repairs", name := "goodFrom", desc := "(I)I" } : Jvm.MethodName) prog_7_method_22_code (5 : Nat) (Option.some Jvm.ClassFile.FieldType.int)) ∈ GW := gw_t 356 _ (by decide +kernel) rfl
theorem kw357 : (Jvm.Cond.methodLink "MilesKept" (222 : Nat) ({ cls := "MilesKept$Losses", name := "forget", desc := "()V" } : Jvm.MethodName)) ∈ GW := gw_t 357 _ (by decide +kernel) rfl
theorem kw358 : (Jvm.Cond.instanceMethod ({ cls := "MilesKept$Losses", name := "forget", desc := "()V" } : Jvm.MethodName)) ∈ GW := gw_t 358 _ (by decide +kernel) rfl
theorem kw359 : (Jvm.Cond.selects "MilesKept$Losses" ({ cls := "MilesKept$Losses", name := "forget", desc := "()V" } : Jvm.MethodName) ({ cls := "MilesKept$Losses", name := "forget", desc := "()V" } : Jvm.MethodName)) ∈ GW := gw_t 359 _ (by decide +kernel) rfl
theorem kw360 : (Jvm.Cond.code ({ cls := "MilesKept$Losses", name := "forget", desc := "()V" } : Jvm.MethodName) prog_4_method_2_code (1 : Nat) (Option.none : Option Jvm.ClassFile.FieldType)) ∈ GW := gw_t 360 _ (by decide +kernel) rfl
theorem kw361 : (Jvm.Cond.methodLink "MilesKept" (69 : Nat) ({ cls := "MilesKept$Plates", name := "follow", desc := "()V" } : Jvm.MethodName)) ∈ GW := gw_t 361 _ (by decide +kernel) rfl
theorem kw362 : (Jvm.Cond.instanceMethod ({ cls := "MilesKept$Plates", name := "follow", desc := "()V" } : Jvm.MethodName)) ∈ GW := gw_t 362 _ (by decide +kernel) rfl
theorem kw363 : (Jvm.Cond.selects "MilesKept$Plates" ({ cls := "MilesKept$Plates", name := "follow", desc := "()V" } : Jvm.MethodName) ({ cls := "MilesKept$Plates", name := "follow", desc := "()V" } : Jvm.MethodName)) ∈ GW := gw_t 363 _ (by decide +kernel) rfl
theorem kw364 : (Jvm.Cond.code ({ cls := "MilesKept$Plates", name := "follow", desc := "()V" } : Jvm.MethodName) prog_6_method_4_code (3 : Nat) (Option.none : Option Jvm.ClassFile.FieldType)) ∈ GW := gw_t 364 _ (by decide +kernel) rfl
theorem kw365 : (Jvm.Cond.methodLink "MilesKept$Plates" (39 : Nat) ({ cls := "MilesKept$Plates", name := "countBackward", desc := "()V" } : Jvm.MethodName)) ∈ GW := gw_t 365 _ (by decide +kernel) rfl
theorem kw367 : (Jvm.Cond.instanceMethod ({ cls := "MilesKept$Plates", name := "countBackward", desc := "()V" } : Jvm.MethodName)) ∈ GW := gw_t 367 _ (by decide +kernel) rfl
theorem kw368 : (Jvm.Cond.code ({ cls := "MilesKept$Plates", name := "countBackward", desc := "()V" } : Jvm.MethodName) prog_6_method_6_code (4 : Nat) (Option.none : Option Jvm.ClassFile.FieldType)) ∈ GW := gw_t 368 _ (by decide +kernel) rfl
theorem kw369 : (Jvm.Cond.methodLink "MilesKept$Plates" (63 : Nat) ({ cls := "java/util/Arrays", name := "fill", desc := "([II)V" } : Jvm.MethodName)) ∈ GW := gw_t 369 _ (by decide +kernel) rfl
theorem kw370 : (Jvm.Cond.methodLink "MilesKept$Plates" (53 : Nat) ({ cls := "MilesKept$Plates", name := "mostFrom", desc := "(II)I" } : Jvm.MethodName)) ∈ GW := gw_t 370 _ (by decide +kernel) rfl
theorem kw372 : (Jvm.Cond.instanceMethod ({ cls := "MilesKept$Plates", name := "mostFrom", desc := "(II)I" } : Jvm.MethodName)) ∈ GW := gw_t 372 _ (by decide +kernel) rfl
theorem kw373 : (Jvm.Cond.code ({ cls := "MilesKept$Plates", name := "mostFrom", desc := "(II)I" } : Jvm.MethodName) prog_6_method_9_code (3 : Nat) (Option.some Jvm.ClassFile.FieldType.int)) ∈ GW := gw_t 373 _ (by decide +kernel) rfl
theorem kw374 : (Jvm.Cond.methodLink "MilesKept$Plates" (45 : Nat) ({ cls := "MilesKept$Plates", name := "isLink", desc := "(II)Z" } : Jvm.MethodName)) ∈ GW := gw_t 374 _ (by decide +kernel) rfl
theorem kw376 : (Jvm.Cond.instanceMethod ({ cls := "MilesKept$Plates", name := "isLink", desc := "(II)Z" } : Jvm.MethodName)) ∈ GW := gw_t 376 _ (by decide +kernel) rfl
theorem kw377 : (Jvm.Cond.code ({ cls := "MilesKept$Plates", name := "isLink", desc := "(II)Z" } : Jvm.MethodName) prog_6_method_7_code (3 : Nat) (Option.some Jvm.ClassFile.FieldType.boolean)) ∈ GW := gw_t 377 _ (by decide +kernel) rfl
theorem kw378 : (Jvm.Cond.methodLink "MilesKept$Plates" (49 : Nat) ({ cls := "MilesKept$Plates", name := "withLink", desc := "(I)I" } : Jvm.MethodName)) ∈ GW := gw_t 378 _ (by decide +kernel) rfl
theorem kw380 : (Jvm.Cond.instanceMethod ({ cls := "MilesKept$Plates", name := "withLink", desc := "(I)I" } : Jvm.MethodName)) ∈ GW := gw_t 380 _ (by decide +kernel) rfl
theorem kw381 : (Jvm.Cond.code ({ cls := "MilesKept$Plates", name := "withLink", desc := "(I)I" } : Jvm.MethodName) prog_6_method_8_code (2 : Nat) (Option.some Jvm.ClassFile.FieldType.int)) ∈ GW := gw_t 381 _ (by decide +kernel) rfl
theorem kw382 : (Jvm.Cond.methodLink "MilesKept$Plates" (69 : Nat) ({ cls := "java/lang/Math", name := "max", desc := "(II)I" } : Jvm.MethodName)) ∈ GW := gw_t 382 _ (by decide +kernel) rfl
theorem kw383 : (Jvm.Cond.fieldLink "MilesKept" (12 : Nat) "MilesKept" "history" "LMilesKept$History;") ∈ GW := gw_t 383 _ (by decide +kernel) rfl
theorem kw384 : (Jvm.Cond.fieldLink "MilesKept" (19 : Nat) "MilesKept" "plates" "LMilesKept$Plates;") ∈ GW := gw_t 384 _ (by decide +kernel) rfl
theorem kw385 : (Jvm.Cond.fieldLink "MilesKept" (26 : Nat) "MilesKept" "teller" "LMilesKept$Teller;") ∈ GW := gw_t 385 _ (by decide +kernel) rfl
theorem kw386 : (Jvm.Cond.fieldLink "MilesKept" (33 : Nat) "MilesKept" "past" "LMilesKept$Past;") ∈ GW := gw_t 386 _ (by decide +kernel) rfl
theorem kw387 : (Jvm.Cond.fieldLink "MilesKept" (37 : Nat) "MilesKept" "images" "[LMilesKept$History;") ∈ GW := gw_t 387 _ (by decide +kernel) rfl
theorem kw388 : (Jvm.Cond.fieldLink "MilesKept" (41 : Nat) "MilesKept" "imageKept" "[Z") ∈ GW := gw_t 388 _ (by decide +kernel) rfl
theorem kw389 : (Jvm.Cond.fieldLink "MilesKept" (55 : Nat) "MilesKept" "repairs" "LMilesKept$Repairs;") ∈ GW := gw_t 389 _ (by decide +kernel) rfl
theorem kw390 : (Jvm.Cond.fieldLink "MilesKept" (62 : Nat) "MilesKept" "losses" "LMilesKept$Losses;") ∈ GW := gw_t 390 _ (by decide +kernel) rfl
theorem kw391 : (Jvm.Cond.laysFinal "MilesKept" "MilesKept" "history" "LMilesKept$History;") ∈ GW := gw_t 391 _ (by decide +kernel) rfl
theorem kw393 : (Jvm.Cond.laysFinal "MilesKept" "MilesKept" "plates" "LMilesKept$Plates;") ∈ GW := gw_t 393 _ (by decide +kernel) rfl
theorem kw395 : (Jvm.Cond.laysFinal "MilesKept" "MilesKept" "teller" "LMilesKept$Teller;") ∈ GW := gw_t 395 _ (by decide +kernel) rfl
theorem kw397 : (Jvm.Cond.laysFinal "MilesKept" "MilesKept" "past" "LMilesKept$Past;") ∈ GW := gw_t 397 _ (by decide +kernel) rfl
theorem kw399 : (Jvm.Cond.laysFinal "MilesKept" "MilesKept" "images" "[LMilesKept$History;") ∈ GW := gw_t 399 _ (by decide +kernel) rfl
theorem kw401 : (Jvm.Cond.laysFinal "MilesKept" "MilesKept" "imageKept" "[Z") ∈ GW := gw_t 401 _ (by decide +kernel) rfl
theorem kw403 : (Jvm.Cond.laysFinal "MilesKept" "MilesKept" "repairs" "LMilesKept$Repairs;") ∈ GW := gw_t 403 _ (by decide +kernel) rfl
theorem kw405 : (Jvm.Cond.laysFinal "MilesKept" "MilesKept" "losses" "LMilesKept$Losses;") ∈ GW := gw_t 405 _ (by decide +kernel) rfl
theorem kw408 : (Jvm.Cond.methodLink "MilesKeptLaw" (13 : Nat) ({ cls := "MilesKept", name := "type", desc := "(I)I" } : Jvm.MethodName)) ∈ GW := gw_t 408 _ (by decide +kernel) rfl
theorem kw409 : (Jvm.Cond.instanceMethod ({ cls := "MilesKept", name := "type", desc := "(I)I" } : Jvm.MethodName)) ∈ GW := gw_t 409 _ (by decide +kernel) rfl
theorem kw410 : (Jvm.Cond.selects "MilesKept" ({ cls := "MilesKept", name := "type", desc := "(I)I" } : Jvm.MethodName) ({ cls := "MilesKept", name := "type", desc := "(I)I" } : Jvm.MethodName)) ∈ GW := gw_t 410 _ (by decide +kernel) rfl
theorem kw411 : (Jvm.Cond.code ({ cls := "MilesKept", name := "type", desc := "(I)I" } : Jvm.MethodName) prog_1_method_2_code (2 : Nat) (Option.some Jvm.ClassFile.FieldType.int)) ∈ GW := gw_t 411 _ (by decide +kernel) rfl
theorem kw412 : (Jvm.Cond.methodLink "MilesKept" (72 : Nat) ({ cls := "MilesKept$Teller", name := "take", desc := "(I)I" } : Jvm.MethodName)) ∈ GW := gw_t 412 _ (by decide +kernel) rfl
theorem kw413 : (Jvm.Cond.instanceMethod ({ cls := "MilesKept$Teller", name := "take", desc := "(I)I" } : Jvm.MethodName)) ∈ GW := gw_t 413 _ (by decide +kernel) rfl
theorem kw414 : (Jvm.Cond.selects "MilesKept$Teller" ({ cls := "MilesKept$Teller", name := "take", desc := "(I)I" } : Jvm.MethodName) ({ cls := "MilesKept$Teller", name := "take", desc := "(I)I" } : Jvm.MethodName)) ∈ GW := gw_t 414 _ (by decide +kernel) rfl
theorem kw415 : (Jvm.Cond.code ({ cls := "MilesKept$Teller", name := "take", desc := "(I)I" } : Jvm.MethodName) prog_9_method_2_code (2 : Nat) (Option.some Jvm.ClassFile.FieldType.int)) ∈ GW := gw_t 415 _ (by decide +kernel) rfl
theorem kw416 : (Jvm.Cond.methodLink "MilesKeptLaw" (18 : Nat) ({ cls := "MilesKept", name := "clear", desc := "()I" } : Jvm.MethodName)) ∈ GW := gw_t 416 _ (by decide +kernel) rfl
theorem kw417 : (Jvm.Cond.instanceMethod ({ cls := "MilesKept", name := "clear", desc := "()I" } : Jvm.MethodName)) ∈ GW := gw_t 417 _ (by decide +kernel) rfl
theorem kw418 : (Jvm.Cond.selects "MilesKept" ({ cls := "MilesKept", name := "clear", desc := "()I" } : Jvm.MethodName) ({ cls := "MilesKept", name := "clear", desc := "()I" } : Jvm.MethodName)) ∈ GW := gw_t 418 _ (by decide +kernel) rfl
theorem kw419 : (Jvm.Cond.code ({ cls := "MilesKept", name := "clear", desc := "()I" } : Jvm.MethodName) prog_1_method_3_code (1 : Nat) (Option.some Jvm.ClassFile.FieldType.int)) ∈ GW := gw_t 419 _ (by decide +kernel) rfl
theorem kw420 : (Jvm.Cond.methodLink "MilesKept" (76 : Nat) ({ cls := "MilesKept$Teller", name := "empty", desc := "()I" } : Jvm.MethodName)) ∈ GW := gw_t 420 _ (by decide +kernel) rfl
theorem kw421 : (Jvm.Cond.instanceMethod ({ cls := "MilesKept$Teller", name := "empty", desc := "()I" } : Jvm.MethodName)) ∈ GW := gw_t 421 _ (by decide +kernel) rfl
theorem kw422 : (Jvm.Cond.selects "MilesKept$Teller" ({ cls := "MilesKept$Teller", name := "empty", desc := "()I" } : Jvm.MethodName) ({ cls := "MilesKept$Teller", name := "empty", desc := "()I" } : Jvm.MethodName)) ∈ GW := gw_t 422 _ (by decide +kernel) rfl
theorem kw423 : (Jvm.Cond.code ({ cls := "MilesKept$Teller", name := "empty", desc := "()I" } : Jvm.MethodName) prog_9_method_3_code (2 : Nat) (Option.some Jvm.ClassFile.FieldType.int)) ∈ GW := gw_t 423 _ (by decide +kernel) rfl
theorem kw424 : (Jvm.Cond.methodLink "MilesKeptLaw" (23 : Nat) ({ cls := "MilesKept", name := "house", desc := "()I" } : Jvm.MethodName)) ∈ GW := gw_t 424 _ (by decide +kernel) rfl
theorem kw425 : (Jvm.Cond.instanceMethod ({ cls := "MilesKept", name := "house", desc := "()I" } : Jvm.MethodName)) ∈ GW := gw_t 425 _ (by decide +kernel) rfl
theorem kw426 : (Jvm.Cond.selects "MilesKept" ({ cls := "MilesKept", name := "house", desc := "()I" } : Jvm.MethodName) ({ cls := "MilesKept", name := "house", desc := "()I" } : Jvm.MethodName)) ∈ GW := gw_t 426 _ (by decide +kernel) rfl
theorem kw427 : (Jvm.Cond.code ({ cls := "MilesKept", name := "house", desc := "()I" } : Jvm.MethodName) prog_1_method_4_code (3 : Nat) (Option.some Jvm.ClassFile.FieldType.int)) ∈ GW := gw_t 427 _ (by decide +kernel) rfl
theorem kw428 : (Jvm.Cond.methodLink "MilesKept" (80 : Nat) ({ cls := "MilesKept$Teller", name := "read", desc := "()I" } : Jvm.MethodName)) ∈ GW := gw_t 428 _ (by decide +kernel) rfl
theorem kw429 : (Jvm.Cond.instanceMethod ({ cls := "MilesKept$Teller", name := "read", desc := "()I" } : Jvm.MethodName)) ∈ GW := gw_t 429 _ (by decide +kernel) rfl
theorem kw430 : (Jvm.Cond.selects "MilesKept$Teller" ({ cls := "MilesKept$Teller", name := "read", desc := "()I" } : Jvm.MethodName) ({ cls := "MilesKept$Teller", name := "read", desc := "()I" } : Jvm.MethodName)) ∈ GW := gw_t 430 _ (by decide +kernel) rfl
theorem kw431 : (Jvm.Cond.code ({ cls := "MilesKept$Teller", name := "read", desc := "()I" } : Jvm.MethodName) prog_9_method_4_code (3 : Nat) (Option.some Jvm.ClassFile.FieldType.int)) ∈ GW := gw_t 431 _ (by decide +kernel) rfl
theorem kw432 : (Jvm.Cond.methodLink "MilesKept$Teller" (33 : Nat) ({ cls := "MilesKept$Teller", name := "begin", desc := "()V" } : Jvm.MethodName)) ∈ GW := gw_t 432 _ (by decide +kernel) rfl
theorem kw434 : (Jvm.Cond.instanceMethod ({ cls := "MilesKept$Teller", name := "begin", desc := "()V" } : Jvm.MethodName)) ∈ GW := gw_t 434 _ (by decide +kernel) rfl
theorem kw435 : (Jvm.Cond.code ({ cls := "MilesKept$Teller", name := "begin", desc := "()V" } : Jvm.MethodName) prog_9_method_5_code (1 : Nat) (Option.none : Option Jvm.ClassFile.FieldType)) ∈ GW := gw_t 435 _ (by decide +kernel) rfl
theorem kw436 : (Jvm.Cond.methodLink "MilesKept$Teller" (61 : Nat) ({ cls := "MilesKept$History", name := "reset", desc := "()V" } : Jvm.MethodName)) ∈ GW := gw_t 436 _ (by decide +kernel) rfl
theorem kw437 : (Jvm.Cond.instanceMethod ({ cls := "MilesKept$History", name := "reset", desc := "()V" } : Jvm.MethodName)) ∈ GW := gw_t 437 _ (by decide +kernel) rfl
theorem kw438 : (Jvm.Cond.selects "MilesKept$History" ({ cls := "MilesKept$History", name := "reset", desc := "()V" } : Jvm.MethodName) ({ cls := "MilesKept$History", name := "reset", desc := "()V" } : Jvm.MethodName)) ∈ GW := gw_t 438 _ (by decide +kernel) rfl
theorem kw439 : (Jvm.Cond.code ({ cls := "MilesKept$History", name := "reset", desc := "()V" } : Jvm.MethodName) prog_3_method_2_code (1 : Nat) (Option.none : Option Jvm.ClassFile.FieldType)) ∈ GW := gw_t 439 _ (by decide +kernel) rfl
theorem kw440 : (Jvm.Cond.methodLink "MilesKept$Teller" (64 : Nat) ({ cls := "MilesKept$Plates", name := "reset", desc := "()V" } : Jvm.MethodName)) ∈ GW := gw_t 440 _ (by decide +kernel) rfl
theorem kw441 : (Jvm.Cond.instanceMethod ({ cls := "MilesKept$Plates", name := "reset", desc := "()V" } : Jvm.MethodName)) ∈ GW := gw_t 441 _ (by decide +kernel) rfl
theorem kw442 : (Jvm.Cond.selects "MilesKept$Plates" ({ cls := "MilesKept$Plates", name := "reset", desc := "()V" } : Jvm.MethodName) ({ cls := "MilesKept$Plates", name := "reset", desc := "()V" } : Jvm.MethodName)) ∈ GW := gw_t 442 _ (by decide +kernel) rfl
theorem kw443 : (Jvm.Cond.code ({ cls := "MilesKept$Plates", name := "reset", desc := "()V" } : Jvm.MethodName) prog_6_method_2_code (1 : Nat) (Option.none : Option Jvm.ClassFile.FieldType)) ∈ GW := gw_t 443 _ (by decide +kernel) rfl
theorem kw444 : (Jvm.Cond.methodLink "MilesKept$Teller" (36 : Nat) ({ cls := "MilesKept$Teller", name := "nextToken", desc := "()V" } : Jvm.MethodName)) ∈ GW := gw_t 444 _ (by decide +kernel) rfl
theorem kw446 : (Jvm.Cond.instanceMethod ({ cls := "MilesKept$Teller", name := "nextToken", desc := "()V" } : Jvm.MethodName)) ∈ GW := gw_t 446 _ (by decide +kernel) rfl
theorem kw447 : (Jvm.Cond.code ({ cls := "MilesKept$Teller", name := "nextToken", desc := "()V" } : Jvm.MethodName) prog_9_method_14_code (1 : Nat) (Option.none : Option Jvm.ClassFile.FieldType)) ∈ GW := gw_t 447 _ (by decide +kernel) rfl
theorem kw448 : (Jvm.Cond.methodLink "MilesKept$Teller" (125 : Nat) ({ cls := "MilesKept$Teller", name := "isDigit", desc := "(I)Z" } : Jvm.MethodName)) ∈ GW := gw_t 448 _ (by decide +kernel) rfl
theorem kw449 : (Jvm.Cond.static ({ cls := "MilesKept$Teller", name := "isDigit", desc := "(I)Z" } : Jvm.MethodName)) ∈ GW := gw_t 449 _ (by decide +kernel) rfl
theorem kw450 : (Jvm.Cond.code ({ cls := "MilesKept$Teller", name := "isDigit", desc := "(I)Z" } : Jvm.MethodName) prog_9_method_16_code (1 : Nat) (Option.some Jvm.ClassFile.FieldType.boolean)) ∈ GW := gw_t 450 _ (by decide +kernel) rfl
theorem kw451 : (Jvm.Cond.methodLink "MilesKept$Teller" (128 : Nat) ({ cls := "MilesKept$Teller", name := "takeNumber", desc := "()V" } : Jvm.MethodName)) ∈ GW := gw_t 451 _ (by decide +kernel) rfl
theorem kw453 : (Jvm.Cond.instanceMethod ({ cls := "MilesKept$Teller", name := "takeNumber", desc := "()V" } : Jvm.MethodName)) ∈ GW := gw_t 453 _ (by decide +kernel) rfl
theorem kw454 : (Jvm.Cond.code ({ cls := "MilesKept$Teller", name := "takeNumber", desc := "()V" } : Jvm.MethodName) prog_9_method_15_code (2 : Nat) (Option.none : Option Jvm.ClassFile.FieldType)) ∈ GW := gw_t 454 _ (by decide +kernel) rfl
theorem kw455 : (Jvm.Cond.methodLink "MilesKept$Teller" (131 : Nat) ({ cls := "java/lang/Math", name := "min", desc := "(II)I" } : Jvm.MethodName)) ∈ GW := gw_t 455 _ (by decide +kernel) rfl
theorem kw456 : (Jvm.Cond.static ({ cls := "java/lang/Math", name := "min", desc := "(II)I" } : Jvm.MethodName)) ∈ GW := gw_t 456 _ (by decide +kernel) rfl
theorem kw457 : (Jvm.Cond.code ({ cls := "java/lang/Math", name := "min", desc := "(II)I" } : Jvm.MethodName) prog_13_method_69_code (2 : Nat) (Option.some Jvm.ClassFile.FieldType.int)) ∈ GW := gw_t 457 _ (by decide +kernel) rfl
theorem kw458 : (Jvm.Cond.methodLink "MilesKept$Teller" (42 : Nat) ({ cls := "MilesKept$Teller", name := "readReading", desc := "()Z" } : Jvm.MethodName)) ∈ GW := gw_t 458 _ (by decide +kernel) rfl
theorem kw460 : (Jvm.Cond.instanceMethod ({ cls := "MilesKept$Teller", name := "readReading", desc := "()Z" } : Jvm.MethodName)) ∈ GW := gw_t 460 _ (by decide +kernel) rfl
theorem kw461 : (Jvm.Cond.code ({ cls := "MilesKept$Teller", name := "readReading", desc := "()Z" } : Jvm.MethodName) prog_9_method_6_code (4 : Nat) (Option.some Jvm.ClassFile.FieldType.boolean)) ∈ GW := gw_t 461 _ (by decide +kernel) rfl
theorem kw462 : (Jvm.Cond.methodLink "MilesKept$Teller" (82 : Nat) ({ cls := "MilesKept$Entries", name := "isFull", desc := "()Z" } : Jvm.MethodName)) ∈ GW := gw_t 462 _ (by decide +kernel) rfl
theorem kw463 : (Jvm.Cond.instanceMethod ({ cls := "MilesKept$Entries", name := "isFull", desc := "()Z" } : Jvm.MethodName)) ∈ GW := gw_t 463 _ (by decide +kernel) rfl
theorem kw464 : (Jvm.Cond.selects "MilesKept$Entries" ({ cls := "MilesKept$Entries", name := "isFull", desc := "()Z" } : Jvm.MethodName) ({ cls := "MilesKept$Entries", name := "isFull", desc := "()Z" } : Jvm.MethodName)) ∈ GW := gw_t 464 _ (by decide +kernel) rfl
theorem kw465 : (Jvm.Cond.code ({ cls := "MilesKept$Entries", name := "isFull", desc := "()Z" } : Jvm.MethodName) prog_2_method_3_code (1 : Nat) (Option.some Jvm.ClassFile.FieldType.boolean)) ∈ GW := gw_t 465 _ (by decide +kernel) rfl
theorem kw466 : (Jvm.Cond.methodLink "MilesKept$Teller" (87 : Nat) ({ cls := "MilesKept$Teller", name := "nextNumber", desc := "(II)I" } : Jvm.MethodName)) ∈ GW := gw_t 466 _ (by decide +kernel) rfl
theorem kw468 : (Jvm.Cond.instanceMethod ({ cls := "MilesKept$Teller", name := "nextNumber", desc := "(II)I" } : Jvm.MethodName)) ∈ GW := gw_t 468 _ (by decide +kernel) rfl
theorem kw469 : (Jvm.Cond.code ({ cls := "MilesKept$Teller", name := "nextNumber", desc := "(II)I" } : Jvm.MethodName) prog_9_method_11_code (3 : Nat) (Option.some Jvm.ClassFile.FieldType.int)) ∈ GW := gw_t 469 _ (by decide +kernel) rfl
theorem kw471 : (Jvm.Cond.static ({ cls := "MilesKept", name := "isWithin", desc := "(III)Z" } : Jvm.MethodName)) ∈ GW := gw_t 471 _ (by decide +kernel) rfl
theorem kw472 : (Jvm.Cond.code ({ cls := "MilesKept", name := "isWithin", desc := "(III)Z" } : Jvm.MethodName) prog_1_method_20_code (3 : Nat) (Option.some Jvm.ClassFile.FieldType.boolean)) ∈ GW := gw_t 472 _ (by decide +kernel) rfl
theorem kw473 : (Jvm.Cond.methodLink "MilesKept$Teller" (91 : Nat) ({ cls := "MilesKept$Teller", name := "nextEnds", desc := "()Z" } : Jvm.MethodName)) ∈ GW := gw_t 473 _ (by decide +kernel) rfl
theorem kw475 : (Jvm.Cond.instanceMethod ({ cls := "MilesKept$Teller", name := "nextEnds", desc := "()Z" } : Jvm.MethodName)) ∈ GW := gw_t 475 _ (by decide +kernel) rfl
theorem kw476 : (Jvm.Cond.code ({ cls := "MilesKept$Teller", name := "nextEnds", desc := "()Z" } : Jvm.MethodName) prog_9_method_13_code (1 : Nat) (Option.some Jvm.ClassFile.FieldType.boolean)) ∈ GW := gw_t 476 _ (by decide +kernel) rfl
theorem kw477 : (Jvm.Cond.methodLink "MilesKept$Teller" (94 : Nat) ({ cls := "MilesKept$Entries", name := "insert", desc := "(III)I" } : Jvm.MethodName)) ∈ GW := gw_t 477 _ (by decide +kernel) rfl
theorem kw478 : (Jvm.Cond.instanceMethod ({ cls := "MilesKept$Entries", name := "insert", desc := "(III)I" } : Jvm.MethodName)) ∈ GW := gw_t 478 _ (by decide +kernel) rfl
theorem kw479 : (Jvm.Cond.selects "MilesKept$Entries" ({ cls := "MilesKept$Entries", name := "insert", desc := "(III)I" } : Jvm.MethodName) ({ cls := "MilesKept$Entries", name := "insert", desc := "(III)I" } : Jvm.MethodName)) ∈ GW := gw_t 479 _ (by decide +kernel) rfl
theorem kw480 : (Jvm.Cond.code ({ cls := "MilesKept$Entries", name := "insert", desc := "(III)I" } : Jvm.MethodName) prog_2_method_4_code (5 : Nat) (Option.some Jvm.ClassFile.FieldType.int)) ∈ GW := gw_t 480 _ (by decide +kernel) rfl
theorem kw481 : (Jvm.Cond.methodLink "MilesKept$Entries" (25 : Nat) ({ cls := "MilesKept$Entries", name := "isFull", desc := "()Z" } : Jvm.MethodName)) ∈ GW := gw_t 481 _ (by decide +kernel) rfl
theorem kw482 : (Jvm.Cond.methodLink "MilesKept$Entries" (29 : Nat) ({ cls := "MilesKept$Entries", name := "put", desc := "(IIII)V" } : Jvm.MethodName)) ∈ GW := gw_t 482 _ (by decide +kernel) rfl
theorem kw483 : (Jvm.Cond.instanceMethod ({ cls := "MilesKept$Entries", name := "put", desc := "(IIII)V" } : Jvm.MethodName)) ∈ GW := gw_t 483 _ (by decide +kernel) rfl
theorem kw484 : (Jvm.Cond.selects "MilesKept$Entries" ({ cls := "MilesKept$Entries", name := "put", desc := "(IIII)V" } : Jvm.MethodName) ({ cls := "MilesKept$Entries", name := "put", desc := "(IIII)V" } : Jvm.MethodName)) ∈ GW := gw_t 484 _ (by decide +kernel) rfl
theorem kw485 : (Jvm.Cond.code ({ cls := "MilesKept$Entries", name := "put", desc := "(IIII)V" } : Jvm.MethodName) prog_2_method_7_code (5 : Nat) (Option.none : Option Jvm.ClassFile.FieldType)) ∈ GW := gw_t 485 _ (by decide +kernel) rfl
theorem kw486 : (Jvm.Cond.methodLink "MilesKept$Entries" (33 : Nat) ({ cls := "MilesKept$Entries", name := "has", desc := "(I)Z" } : Jvm.MethodName)) ∈ GW := gw_t 486 _ (by decide +kernel) rfl
theorem kw487 : (Jvm.Cond.instanceMethod ({ cls := "MilesKept$Entries", name := "has", desc := "(I)Z" } : Jvm.MethodName)) ∈ GW := gw_t 487 _ (by decide +kernel) rfl
theorem kw488 : (Jvm.Cond.selects "MilesKept$Entries" ({ cls := "MilesKept$Entries", name := "has", desc := "(I)Z" } : Jvm.MethodName) ({ cls := "MilesKept$Entries", name := "has", desc := "(I)Z" } : Jvm.MethodName)) ∈ GW := gw_t 488 _ (by decide +kernel) rfl
theorem kw489 : (Jvm.Cond.code ({ cls := "MilesKept$Entries", name := "has", desc := "(I)Z" } : Jvm.MethodName) prog_2_method_2_code (2 : Nat) (Option.some Jvm.ClassFile.FieldType.boolean)) ∈ GW := gw_t 489 _ (by decide +kernel) rfl
theorem kw490 : (Jvm.Cond.methodLink "MilesKept$Teller" (46 : Nat) ({ cls := "MilesKept$Teller", name := "readRate", desc := "()Z" } : Jvm.MethodName)) ∈ GW := gw_t 490 _ (by decide +kernel) rfl
theorem kw492 : (Jvm.Cond.instanceMethod ({ cls := "MilesKept$Teller", name := "readRate", desc := "()Z" } : Jvm.MethodName)) ∈ GW := gw_t 492 _ (by decide +kernel) rfl
theorem kw493 : (Jvm.Cond.code ({ cls := "MilesKept$Teller", name := "readRate", desc := "()Z" } : Jvm.MethodName) prog_9_method_7_code (2 : Nat) (Option.some Jvm.ClassFile.FieldType.boolean)) ∈ GW := gw_t 493 _ (by decide +kernel) rfl
theorem kw494 : (Jvm.Cond.methodLink "MilesKept$Teller" (49 : Nat) ({ cls := "MilesKept$Teller", name := "readWrap", desc := "()Z" } : Jvm.MethodName)) ∈ GW := gw_t 494 _ (by decide +kernel) rfl
theorem kw496 : (Jvm.Cond.instanceMethod ({ cls := "MilesKept$Teller", name := "readWrap", desc := "()Z" } : Jvm.MethodName)) ∈ GW := gw_t 496 _ (by decide +kernel) rfl
theorem kw497 : (Jvm.Cond.code ({ cls := "MilesKept$Teller", name := "readWrap", desc := "()Z" } : Jvm.MethodName) prog_9_method_8_code (2 : Nat) (Option.some Jvm.ClassFile.FieldType.boolean)) ∈ GW := gw_t 497 _ (by decide +kernel) rfl
theorem kw499 : (Jvm.Cond.static ({ cls := "MilesKept", name := "isWrap", desc := "(I)Z" } : Jvm.MethodName)) ∈ GW := gw_t 499 _ (by decide +kernel) rfl
theorem kw500 : (Jvm.Cond.code ({ cls := "MilesKept", name := "isWrap", desc := "(I)Z" } : Jvm.MethodName) prog_1_method_22_code (1 : Nat) (Option.some Jvm.ClassFile.FieldType.boolean)) ∈ GW := gw_t 500 _ (by decide +kernel) rfl
theorem kw501 : (Jvm.Cond.methodLink "MilesKept" (161 : Nat) ({ cls := "MilesKept", name := "isWithin", desc := "(III)Z" } : Jvm.MethodName)) ∈ GW := gw_t 501 _ (by decide +kernel) rfl
theorem kw502 : (Jvm.Cond.methodLink "MilesKept$Teller" (52 : Nat) ({ cls := "MilesKept$Teller", name := "readStart", desc := "()Z" } : Jvm.MethodName)) ∈ GW := gw_t 502 _ (by decide +kernel) rfl
theorem kw504 : (Jvm.Cond.instanceMethod ({ cls := "MilesKept$Teller", name := "readStart", desc := "()Z" } : Jvm.MethodName)) ∈ GW := gw_t 504 _ (by decide +kernel) rfl
theorem kw505 : (Jvm.Cond.code ({ cls := "MilesKept$Teller", name := "readStart", desc := "()Z" } : Jvm.MethodName) prog_9_method_9_code (2 : Nat) (Option.some Jvm.ClassFile.FieldType.boolean)) ∈ GW := gw_t 505 _ (by decide +kernel) rfl
theorem kw506 : (Jvm.Cond.methodLink "MilesKept$Teller" (108 : Nat) ({ cls := "MilesKept$Teller", name := "nextPlate", desc := "()I" } : Jvm.MethodName)) ∈ GW := gw_t 506 _ (by decide +kernel) rfl
theorem kw508 : (Jvm.Cond.instanceMethod ({ cls := "MilesKept$Teller", name := "nextPlate", desc := "()I" } : Jvm.MethodName)) ∈ GW := gw_t 508 _ (by decide +kernel) rfl
theorem kw509 : (Jvm.Cond.code ({ cls := "MilesKept$Teller", name := "nextPlate", desc := "()I" } : Jvm.MethodName) prog_9_method_12_code (1 : Nat) (Option.some Jvm.ClassFile.FieldType.int)) ∈ GW := gw_t 509 _ (by decide +kernel) rfl
theorem kw510 : (Jvm.Cond.methodLink "MilesKept$Teller" (55 : Nat) ({ cls := "MilesKept$Teller", name := "readChange", desc := "()Z" } : Jvm.MethodName)) ∈ GW := gw_t 510 _ (by decide +kernel) rfl
theorem kw512 : (Jvm.Cond.instanceMethod ({ cls := "MilesKept$Teller", name := "readChange", desc := "()Z" } : Jvm.MethodName)) ∈ GW := gw_t 512 _ (by decide +kernel) rfl
theorem kw513 : (Jvm.Cond.code ({ cls := "MilesKept$Teller", name := "readChange", desc := "()Z" } : Jvm.MethodName) prog_9_method_10_code (4 : Nat) (Option.some Jvm.ClassFile.FieldType.boolean)) ∈ GW := gw_t 513 _ (by decide +kernel) rfl
theorem kw514 : (Jvm.Cond.methodLink "MilesKept" (84 : Nat) ({ cls := "MilesKept$History", name := "copy", desc := "(LMilesKept$History;)V" } : Jvm.MethodName)) ∈ GW := gw_t 514 _ (by decide +kernel) rfl
theorem kw515 : (Jvm.Cond.instanceMethod ({ cls := "MilesKept$History", name := "copy", desc := "(LMilesKept$History;)V" } : Jvm.MethodName)) ∈ GW := gw_t 515 _ (by decide +kernel) rfl
theorem kw516 : (Jvm.Cond.selects "MilesKept$History" ({ cls := "MilesKept$History", name := "copy", desc := "(LMilesKept$History;)V" } : Jvm.MethodName) ({ cls := "MilesKept$History", name := "copy", desc := "(LMilesKept$History;)V" } : Jvm.MethodName)) ∈ GW := gw_t 516 _ (by decide +kernel) rfl
theorem kw517 : (Jvm.Cond.code ({ cls := "MilesKept$History", name := "copy", desc := "(LMilesKept$History;)V" } : Jvm.MethodName) prog_3_method_3_code (2 : Nat) (Option.none : Option Jvm.ClassFile.FieldType)) ∈ GW := gw_t 517 _ (by decide +kernel) rfl
theorem kw518 : (Jvm.Cond.methodLink "MilesKept$History" (30 : Nat) ({ cls := "MilesKept$Entries", name := "copy", desc := "(LMilesKept$Entries;)V" } : Jvm.MethodName)) ∈ GW := gw_t 518 _ (by decide +kernel) rfl
theorem kw519 : (Jvm.Cond.instanceMethod ({ cls := "MilesKept$Entries", name := "copy", desc := "(LMilesKept$Entries;)V" } : Jvm.MethodName)) ∈ GW := gw_t 519 _ (by decide +kernel) rfl
theorem kw520 : (Jvm.Cond.selects "MilesKept$Entries" ({ cls := "MilesKept$Entries", name := "copy", desc := "(LMilesKept$Entries;)V" } : Jvm.MethodName) ({ cls := "MilesKept$Entries", name := "copy", desc := "(LMilesKept$Entries;)V" } : Jvm.MethodName)) ∈ GW := gw_t 520 _ (by decide +kernel) rfl
theorem kw521 : (Jvm.Cond.code ({ cls := "MilesKept$Entries", name := "copy", desc := "(LMilesKept$Entries;)V" } : Jvm.MethodName) prog_2_method_6_code (3 : Nat) (Option.none : Option Jvm.ClassFile.FieldType)) ∈ GW := gw_t 521 _ (by decide +kernel) rfl
theorem kw522 : (Jvm.Cond.methodLink "MilesKept$Entries" (37 : Nat) ({ cls := "java/lang/Math", name := "min", desc := "(II)I" } : Jvm.MethodName)) ∈ GW := gw_t 522 _ (by decide +kernel) rfl
theorem kw523 : (Jvm.Cond.methodLink "MilesKept" (88 : Nat) ({ cls := "MilesKept$Plates", name := "copy", desc := "(LMilesKept$Plates;)V" } : Jvm.MethodName)) ∈ GW := gw_t 523 _ (by decide +kernel) rfl
theorem kw524 : (Jvm.Cond.instanceMethod ({ cls := "MilesKept$Plates", name := "copy", desc := "(LMilesKept$Plates;)V" } : Jvm.MethodName)) ∈ GW := gw_t 524 _ (by decide +kernel) rfl
theorem kw525 : (Jvm.Cond.selects "MilesKept$Plates" ({ cls := "MilesKept$Plates", name := "copy", desc := "(LMilesKept$Plates;)V" } : Jvm.MethodName) ({ cls := "MilesKept$Plates", name := "copy", desc := "(LMilesKept$Plates;)V" } : Jvm.MethodName)) ∈ GW := gw_t 525 _ (by decide +kernel) rfl
theorem kw526 : (Jvm.Cond.code ({ cls := "MilesKept$Plates", name := "copy", desc := "(LMilesKept$Plates;)V" } : Jvm.MethodName) prog_6_method_3_code (2 : Nat) (Option.none : Option Jvm.ClassFile.FieldType)) ∈ GW := gw_t 526 _ (by decide +kernel) rfl
theorem kw527 : (Jvm.Cond.methodLink "MilesKept$Plates" (35 : Nat) ({ cls := "MilesKept$Entries", name := "copy", desc := "(LMilesKept$Entries;)V" } : Jvm.MethodName)) ∈ GW := gw_t 527 _ (by decide +kernel) rfl
theorem kw528 : (Jvm.Cond.methodLink "MilesKept" (91 : Nat) ({ cls := "MilesKept$Past", name := "forget", desc := "()V" } : Jvm.MethodName)) ∈ GW := gw_t 528 _ (by decide +kernel) rfl
theorem kw529 : (Jvm.Cond.instanceMethod ({ cls := "MilesKept$Past", name := "forget", desc := "()V" } : Jvm.MethodName)) ∈ GW := gw_t 529 _ (by decide +kernel) rfl
theorem kw530 : (Jvm.Cond.selects "MilesKept$Past" ({ cls := "MilesKept$Past", name := "forget", desc := "()V" } : Jvm.MethodName) ({ cls := "MilesKept$Past", name := "forget", desc := "()V" } : Jvm.MethodName)) ∈ GW := gw_t 530 _ (by decide +kernel) rfl
theorem kw531 : (Jvm.Cond.code ({ cls := "MilesKept$Past", name := "forget", desc := "()V" } : Jvm.MethodName) prog_5_method_2_code (1 : Nat) (Option.none : Option Jvm.ClassFile.FieldType)) ∈ GW := gw_t 531 _ (by decide +kernel) rfl
theorem kw532 : (Jvm.Cond.methodLink "MilesKeptLaw" (27 : Nat) ({ cls := "MilesKept", name := "reading", desc := "(II)I" } : Jvm.MethodName)) ∈ GW := gw_t 532 _ (by decide +kernel) rfl
theorem kw533 : (Jvm.Cond.instanceMethod ({ cls := "MilesKept", name := "reading", desc := "(II)I" } : Jvm.MethodName)) ∈ GW := gw_t 533 _ (by decide +kernel) rfl
theorem kw534 : (Jvm.Cond.selects "MilesKept" ({ cls := "MilesKept", name := "reading", desc := "(II)I" } : Jvm.MethodName) ({ cls := "MilesKept", name := "reading", desc := "(II)I" } : Jvm.MethodName)) ∈ GW := gw_t 534 _ (by decide +kernel) rfl
theorem kw535 : (Jvm.Cond.code ({ cls := "MilesKept", name := "reading", desc := "(II)I" } : Jvm.MethodName) prog_1_method_5_code (3 : Nat) (Option.some Jvm.ClassFile.FieldType.int)) ∈ GW := gw_t 535 _ (by decide +kernel) rfl
theorem kw536 : (Jvm.Cond.methodLink "MilesKept" (98 : Nat) ({ cls := "MilesKept$Entries", name := "has", desc := "(I)Z" } : Jvm.MethodName)) ∈ GW := gw_t 536 _ (by decide +kernel) rfl
theorem kw537 : (Jvm.Cond.methodLink "MilesKept" (114 : Nat) ({ cls := "MilesKept$Repairs", name := "howKept", desc := "(I)I" } : Jvm.MethodName)) ∈ GW := gw_t 537 _ (by decide +kernel) rfl
theorem kw538 : (Jvm.Cond.instanceMethod ({ cls := "MilesKept$Repairs", name := "howKept", desc := "(I)I" } : Jvm.MethodName)) ∈ GW := gw_t 538 _ (by decide +kernel) rfl
theorem kw539 : (Jvm.Cond.selects "MilesKept$Repairs" ({ cls := "MilesKept$Repairs", name := "howKept", desc := "(I)I" } : Jvm.MethodName) ({ cls := "MilesKept$Repairs", name := "howKept", desc := "(I)I" } : Jvm.MethodName)) ∈ GW := gw_t 539 _ (by decide +kernel) rfl
theorem kw540 : (Jvm.Cond.code ({ cls := "MilesKept$Repairs", name := "howKept", desc := "(I)I" } : Jvm.MethodName) prog_7_method_7_code (2 : Nat) (Option.some Jvm.ClassFile.FieldType.int)) ∈ GW := gw_t 540 _ (by decide +kernel) rfl
theorem kw541 : (Jvm.Cond.methodLink "MilesKept$Repairs" (55 : Nat) ({ cls := "MilesKept$Stands", name := "slipOf", desc := "(I)I" } : Jvm.MethodName)) ∈ GW := gw_t 541 _ (by decide +kernel) rfl
theorem kw542 : (Jvm.Cond.static ({ cls := "MilesKept$Stands", name := "slipOf", desc := "(I)I" } : Jvm.MethodName)) ∈ GW := gw_t 542 _ (by decide +kernel) rfl
theorem kw543 : (Jvm.Cond.code ({ cls := "MilesKept$Stands", name := "slipOf", desc := "(I)I" } : Jvm.MethodName) prog_8_method_6_code (1 : Nat) (Option.some Jvm.ClassFile.FieldType.int)) ∈ GW := gw_t 543 _ (by decide +kernel) rfl
theorem kw544 : (Jvm.Cond.methodLink "MilesKept" (117 : Nat) ({ cls := "MilesKept$Repairs", name := "farOf", desc := "(I)I" } : Jvm.MethodName)) ∈ GW := gw_t 544 _ (by decide +kernel) rfl
theorem kw545 : (Jvm.Cond.instanceMethod ({ cls := "MilesKept$Repairs", name := "farOf", desc := "(I)I" } : Jvm.MethodName)) ∈ GW := gw_t 545 _ (by decide +kernel) rfl
theorem kw546 : (Jvm.Cond.selects "MilesKept$Repairs" ({ cls := "MilesKept$Repairs", name := "farOf", desc := "(I)I" } : Jvm.MethodName) ({ cls := "MilesKept$Repairs", name := "farOf", desc := "(I)I" } : Jvm.MethodName)) ∈ GW := gw_t 546 _ (by decide +kernel) rfl
theorem kw547 : (Jvm.Cond.code ({ cls := "MilesKept$Repairs", name := "farOf", desc := "(I)I" } : Jvm.MethodName) prog_7_method_8_code (2 : Nat) (Option.some Jvm.ClassFile.FieldType.int)) ∈ GW := gw_t 547 _ (by decide +kernel) rfl
theorem kw548 : (Jvm.Cond.methodLink "MilesKept" (120 : Nat) ({ cls := "MilesKept$Repairs", name := "reasonOf", desc := "(I)I" } : Jvm.MethodName)) ∈ GW := gw_t 548 _ (by decide +kernel) rfl
theorem kw549 : (Jvm.Cond.instanceMethod ({ cls := "MilesKept$Repairs", name := "reasonOf", desc := "(I)I" } : Jvm.MethodName)) ∈ GW := gw_t 549 _ (by decide +kernel) rfl
theorem kw550 : (Jvm.Cond.selects "MilesKept$Repairs" ({ cls := "MilesKept$Repairs", name := "reasonOf", desc := "(I)I" } : Jvm.MethodName) ({ cls := "MilesKept$Repairs", name := "reasonOf", desc := "(I)I" } : Jvm.MethodName)) ∈ GW := gw_t 550 _ (by decide +kernel) rfl
theorem kw551 : (Jvm.Cond.code ({ cls := "MilesKept$Repairs", name := "reasonOf", desc := "(I)I" } : Jvm.MethodName) prog_7_method_9_code (2 : Nat) (Option.some Jvm.ClassFile.FieldType.int)) ∈ GW := gw_t 551 _ (by decide +kernel) rfl
theorem kw552 : (Jvm.Cond.methodLink "MilesKeptLaw" (32 : Nat) ({ cls := "MilesKept", name := "change", desc := "(II)I" } : Jvm.MethodName)) ∈ GW := gw_t 552 _ (by decide +kernel) rfl
theorem kw553 : (Jvm.Cond.instanceMethod ({ cls := "MilesKept", name := "change", desc := "(II)I" } : Jvm.MethodName)) ∈ GW := gw_t 553 _ (by decide +kernel) rfl
theorem kw554 : (Jvm.Cond.selects "MilesKept" ({ cls := "MilesKept", name := "change", desc := "(II)I" } : Jvm.MethodName) ({ cls := "MilesKept", name := "change", desc := "(II)I" } : Jvm.MethodName)) ∈ GW := gw_t 554 _ (by decide +kernel) rfl
theorem kw555 : (Jvm.Cond.code ({ cls := "MilesKept", name := "change", desc := "(II)I" } : Jvm.MethodName) prog_1_method_6_code (3 : Nat) (Option.some Jvm.ClassFile.FieldType.int)) ∈ GW := gw_t 555 _ (by decide +kernel) rfl
theorem kw556 : (Jvm.Cond.methodLink "MilesKeptLaw" (36 : Nat) ({ cls := "MilesKept", name := "now", desc := "(I)I" } : Jvm.MethodName)) ∈ GW := gw_t 556 _ (by decide +kernel) rfl
theorem kw557 : (Jvm.Cond.instanceMethod ({ cls := "MilesKept", name := "now", desc := "(I)I" } : Jvm.MethodName)) ∈ GW := gw_t 557 _ (by decide +kernel) rfl
theorem kw558 : (Jvm.Cond.selects "MilesKept" ({ cls := "MilesKept", name := "now", desc := "(I)I" } : Jvm.MethodName) ({ cls := "MilesKept", name := "now", desc := "(I)I" } : Jvm.MethodName)) ∈ GW := gw_t 558 _ (by decide +kernel) rfl
theorem kw559 : (Jvm.Cond.code ({ cls := "MilesKept", name := "now", desc := "(I)I" } : Jvm.MethodName) prog_1_method_7_code (2 : Nat) (Option.some Jvm.ClassFile.FieldType.int)) ∈ GW := gw_t 559 _ (by decide +kernel) rfl
theorem kw560 : (Jvm.Cond.methodLink "MilesKept" (129 : Nat) ({ cls := "MilesKept$Repairs", name := "bestGood", desc := "()I" } : Jvm.MethodName)) ∈ GW := gw_t 560 _ (by decide +kernel) rfl
theorem kw561 : (Jvm.Cond.methodLink "MilesKept" (136 : Nat) ({ cls := "MilesKept$Repairs", name := "certain", desc := "()I" } : Jvm.MethodName)) ∈ GW := gw_t 561 _ (by decide +kernel) rfl
theorem kw562 : (Jvm.Cond.instanceMethod ({ cls := "MilesKept$Repairs", name := "certain", desc := "()I" } : Jvm.MethodName)) ∈ GW := gw_t 562 _ (by decide +kernel) rfl
theorem kw563 : (Jvm.Cond.selects "MilesKept$Repairs" ({ cls := "MilesKept$Repairs", name := "certain", desc := "()I" } : Jvm.MethodName) ({ cls := "MilesKept$Repairs", name := "certain", desc := "()I" } : Jvm.MethodName)) ∈ GW := gw_t 563 _ (by decide +kernel) rfl
theorem kw564 : (Jvm.Cond.code ({ cls := "MilesKept$Repairs", name := "certain", desc := "()I" } : Jvm.MethodName) prog_7_method_5_code (1 : Nat) (Option.some Jvm.ClassFile.FieldType.int)) ∈ GW := gw_t 564 _ (by decide +kernel) rfl
theorem kw565 : (Jvm.Cond.methodLink "MilesKept" (139 : Nat) ({ cls := "MilesKept$Repairs", name := "possible", desc := "()I" } : Jvm.MethodName)) ∈ GW := gw_t 565 _ (by decide +kernel) rfl
theorem kw566 : (Jvm.Cond.instanceMethod ({ cls := "MilesKept$Repairs", name := "possible", desc := "()I" } : Jvm.MethodName)) ∈ GW := gw_t 566 _ (by decide +kernel) rfl
theorem kw567 : (Jvm.Cond.selects "MilesKept$Repairs" ({ cls := "MilesKept$Repairs", name := "possible", desc := "()I" } : Jvm.MethodName) ({ cls := "MilesKept$Repairs", name := "possible", desc := "()I" } : Jvm.MethodName)) ∈ GW := gw_t 567 _ (by decide +kernel) rfl
theorem kw568 : (Jvm.Cond.code ({ cls := "MilesKept$Repairs", name := "possible", desc := "()I" } : Jvm.MethodName) prog_7_method_6_code (1 : Nat) (Option.some Jvm.ClassFile.FieldType.int)) ∈ GW := gw_t 568 _ (by decide +kernel) rfl
theorem kw569 : (Jvm.Cond.methodLink "MilesKeptLaw" (40 : Nat) ({ cls := "MilesKept", name := "rivals", desc := "()J" } : Jvm.MethodName)) ∈ GW := gw_t 569 _ (by decide +kernel) rfl
theorem kw570 : (Jvm.Cond.instanceMethod ({ cls := "MilesKept", name := "rivals", desc := "()J" } : Jvm.MethodName)) ∈ GW := gw_t 570 _ (by decide +kernel) rfl
theorem kw571 : (Jvm.Cond.selects "MilesKept" ({ cls := "MilesKept", name := "rivals", desc := "()J" } : Jvm.MethodName) ({ cls := "MilesKept", name := "rivals", desc := "()J" } : Jvm.MethodName)) ∈ GW := gw_t 571 _ (by decide +kernel) rfl
theorem kw572 : (Jvm.Cond.code ({ cls := "MilesKept", name := "rivals", desc := "()J" } : Jvm.MethodName) prog_1_method_8_code (1 : Nat) (Option.some Jvm.ClassFile.FieldType.long)) ∈ GW := gw_t 572 _ (by decide +kernel) rfl
theorem kw573 : (Jvm.Cond.methodLink "MilesKept" (154 : Nat) ({ cls := "MilesKept$Repairs", name := "bestWays", desc := "()J" } : Jvm.MethodName)) ∈ GW := gw_t 573 _ (by decide +kernel) rfl
theorem kw574 : (Jvm.Cond.instanceMethod ({ cls := "MilesKept$Repairs", name := "bestWays", desc := "()J" } : Jvm.MethodName)) ∈ GW := gw_t 574 _ (by decide +kernel) rfl
theorem kw575 : (Jvm.Cond.selects "MilesKept$Repairs" ({ cls := "MilesKept$Repairs", name := "bestWays", desc := "()J" } : Jvm.MethodName) ({ cls := "MilesKept$Repairs", name := "bestWays", desc := "()J" } : Jvm.MethodName)) ∈ GW := gw_t 575 _ (by decide +kernel) rfl
theorem kw576 : (Jvm.Cond.code ({ cls := "MilesKept$Repairs", name := "bestWays", desc := "()J" } : Jvm.MethodName) prog_7_method_4_code (1 : Nat) (Option.some Jvm.ClassFile.FieldType.long)) ∈ GW := gw_t 576 _ (by decide +kernel) rfl
theorem kw577 : (Jvm.Cond.methodLink "MilesKeptLaw" (45 : Nat) ({ cls := "MilesKept", name := "adds", desc := "(III)I" } : Jvm.MethodName)) ∈ GW := gw_t 577 _ (by decide +kernel) rfl
theorem kw578 : (Jvm.Cond.instanceMethod ({ cls := "MilesKept", name := "adds", desc := "(III)I" } : Jvm.MethodName)) ∈ GW := gw_t 578 _ (by decide +kernel) rfl
theorem kw579 : (Jvm.Cond.selects "MilesKept" ({ cls := "MilesKept", name := "adds", desc := "(III)I" } : Jvm.MethodName) ({ cls := "MilesKept", name := "adds", desc := "(III)I" } : Jvm.MethodName)) ∈ GW := gw_t 579 _ (by decide +kernel) rfl
theorem kw580 : (Jvm.Cond.code ({ cls := "MilesKept", name := "adds", desc := "(III)I" } : Jvm.MethodName) prog_1_method_9_code (5 : Nat) (Option.some Jvm.ClassFile.FieldType.int)) ∈ GW := gw_t 580 _ (by decide +kernel) rfl
theorem kw581 : (Jvm.Cond.methodLink "MilesKept" (158 : Nat) ({ cls := "MilesKept", name := "isDay", desc := "(I)Z" } : Jvm.MethodName)) ∈ GW := gw_t 581 _ (by decide +kernel) rfl
theorem kw582 : (Jvm.Cond.static ({ cls := "MilesKept", name := "isDay", desc := "(I)Z" } : Jvm.MethodName)) ∈ GW := gw_t 582 _ (by decide +kernel) rfl
theorem kw583 : (Jvm.Cond.code ({ cls := "MilesKept", name := "isDay", desc := "(I)Z" } : Jvm.MethodName) prog_1_method_21_code (1 : Nat) (Option.some Jvm.ClassFile.FieldType.boolean)) ∈ GW := gw_t 583 _ (by decide +kernel) rfl
theorem kw584 : (Jvm.Cond.methodLink "MilesKept" (165 : Nat) ({ cls := "MilesKept$Entries", name := "isFull", desc := "()Z" } : Jvm.MethodName)) ∈ GW := gw_t 584 _ (by decide +kernel) rfl
theorem kw585 : (Jvm.Cond.methodLink "MilesKept" (169 : Nat) ({ cls := "MilesKept$Past", name := "remember", desc := "(LMilesKept$History;)V" } : Jvm.MethodName)) ∈ GW := gw_t 585 _ (by decide +kernel) rfl
theorem kw586 : (Jvm.Cond.instanceMethod ({ cls := "MilesKept$Past", name := "remember", desc := "(LMilesKept$History;)V" } : Jvm.MethodName)) ∈ GW := gw_t 586 _ (by decide +kernel) rfl
theorem kw587 : (Jvm.Cond.selects "MilesKept$Past" ({ cls := "MilesKept$Past", name := "remember", desc := "(LMilesKept$History;)V" } : Jvm.MethodName) ({ cls := "MilesKept$Past", name := "remember", desc := "(LMilesKept$History;)V" } : Jvm.MethodName)) ∈ GW := gw_t 587 _ (by decide +kernel) rfl
theorem kw588 : (Jvm.Cond.code ({ cls := "MilesKept$Past", name := "remember", desc := "(LMilesKept$History;)V" } : Jvm.MethodName) prog_5_method_3_code (2 : Nat) (Option.none : Option Jvm.ClassFile.FieldType)) ∈ GW := gw_t 588 _ (by decide +kernel) rfl
theorem kw589 : (Jvm.Cond.methodLink "MilesKept$Past" (25 : Nat) ({ cls := "MilesKept$History", name := "copy", desc := "(LMilesKept$History;)V" } : Jvm.MethodName)) ∈ GW := gw_t 589 _ (by decide +kernel) rfl
theorem kw590 : (Jvm.Cond.methodLink "MilesKept$Past" (29 : Nat) ({ cls := "java/lang/Math", name := "min", desc := "(II)I" } : Jvm.MethodName)) ∈ GW := gw_t 590 _ (by decide +kernel) rfl
theorem kw591 : (Jvm.Cond.methodLink "MilesKept" (172 : Nat) ({ cls := "MilesKept$Entries", name := "insert", desc := "(III)I" } : Jvm.MethodName)) ∈ GW := gw_t 591 _ (by decide +kernel) rfl
theorem kw592 : (Jvm.Cond.methodLink "MilesKeptLaw" (50 : Nat) ({ cls := "MilesKept", name := "strikes", desc := "(I)I" } : Jvm.MethodName)) ∈ GW := gw_t 592 _ (by decide +kernel) rfl
theorem kw593 : (Jvm.Cond.instanceMethod ({ cls := "MilesKept", name := "strikes", desc := "(I)I" } : Jvm.MethodName)) ∈ GW := gw_t 593 _ (by decide +kernel) rfl
theorem kw594 : (Jvm.Cond.selects "MilesKept" ({ cls := "MilesKept", name := "strikes", desc := "(I)I" } : Jvm.MethodName) ({ cls := "MilesKept", name := "strikes", desc := "(I)I" } : Jvm.MethodName)) ∈ GW := gw_t 594 _ (by decide +kernel) rfl
theorem kw595 : (Jvm.Cond.code ({ cls := "MilesKept", name := "strikes", desc := "(I)I" } : Jvm.MethodName) prog_1_method_10_code (2 : Nat) (Option.some Jvm.ClassFile.FieldType.int)) ∈ GW := gw_t 595 _ (by decide +kernel) rfl
theorem kw596 : (Jvm.Cond.methodLink "MilesKept" (176 : Nat) ({ cls := "MilesKept$Entries", name := "remove", desc := "(I)V" } : Jvm.MethodName)) ∈ GW := gw_t 596 _ (by decide +kernel) rfl
theorem kw597 : (Jvm.Cond.instanceMethod ({ cls := "MilesKept$Entries", name := "remove", desc := "(I)V" } : Jvm.MethodName)) ∈ GW := gw_t 597 _ (by decide +kernel) rfl
theorem kw598 : (Jvm.Cond.selects "MilesKept$Entries" ({ cls := "MilesKept$Entries", name := "remove", desc := "(I)V" } : Jvm.MethodName) ({ cls := "MilesKept$Entries", name := "remove", desc := "(I)V" } : Jvm.MethodName)) ∈ GW := gw_t 598 _ (by decide +kernel) rfl
theorem kw599 : (Jvm.Cond.code ({ cls := "MilesKept$Entries", name := "remove", desc := "(I)V" } : Jvm.MethodName) prog_2_method_5_code (3 : Nat) (Option.none : Option Jvm.ClassFile.FieldType)) ∈ GW := gw_t 599 _ (by decide +kernel) rfl
theorem kw600 : (Jvm.Cond.methodLink "MilesKeptLaw" (54 : Nat) ({ cls := "MilesKept", name := "rules", desc := "(II)I" } : Jvm.MethodName)) ∈ GW := gw_t 600 _ (by decide +kernel) rfl
theorem kw601 : (Jvm.Cond.instanceMethod ({ cls := "MilesKept", name := "rules", desc := "(II)I" } : Jvm.MethodName)) ∈ GW := gw_t 601 _ (by decide +kernel) rfl
theorem kw602 : (Jvm.Cond.selects "MilesKept" ({ cls := "MilesKept", name := "rules", desc := "(II)I" } : Jvm.MethodName) ({ cls := "MilesKept", name := "rules", desc := "(II)I" } : Jvm.MethodName)) ∈ GW := gw_t 602 _ (by decide +kernel) rfl
theorem kw603 : (Jvm.Cond.code ({ cls := "MilesKept", name := "rules", desc := "(II)I" } : Jvm.MethodName) prog_1_method_11_code (3 : Nat) (Option.some Jvm.ClassFile.FieldType.int)) ∈ GW := gw_t 603 _ (by decide +kernel) rfl
theorem kw604 : (Jvm.Cond.methodLink "MilesKept" (181 : Nat) ({ cls := "MilesKept", name := "isWrap", desc := "(I)Z" } : Jvm.MethodName)) ∈ GW := gw_t 604 _ (by decide +kernel) rfl
theorem kw605 : (Jvm.Cond.methodLink "MilesKeptLaw" (58 : Nat) ({ cls := "MilesKept", name := "undo", desc := "()I" } : Jvm.MethodName)) ∈ GW := gw_t 605 _ (by decide +kernel) rfl
theorem kw606 : (Jvm.Cond.instanceMethod ({ cls := "MilesKept", name := "undo", desc := "()I" } : Jvm.MethodName)) ∈ GW := gw_t 606 _ (by decide +kernel) rfl
theorem kw607 : (Jvm.Cond.selects "MilesKept" ({ cls := "MilesKept", name := "undo", desc := "()I" } : Jvm.MethodName) ({ cls := "MilesKept", name := "undo", desc := "()I" } : Jvm.MethodName)) ∈ GW := gw_t 607 _ (by decide +kernel) rfl
theorem kw608 : (Jvm.Cond.code ({ cls := "MilesKept", name := "undo", desc := "()I" } : Jvm.MethodName) prog_1_method_12_code (1 : Nat) (Option.some Jvm.ClassFile.FieldType.int)) ∈ GW := gw_t 608 _ (by decide +kernel) rfl
theorem kw609 : (Jvm.Cond.methodLink "MilesKept" (190 : Nat) ({ cls := "MilesKept$Past", name := "recall", desc := "(LMilesKept$History;)V" } : Jvm.MethodName)) ∈ GW := gw_t 609 _ (by decide +kernel) rfl
theorem kw610 : (Jvm.Cond.instanceMethod ({ cls := "MilesKept$Past", name := "recall", desc := "(LMilesKept$History;)V" } : Jvm.MethodName)) ∈ GW := gw_t 610 _ (by decide +kernel) rfl
theorem kw611 : (Jvm.Cond.selects "MilesKept$Past" ({ cls := "MilesKept$Past", name := "recall", desc := "(LMilesKept$History;)V" } : Jvm.MethodName) ({ cls := "MilesKept$Past", name := "recall", desc := "(LMilesKept$History;)V" } : Jvm.MethodName)) ∈ GW := gw_t 611 _ (by decide +kernel) rfl
theorem kw612 : (Jvm.Cond.code ({ cls := "MilesKept$Past", name := "recall", desc := "(LMilesKept$History;)V" } : Jvm.MethodName) prog_5_method_4_code (2 : Nat) (Option.none : Option Jvm.ClassFile.FieldType)) ∈ GW := gw_t 612 _ (by decide +kernel) rfl
theorem kw613 : (Jvm.Cond.methodLink "MilesKeptLaw" (62 : Nat) ({ cls := "MilesKept", name := "on", desc := "(II)I" } : Jvm.MethodName)) ∈ GW := gw_t 613 _ (by decide +kernel) rfl
theorem kw614 : (Jvm.Cond.instanceMethod ({ cls := "MilesKept", name := "on", desc := "(II)I" } : Jvm.MethodName)) ∈ GW := gw_t 614 _ (by decide +kernel) rfl
theorem kw615 : (Jvm.Cond.selects "MilesKept" ({ cls := "MilesKept", name := "on", desc := "(II)I" } : Jvm.MethodName) ({ cls := "MilesKept", name := "on", desc := "(II)I" } : Jvm.MethodName)) ∈ GW := gw_t 615 _ (by decide +kernel) rfl
theorem kw616 : (Jvm.Cond.code ({ cls := "MilesKept", name := "on", desc := "(II)I" } : Jvm.MethodName) prog_1_method_13_code (3 : Nat) (Option.some Jvm.ClassFile.FieldType.int)) ∈ GW := gw_t 616 _ (by decide +kernel) rfl
theorem kw617 : (Jvm.Cond.methodLink "MilesKept" (193 : Nat) ({ cls := "MilesKept$Repairs", name := "farOn", desc := "(IZ)I" } : Jvm.MethodName)) ∈ GW := gw_t 617 _ (by decide +kernel) rfl
theorem kw618 : (Jvm.Cond.instanceMethod ({ cls := "MilesKept$Repairs", name := "farOn", desc := "(IZ)I" } : Jvm.MethodName)) ∈ GW := gw_t 618 _ (by decide +kernel) rfl
theorem kw619 : (Jvm.Cond.selects "MilesKept$Repairs" ({ cls := "MilesKept$Repairs", name := "farOn", desc := "(IZ)I" } : Jvm.MethodName) ({ cls := "MilesKept$Repairs", name := "farOn", desc := "(IZ)I" } : Jvm.MethodName)) ∈ GW := gw_t 619 _ (by decide +kernel) rfl
theorem kw620 : (Jvm.Cond.code ({ cls := "MilesKept$Repairs", name := "farOn", desc := "(IZ)I" } : Jvm.MethodName) prog_7_method_10_code (7 : Nat) (Option.some Jvm.ClassFile.FieldType.int)) ∈ GW := gw_t 620 _ (by decide +kernel) rfl
theorem kw621 : (Jvm.Cond.methodLink "MilesKept$Repairs" (62 : Nat) ({ cls := "MilesKept$Repairs", name := "lastUntil", desc := "(I)I" } : Jvm.MethodName)) ∈ GW := gw_t 621 _ (by decide +kernel) rfl
theorem kw623 : (Jvm.Cond.instanceMethod ({ cls := "MilesKept$Repairs", name := "lastUntil", desc := "(I)I" } : Jvm.MethodName)) ∈ GW := gw_t 623 _ (by decide +kernel) rfl
theorem kw624 : (Jvm.Cond.code ({ cls := "MilesKept$Repairs", name := "lastUntil", desc := "(I)I" } : Jvm.MethodName) prog_7_method_11_code (4 : Nat) (Option.some Jvm.ClassFile.FieldType.int)) ∈ GW := gw_t 624 _ (by decide +kernel) rfl
theorem kw625 : (Jvm.Cond.methodLink "MilesKept$Repairs" (65 : Nat) ({ cls := "MilesKept$Repairs", name := "firstAfter", desc := "(I)I" } : Jvm.MethodName)) ∈ GW := gw_t 625 _ (by decide +kernel) rfl
theorem kw627 : (Jvm.Cond.instanceMethod ({ cls := "MilesKept$Repairs", name := "firstAfter", desc := "(I)I" } : Jvm.MethodName)) ∈ GW := gw_t 627 _ (by decide +kernel) rfl
theorem kw628 : (Jvm.Cond.code ({ cls := "MilesKept$Repairs", name := "firstAfter", desc := "(I)I" } : Jvm.MethodName) prog_7_method_12_code (3 : Nat) (Option.some Jvm.ClassFile.FieldType.int)) ∈ GW := gw_t 628 _ (by decide +kernel) rfl
theorem kw629 : (Jvm.Cond.methodLink "MilesKept$Repairs" (71 : Nat) ({ cls := "MilesKept$Stands", name := "mostGone", desc := "(II)I" } : Jvm.MethodName)) ∈ GW := gw_t 629 _ (by decide +kernel) rfl
theorem kw630 : (Jvm.Cond.methodLink "MilesKept$Repairs" (75 : Nat) ({ cls := "java/lang/Math", name := "min", desc := "(II)I" } : Jvm.MethodName)) ∈ GW := gw_t 630 _ (by decide +kernel) rfl
theorem kw631 : (Jvm.Cond.methodLink "MilesKeptLaw" (66 : Nat) ({ cls := "MilesKept", name := "plate", desc := "(I)I" } : Jvm.MethodName)) ∈ GW := gw_t 631 _ (by decide +kernel) rfl
theorem kw632 : (Jvm.Cond.instanceMethod ({ cls := "MilesKept", name := "plate", desc := "(I)I" } : Jvm.MethodName)) ∈ GW := gw_t 632 _ (by decide +kernel) rfl
theorem kw633 : (Jvm.Cond.selects "MilesKept" ({ cls := "MilesKept", name := "plate", desc := "(I)I" } : Jvm.MethodName) ({ cls := "MilesKept", name := "plate", desc := "(I)I" } : Jvm.MethodName)) ∈ GW := gw_t 633 _ (by decide +kernel) rfl
theorem kw634 : (Jvm.Cond.code ({ cls := "MilesKept", name := "plate", desc := "(I)I" } : Jvm.MethodName) prog_1_method_14_code (2 : Nat) (Option.some Jvm.ClassFile.FieldType.int)) ∈ GW := gw_t 634 _ (by decide +kernel) rfl
theorem kw635 : (Jvm.Cond.methodLink "MilesKept" (197 : Nat) ({ cls := "MilesKept$Plates", name := "plateOn", desc := "(I)I" } : Jvm.MethodName)) ∈ GW := gw_t 635 _ (by decide +kernel) rfl
theorem kw636 : (Jvm.Cond.instanceMethod ({ cls := "MilesKept$Plates", name := "plateOn", desc := "(I)I" } : Jvm.MethodName)) ∈ GW := gw_t 636 _ (by decide +kernel) rfl
theorem kw637 : (Jvm.Cond.selects "MilesKept$Plates" ({ cls := "MilesKept$Plates", name := "plateOn", desc := "(I)I" } : Jvm.MethodName) ({ cls := "MilesKept$Plates", name := "plateOn", desc := "(I)I" } : Jvm.MethodName)) ∈ GW := gw_t 637 _ (by decide +kernel) rfl
theorem kw638 : (Jvm.Cond.code ({ cls := "MilesKept$Plates", name := "plateOn", desc := "(I)I" } : Jvm.MethodName) prog_6_method_5_code (4 : Nat) (Option.some Jvm.ClassFile.FieldType.int)) ∈ GW := gw_t 638 _ (by decide +kernel) rfl
theorem kw639 : (Jvm.Cond.methodLink "MilesKeptLaw" (70 : Nat) ({ cls := "MilesKept", name := "odds", desc := "(III)J" } : Jvm.MethodName)) ∈ GW := gw_t 639 _ (by decide +kernel) rfl
theorem kw640 : (Jvm.Cond.instanceMethod ({ cls := "MilesKept", name := "odds", desc := "(III)J" } : Jvm.MethodName)) ∈ GW := gw_t 640 _ (by decide +kernel) rfl
theorem kw641 : (Jvm.Cond.selects "MilesKept" ({ cls := "MilesKept", name := "odds", desc := "(III)J" } : Jvm.MethodName) ({ cls := "MilesKept", name := "odds", desc := "(III)J" } : Jvm.MethodName)) ∈ GW := gw_t 641 _ (by decide +kernel) rfl
theorem kw642 : (Jvm.Cond.code ({ cls := "MilesKept", name := "odds", desc := "(III)J" } : Jvm.MethodName) prog_1_method_15_code (10 : Nat) (Option.some Jvm.ClassFile.FieldType.long)) ∈ GW := gw_t 642 _ (by decide +kernel) rfl
theorem kw643 : (Jvm.Cond.constantLong "MilesKept" (200 : Nat) (-1 : Int64)) ∈ GW := gw_t 643 _ (by decide +kernel) rfl
theorem kw644 : (Jvm.Cond.methodLink "MilesKept" (202 : Nat) ({ cls := "MilesKept$Losses", name := "weightOf", desc := "(II)J" } : Jvm.MethodName)) ∈ GW := gw_t 644 _ (by decide +kernel) rfl
theorem kw645 : (Jvm.Cond.instanceMethod ({ cls := "MilesKept$Losses", name := "weightOf", desc := "(II)J" } : Jvm.MethodName)) ∈ GW := gw_t 645 _ (by decide +kernel) rfl
theorem kw646 : (Jvm.Cond.selects "MilesKept$Losses" ({ cls := "MilesKept$Losses", name := "weightOf", desc := "(II)J" } : Jvm.MethodName) ({ cls := "MilesKept$Losses", name := "weightOf", desc := "(II)J" } : Jvm.MethodName)) ∈ GW := gw_t 646 _ (by decide +kernel) rfl
theorem kw647 : (Jvm.Cond.code ({ cls := "MilesKept$Losses", name := "weightOf", desc := "(II)J" } : Jvm.MethodName) prog_4_method_3_code (7 : Nat) (Option.some Jvm.ClassFile.FieldType.long)) ∈ GW := gw_t 647 _ (by decide +kernel) rfl
theorem kw648 : (Jvm.Cond.methodLink "MilesKept$Losses" (29 : Nat) ({ cls := "MilesKept$Losses", name := "findBests", desc := "()V" } : Jvm.MethodName)) ∈ GW := gw_t 648 _ (by decide +kernel) rfl
theorem kw650 : (Jvm.Cond.instanceMethod ({ cls := "MilesKept$Losses", name := "findBests", desc := "()V" } : Jvm.MethodName)) ∈ GW := gw_t 650 _ (by decide +kernel) rfl
theorem kw651 : (Jvm.Cond.code ({ cls := "MilesKept$Losses", name := "findBests", desc := "()V" } : Jvm.MethodName) prog_4_method_6_code (3 : Nat) (Option.none : Option Jvm.ClassFile.FieldType)) ∈ GW := gw_t 651 _ (by decide +kernel) rfl
theorem kw652 : (Jvm.Cond.methodLink "MilesKept$Losses" (46 : Nat) ({ cls := "java/util/Arrays", name := "fill", desc := "([II)V" } : Jvm.MethodName)) ∈ GW := gw_t 652 _ (by decide +kernel) rfl
theorem kw653 : (Jvm.Cond.methodLink "MilesKept$Losses" (36 : Nat) ({ cls := "MilesKept$Stands", name := "size", desc := "()I" } : Jvm.MethodName)) ∈ GW := gw_t 653 _ (by decide +kernel) rfl
theorem kw654 : (Jvm.Cond.methodLink "MilesKept$Losses" (58 : Nat) ({ cls := "MilesKept$Losses", name := "lastOf", desc := "(I)I" } : Jvm.MethodName)) ∈ GW := gw_t 654 _ (by decide +kernel) rfl
theorem kw656 : (Jvm.Cond.instanceMethod ({ cls := "MilesKept$Losses", name := "lastOf", desc := "(I)I" } : Jvm.MethodName)) ∈ GW := gw_t 656 _ (by decide +kernel) rfl
theorem kw657 : (Jvm.Cond.code ({ cls := "MilesKept$Losses", name := "lastOf", desc := "(I)I" } : Jvm.MethodName) prog_4_method_7_code (2 : Nat) (Option.some Jvm.ClassFile.FieldType.int)) ∈ GW := gw_t 657 _ (by decide +kernel) rfl
theorem kw658 : (Jvm.Cond.methodLink "MilesKept$Losses" (73 : Nat) ({ cls := "java/lang/Integer", name := "numberOfTrailingZeros", desc := "(I)I" } : Jvm.MethodName)) ∈ GW := gw_t 658 _ (by decide +kernel) rfl
theorem kw659 : (Jvm.Cond.static ({ cls := "java/lang/Integer", name := "numberOfTrailingZeros", desc := "(I)I" } : Jvm.MethodName)) ∈ GW := gw_t 659 _ (by decide +kernel) rfl
theorem kw660 : (Jvm.Cond.code ({ cls := "java/lang/Integer", name := "numberOfTrailingZeros", desc := "(I)I" } : Jvm.MethodName) prog_12_method_48_code (2 : Nat) (Option.some Jvm.ClassFile.FieldType.int)) ∈ GW := gw_t 660 _ (by decide +kernel) rfl
theorem kw661 : (Jvm.Cond.constant "java/lang/Integer" (264 : Nat) (65536 : Int32)) ∈ GW := gw_t 661 _ (by decide +kernel) rfl
theorem kw662 : (Jvm.Cond.methodLink "MilesKept$Losses" (61 : Nat) ({ cls := "MilesKept$Losses", name := "keepLast", desc := "(II)I" } : Jvm.MethodName)) ∈ GW := gw_t 662 _ (by decide +kernel) rfl
theorem kw664 : (Jvm.Cond.instanceMethod ({ cls := "MilesKept$Losses", name := "keepLast", desc := "(II)I" } : Jvm.MethodName)) ∈ GW := gw_t 664 _ (by decide +kernel) rfl
theorem kw665 : (Jvm.Cond.code ({ cls := "MilesKept$Losses", name := "keepLast", desc := "(II)I" } : Jvm.MethodName) prog_4_method_8_code (7 : Nat) (Option.some Jvm.ClassFile.FieldType.int)) ∈ GW := gw_t 665 _ (by decide +kernel) rfl
theorem kw666 : (Jvm.Cond.methodLink "MilesKept$Losses" (76 : Nat) ({ cls := "MilesKept$Stands", name := "standOf", desc := "(II)I" } : Jvm.MethodName)) ∈ GW := gw_t 666 _ (by decide +kernel) rfl
theorem kw667 : (Jvm.Cond.methodLink "MilesKept$Losses" (79 : Nat) ({ cls := "MilesKept$Losses", name := "keepBehind", desc := "(III)I" } : Jvm.MethodName)) ∈ GW := gw_t 667 _ (by decide +kernel) rfl
theorem kw669 : (Jvm.Cond.instanceMethod ({ cls := "MilesKept$Losses", name := "keepBehind", desc := "(III)I" } : Jvm.MethodName)) ∈ GW := gw_t 669 _ (by decide +kernel) rfl
theorem kw670 : (Jvm.Cond.code ({ cls := "MilesKept$Losses", name := "keepBehind", desc := "(III)I" } : Jvm.MethodName) prog_4_method_9_code (5 : Nat) (Option.some Jvm.ClassFile.FieldType.int)) ∈ GW := gw_t 670 _ (by decide +kernel) rfl
theorem kw671 : (Jvm.Cond.methodLink "MilesKept$Losses" (83 : Nat) ({ cls := "MilesKept$Stands", name := "following", desc := "(III)I" } : Jvm.MethodName)) ∈ GW := gw_t 671 _ (by decide +kernel) rfl
theorem kw672 : (Jvm.Cond.methodLink "MilesKept$Losses" (68 : Nat) ({ cls := "java/lang/Math", name := "max", desc := "(II)I" } : Jvm.MethodName)) ∈ GW := gw_t 672 _ (by decide +kernel) rfl
theorem kw673 : (Jvm.Cond.methodLink "MilesKept$Losses" (65 : Nat) ({ cls := "MilesKept$Losses", name := "bestWithoutOne", desc := "(I)I" } : Jvm.MethodName)) ∈ GW := gw_t 673 _ (by decide +kernel) rfl
theorem kw675 : (Jvm.Cond.instanceMethod ({ cls := "MilesKept$Losses", name := "bestWithoutOne", desc := "(I)I" } : Jvm.MethodName)) ∈ GW := gw_t 675 _ (by decide +kernel) rfl
theorem kw676 : (Jvm.Cond.code ({ cls := "MilesKept$Losses", name := "bestWithoutOne", desc := "(I)I" } : Jvm.MethodName) prog_4_method_10_code (4 : Nat) (Option.some Jvm.ClassFile.FieldType.int)) ∈ GW := gw_t 676 _ (by decide +kernel) rfl
theorem kw677 : (Jvm.Cond.methodLink "MilesKept$Losses" (32 : Nat) ({ cls := "MilesKept$Losses", name := "countEnough", desc := "(I)V" } : Jvm.MethodName)) ∈ GW := gw_t 677 _ (by decide +kernel) rfl
theorem kw679 : (Jvm.Cond.instanceMethod ({ cls := "MilesKept$Losses", name := "countEnough", desc := "(I)V" } : Jvm.MethodName)) ∈ GW := gw_t 679 _ (by decide +kernel) rfl
theorem kw680 : (Jvm.Cond.code ({ cls := "MilesKept$Losses", name := "countEnough", desc := "(I)V" } : Jvm.MethodName) prog_4_method_4_code (3 : Nat) (Option.none : Option Jvm.ClassFile.FieldType)) ∈ GW := gw_t 680 _ (by decide +kernel) rfl
theorem kw681 : (Jvm.Cond.methodLink "MilesKept$Losses" (52 : Nat) ({ cls := "java/lang/Integer", name := "bitCount", desc := "(I)I" } : Jvm.MethodName)) ∈ GW := gw_t 681 _ (by decide +kernel) rfl
theorem kw682 : (Jvm.Cond.static ({ cls := "java/lang/Integer", name := "bitCount", desc := "(I)I" } : Jvm.MethodName)) ∈ GW := gw_t 682 _ (by decide +kernel) rfl
theorem kw683 : (Jvm.Cond.code ({ cls := "java/lang/Integer", name := "bitCount", desc := "(I)I" } : Jvm.MethodName) prog_12_method_49_code (1 : Nat) (Option.some Jvm.ClassFile.FieldType.int)) ∈ GW := gw_t 683 _ (by decide +kernel) rfl
theorem kw684 : (Jvm.Cond.constant "java/lang/Integer" (265 : Nat) (1431655765 : Int32)) ∈ GW := gw_t 684 _ (by decide +kernel) rfl
theorem kw685 : (Jvm.Cond.constant "java/lang/Integer" (266 : Nat) (858993459 : Int32)) ∈ GW := gw_t 685 _ (by decide +kernel) rfl
theorem kw686 : (Jvm.Cond.constant "java/lang/Integer" (267 : Nat) (252645135 : Int32)) ∈ GW := gw_t 686 _ (by decide +kernel) rfl
theorem kw687 : (Jvm.Cond.methodLink "MilesKept$Losses" (42 : Nat) ({ cls := "MilesKept$Losses", name := "power", desc := "(II)J" } : Jvm.MethodName)) ∈ GW := gw_t 687 _ (by decide +kernel) rfl
theorem kw688 : (Jvm.Cond.static ({ cls := "MilesKept$Losses", name := "power", desc := "(II)J" } : Jvm.MethodName)) ∈ GW := gw_t 688 _ (by decide +kernel) rfl
theorem kw689 : (Jvm.Cond.code ({ cls := "MilesKept$Losses", name := "power", desc := "(II)J" } : Jvm.MethodName) prog_4_method_5_code (5 : Nat) (Option.some Jvm.ClassFile.FieldType.long)) ∈ GW := gw_t 689 _ (by decide +kernel) rfl
theorem kw690 : (Jvm.Cond.methodLink "MilesKept" (206 : Nat) ({ cls := "MilesKept$Losses", name := "power", desc := "(II)J" } : Jvm.MethodName)) ∈ GW := gw_t 690 _ (by decide +kernel) rfl
theorem kw691 : (Jvm.Cond.constantLong "MilesKept" (209 : Nat) (2 : Int64)) ∈ GW := gw_t 691 _ (by decide +kernel) rfl
theorem kw692 : (Jvm.Cond.constantLong "MilesKept" (211 : Nat) (5 : Int64)) ∈ GW := gw_t 692 _ (by decide +kernel) rfl
theorem kw693 : (Jvm.Cond.methodLink "MilesKeptLaw" (75 : Nat) ({ cls := "MilesKept", name := "keep", desc := "(I)I" } : Jvm.MethodName)) ∈ GW := gw_t 693 _ (by decide +kernel) rfl
theorem kw694 : (Jvm.Cond.instanceMethod ({ cls := "MilesKept", name := "keep", desc := "(I)I" } : Jvm.MethodName)) ∈ GW := gw_t 694 _ (by decide +kernel) rfl
theorem kw695 : (Jvm.Cond.selects "MilesKept" ({ cls := "MilesKept", name := "keep", desc := "(I)I" } : Jvm.MethodName) ({ cls := "MilesKept", name := "keep", desc := "(I)I" } : Jvm.MethodName)) ∈ GW := gw_t 695 _ (by decide +kernel) rfl
theorem kw696 : (Jvm.Cond.code ({ cls := "MilesKept", name := "keep", desc := "(I)I" } : Jvm.MethodName) prog_1_method_16_code (2 : Nat) (Option.some Jvm.ClassFile.FieldType.int)) ∈ GW := gw_t 696 _ (by decide +kernel) rfl
theorem kw697 : (Jvm.Cond.methodLink "MilesKeptLaw" (79 : Nat) ({ cls := "MilesKept", name := "back", desc := "(I)I" } : Jvm.MethodName)) ∈ GW := gw_t 697 _ (by decide +kernel) rfl
theorem kw698 : (Jvm.Cond.instanceMethod ({ cls := "MilesKept", name := "back", desc := "(I)I" } : Jvm.MethodName)) ∈ GW := gw_t 698 _ (by decide +kernel) rfl
theorem kw699 : (Jvm.Cond.selects "MilesKept" ({ cls := "MilesKept", name := "back", desc := "(I)I" } : Jvm.MethodName) ({ cls := "MilesKept", name := "back", desc := "(I)I" } : Jvm.MethodName)) ∈ GW := gw_t 699 _ (by decide +kernel) rfl
theorem kw700 : (Jvm.Cond.code ({ cls := "MilesKept", name := "back", desc := "(I)I" } : Jvm.MethodName) prog_1_method_17_code (2 : Nat) (Option.some Jvm.ClassFile.FieldType.int)) ∈ GW := gw_t 700 _ (by decide +kernel) rfl
theorem kw701 : (Jvm.Cond.methodLink "MilesKeptLaw" (83 : Nat) ({ cls := "MilesKept", name := "count", desc := "(I)I" } : Jvm.MethodName)) ∈ GW := gw_t 701 _ (by decide +kernel) rfl
theorem kw702 : (Jvm.Cond.instanceMethod ({ cls := "MilesKept", name := "count", desc := "(I)I" } : Jvm.MethodName)) ∈ GW := gw_t 702 _ (by decide +kernel) rfl
theorem kw703 : (Jvm.Cond.selects "MilesKept" ({ cls := "MilesKept", name := "count", desc := "(I)I" } : Jvm.MethodName) ({ cls := "MilesKept", name := "count", desc := "(I)I" } : Jvm.MethodName)) ∈ GW := gw_t 703 _ (by decide +kernel) rfl
theorem kw704 : (Jvm.Cond.code ({ cls := "MilesKept", name := "count", desc := "(I)I" } : Jvm.MethodName) prog_1_method_18_code (2 : Nat) (Option.some Jvm.ClassFile.FieldType.int)) ∈ GW := gw_t 704 _ (by decide +kernel) rfl
theorem kw705 : (Jvm.Cond.classLink "MilesKeptLaw" (10 : Nat) "MilesKeptModel") ∈ GW := gw_t 705 _ (by decide +kernel) rfl
theorem kw706 : (Jvm.Cond.instantiable "MilesKeptModel" (36 : Nat)) ∈ GW := gw_t 706 _ (by decide +kernel) rfl
theorem kw707 : (Jvm.Cond.methodLink "MilesKeptLaw" (12 : Nat) ({ cls := "MilesKeptModel", name := "<init>", desc := "()V" } : Jvm.MethodName)) ∈ GW := gw_t 707 _ (by decide +kernel) rfl
theorem kw708 : (Jvm.Cond.instanceMethod ({ cls := "MilesKeptModel", name := "<init>", desc := "()V" } : Jvm.MethodName)) ∈ GW := gw_t 708 _ (by decide +kernel) rfl
theorem kw709 : (Jvm.Cond.code ({ cls := "MilesKeptModel", name := "<init>", desc := "()V" } : Jvm.MethodName) prog_11_method_1_code (1 : Nat) (Option.none : Option Jvm.ClassFile.FieldType)) ∈ GW := gw_t 709 _ (by decide +kernel) rfl
theorem kw710 : (Jvm.Cond.methodLink "MilesKeptModel" (1 : Nat) ({ cls := "java/lang/Object", name := "<init>", desc := "()V" } : Jvm.MethodName)) ∈ GW := gw_t 710 _ (by decide +kernel) rfl
theorem kw711 : (Jvm.Cond.methodLink "MilesKeptModel" (50 : Nat) ({ cls := "MilesKeptModel", name := "begins", desc := "()V" } : Jvm.MethodName)) ∈ GW := gw_t 711 _ (by decide +kernel) rfl
theorem kw713 : (Jvm.Cond.instanceMethod ({ cls := "MilesKeptModel", name := "begins", desc := "()V" } : Jvm.MethodName)) ∈ GW := gw_t 713 _ (by decide +kernel) rfl
theorem kw714 : (Jvm.Cond.code ({ cls := "MilesKeptModel", name := "begins", desc := "()V" } : Jvm.MethodName) prog_11_method_5_code (2 : Nat) (Option.none : Option Jvm.ClassFile.FieldType)) ∈ GW := gw_t 714 _ (by decide +kernel) rfl
theorem kw715 : (Jvm.Cond.methodLink "MilesKeptModel" (53 : Nat) ({ cls := "MilesKeptModel", name := "tellsAll", desc := "()V" } : Jvm.MethodName)) ∈ GW := gw_t 715 _ (by decide +kernel) rfl
theorem kw717 : (Jvm.Cond.instanceMethod ({ cls := "MilesKeptModel", name := "tellsAll", desc := "()V" } : Jvm.MethodName)) ∈ GW := gw_t 717 _ (by decide +kernel) rfl
theorem kw718 : (Jvm.Cond.code ({ cls := "MilesKeptModel", name := "tellsAll", desc := "()V" } : Jvm.MethodName) prog_11_method_22_code (2 : Nat) (Option.none : Option Jvm.ClassFile.FieldType)) ∈ GW := gw_t 718 _ (by decide +kernel) rfl
theorem kw719 : (Jvm.Cond.fieldLink "MilesKeptModel" (70 : Nat) "MilesKeptModel" "letterMany" "I") ∈ GW := gw_t 719 _ (by decide +kernel) rfl
theorem kw720 : (Jvm.Cond.fieldLink "MilesKeptModel" (7 : Nat) "MilesKeptModel" "text" "[I") ∈ GW := gw_t 720 _ (by decide +kernel) rfl
theorem kw721 : (Jvm.Cond.fieldLink "MilesKeptModel" (73 : Nat) "MilesKeptModel" "readAt" "I") ∈ GW := gw_t 721 _ (by decide +kernel) rfl
theorem kw722 : (Jvm.Cond.fieldLink "MilesKeptModel" (76 : Nat) "MilesKeptModel" "tokenAt" "I") ∈ GW := gw_t 722 _ (by decide +kernel) rfl
theorem kw723 : (Jvm.Cond.fieldLink "MilesKeptModel" (79 : Nat) "MilesKeptModel" "token" "I") ∈ GW := gw_t 723 _ (by decide +kernel) rfl
theorem kw724 : (Jvm.Cond.fieldLink "MilesKeptModel" (86 : Nat) "MilesKeptModel" "value" "I") ∈ GW := gw_t 724 _ (by decide +kernel) rfl
theorem kw725 : (Jvm.Cond.fieldLink "MilesKeptModel" (89 : Nat) "MilesKeptModel" "faultAt" "I") ∈ GW := gw_t 725 _ (by decide +kernel) rfl
theorem kw726 : (Jvm.Cond.fieldLink "MilesKeptModel" (13 : Nat) "MilesKeptModel" "read" "[I") ∈ GW := gw_t 726 _ (by decide +kernel) rfl
theorem kw727 : (Jvm.Cond.fieldLink "MilesKeptModel" (56 : Nat) "MilesKeptModel" "readChanges" "I") ∈ GW := gw_t 727 _ (by decide +kernel) rfl
theorem kw728 : (Jvm.Cond.fieldLink "MilesKeptModel" (60 : Nat) "MilesKeptModel" "readStart" "I") ∈ GW := gw_t 728 _ (by decide +kernel) rfl
theorem kw729 : (Jvm.Cond.fieldLink "MilesKeptModel" (63 : Nat) "MilesKeptModel" "readOnce" "I") ∈ GW := gw_t 729 _ (by decide +kernel) rfl
theorem kw730 : (Jvm.Cond.fieldLink "MilesKeptModel" (16 : Nat) "MilesKeptModel" "readDays" "[I") ∈ GW := gw_t 730 _ (by decide +kernel) rfl
theorem kw731 : (Jvm.Cond.fieldLink "MilesKeptModel" (19 : Nat) "MilesKeptModel" "readWas" "[I") ∈ GW := gw_t 731 _ (by decide +kernel) rfl
theorem kw732 : (Jvm.Cond.fieldLink "MilesKeptModel" (22 : Nat) "MilesKeptModel" "readThen" "[I") ∈ GW := gw_t 732 _ (by decide +kernel) rfl
theorem kw733 : (Jvm.Cond.fieldLink "MilesKeptModel" (25 : Nat) "MilesKeptModel" "now" "[I") ∈ GW := gw_t 733 _ (by decide +kernel) rfl
theorem kw734 : (Jvm.Cond.fieldLink "MilesKeptModel" (134 : Nat) "MilesKeptModel" "changeMany" "I") ∈ GW := gw_t 734 _ (by decide +kernel) rfl
theorem kw735 : (Jvm.Cond.fieldLink "MilesKeptModel" (137 : Nat) "MilesKeptModel" "start" "I") ∈ GW := gw_t 735 _ (by decide +kernel) rfl
theorem kw736 : (Jvm.Cond.fieldLink "MilesKeptModel" (28 : Nat) "MilesKeptModel" "changeDays" "[I") ∈ GW := gw_t 736 _ (by decide +kernel) rfl
theorem kw737 : (Jvm.Cond.fieldLink "MilesKeptModel" (31 : Nat) "MilesKeptModel" "was" "[I") ∈ GW := gw_t 737 _ (by decide +kernel) rfl
theorem kw738 : (Jvm.Cond.fieldLink "MilesKeptModel" (34 : Nat) "MilesKeptModel" "then" "[I") ∈ GW := gw_t 738 _ (by decide +kernel) rfl
theorem kw739 : (Jvm.Cond.fieldLink "MilesKeptModel" (140 : Nat) "MilesKeptModel" "undoMany" "I") ∈ GW := gw_t 739 _ (by decide +kernel) rfl
theorem kw740 : (Jvm.Cond.fieldLink "MilesKeptModel" (218 : Nat) "MilesKeptModel" "undoAt" "I") ∈ GW := gw_t 740 _ (by decide +kernel) rfl
theorem kw741 : (Jvm.Cond.fieldLink "MilesKeptModel" (37 : Nat) "MilesKeptModel" "undos" "[I") ∈ GW := gw_t 741 _ (by decide +kernel) rfl
theorem kw742 : (Jvm.Cond.fieldLink "MilesKeptModel" (40 : Nat) "MilesKeptModel" "isKept" "[Z") ∈ GW := gw_t 742 _ (by decide +kernel) rfl
theorem kw743 : (Jvm.Cond.fieldLink "MilesKeptModel" (44 : Nat) "MilesKeptModel" "kept" "[I") ∈ GW := gw_t 743 _ (by decide +kernel) rfl
theorem kw744 : (Jvm.Cond.fieldLink "MilesKeptModel" (143 : Nat) "MilesKeptModel" "isKnown" "Z") ∈ GW := gw_t 744 _ (by decide +kernel) rfl
theorem kw745 : (Jvm.Cond.fieldLink "MilesKeptModel" (168 : Nat) "MilesKeptModel" "best" "I") ∈ GW := gw_t 745 _ (by decide +kernel) rfl
theorem kw746 : (Jvm.Cond.fieldLink "MilesKeptModel" (174 : Nat) "MilesKeptModel" "firstCode" "I") ∈ GW := gw_t 746 _ (by decide +kernel) rfl
theorem kw747 : (Jvm.Cond.fieldLink "MilesKeptModel" (177 : Nat) "MilesKeptModel" "rivalMany" "J") ∈ GW := gw_t 747 _ (by decide +kernel) rfl
theorem kw748 : (Jvm.Cond.fieldLink "MilesKeptModel" (181 : Nat) "MilesKeptModel" "certain" "I") ∈ GW := gw_t 748 _ (by decide +kernel) rfl
theorem kw749 : (Jvm.Cond.fieldLink "MilesKeptModel" (184 : Nat) "MilesKeptModel" "possible" "I") ∈ GW := gw_t 749 _ (by decide +kernel) rfl
theorem kw750 : (Jvm.Cond.fieldLink "MilesKeptModel" (47 : Nat) "MilesKeptModel" "goods" "[I") ∈ GW := gw_t 750 _ (by decide +kernel) rfl
theorem kw751 : (Jvm.Cond.fieldLink "MilesKeptModel" (155 : Nat) "MilesKeptModel" "setKept" "I") ∈ GW := gw_t 751 _ (by decide +kernel) rfl
theorem kw752 : (Jvm.Cond.fieldLink "MilesKeptModel" (158 : Nat) "MilesKeptModel" "lastKept" "I") ∈ GW := gw_t 752 _ (by decide +kernel) rfl
theorem kw753 : (Jvm.Cond.fieldLink "MilesKeptModel" (161 : Nat) "MilesKeptModel" "lastFar" "I") ∈ GW := gw_t 753 _ (by decide +kernel) rfl
theorem kw754 : (Jvm.Cond.fieldLink "MilesKeptModel" (209 : Nat) "MilesKeptModel" "swapMost" "I") ∈ GW := gw_t 754 _ (by decide +kernel) rfl
theorem kw755 : (Jvm.Cond.lays "MilesKeptModel" "MilesKeptModel" "letterMany" "I") ∈ GW := gw_t 755 _ (by decide +kernel) rfl
theorem kw757 : (Jvm.Cond.laysFinal "MilesKeptModel" "MilesKeptModel" "text" "[I") ∈ GW := gw_t 757 _ (by decide +kernel) rfl
theorem kw759 : (Jvm.Cond.lays "MilesKeptModel" "MilesKeptModel" "readAt" "I") ∈ GW := gw_t 759 _ (by decide +kernel) rfl
theorem kw761 : (Jvm.Cond.lays "MilesKeptModel" "MilesKeptModel" "tokenAt" "I") ∈ GW := gw_t 761 _ (by decide +kernel) rfl
theorem kw763 : (Jvm.Cond.lays "MilesKeptModel" "MilesKeptModel" "token" "I") ∈ GW := gw_t 763 _ (by decide +kernel) rfl
theorem kw765 : (Jvm.Cond.lays "MilesKeptModel" "MilesKeptModel" "value" "I") ∈ GW := gw_t 765 _ (by decide +kernel) rfl
theorem kw767 : (Jvm.Cond.lays "MilesKeptModel" "MilesKeptModel" "faultAt" "I") ∈ GW := gw_t 767 _ (by decide +kernel) rfl
theorem kw769 : (Jvm.Cond.laysFinal "MilesKeptModel" "MilesKeptModel" "read" "[I") ∈ GW := gw_t 769 _ (by decide +kernel) rfl
theorem kw771 : (Jvm.Cond.lays "MilesKeptModel" "MilesKeptModel" "readChanges" "I") ∈ GW := gw_t 771 _ (by decide +kernel) rfl
theorem kw773 : (Jvm.Cond.lays "MilesKeptModel" "MilesKeptModel" "readStart" "I") ∈ GW := gw_t 773 _ (by decide +kernel) rfl
theorem kw775 : (Jvm.Cond.lays "MilesKeptModel" "MilesKeptModel" "readOnce" "I") ∈ GW := gw_t 775 _ (by decide +kernel) rfl
theorem kw777 : (Jvm.Cond.laysFinal "MilesKeptModel" "MilesKeptModel" "readDays" "[I") ∈ GW := gw_t 777 _ (by decide +kernel) rfl
theorem kw779 : (Jvm.Cond.laysFinal "MilesKeptModel" "MilesKeptModel" "readWas" "[I") ∈ GW := gw_t 779 _ (by decide +kernel) rfl
theorem kw781 : (Jvm.Cond.laysFinal "MilesKeptModel" "MilesKeptModel" "readThen" "[I") ∈ GW := gw_t 781 _ (by decide +kernel) rfl
theorem kw783 : (Jvm.Cond.laysFinal "MilesKeptModel" "MilesKeptModel" "now" "[I") ∈ GW := gw_t 783 _ (by decide +kernel) rfl
theorem kw785 : (Jvm.Cond.lays "MilesKeptModel" "MilesKeptModel" "changeMany" "I") ∈ GW := gw_t 785 _ (by decide +kernel) rfl
theorem kw787 : (Jvm.Cond.lays "MilesKeptModel" "MilesKeptModel" "start" "I") ∈ GW := gw_t 787 _ (by decide +kernel) rfl
theorem kw789 : (Jvm.Cond.laysFinal "MilesKeptModel" "MilesKeptModel" "changeDays" "[I") ∈ GW := gw_t 789 _ (by decide +kernel) rfl
theorem kw791 : (Jvm.Cond.laysFinal "MilesKeptModel" "MilesKeptModel" "was" "[I") ∈ GW := gw_t 791 _ (by decide +kernel) rfl
theorem kw793 : (Jvm.Cond.laysFinal "MilesKeptModel" "MilesKeptModel" "then" "[I") ∈ GW := gw_t 793 _ (by decide +kernel) rfl
theorem kw795 : (Jvm.Cond.lays "MilesKeptModel" "MilesKeptModel" "undoMany" "I") ∈ GW := gw_t 795 _ (by decide +kernel) rfl
theorem kw797 : (Jvm.Cond.lays "MilesKeptModel" "MilesKeptModel" "undoAt" "I") ∈ GW := gw_t 797 _ (by decide +kernel) rfl
theorem kw799 : (Jvm.Cond.laysFinal "MilesKeptModel" "MilesKeptModel" "undos" "[I") ∈ GW := gw_t 799 _ (by decide +kernel) rfl
theorem kw801 : (Jvm.Cond.laysFinal "MilesKeptModel" "MilesKeptModel" "isKept" "[Z") ∈ GW := gw_t 801 _ (by decide +kernel) rfl
theorem kw803 : (Jvm.Cond.laysFinal "MilesKeptModel" "MilesKeptModel" "kept" "[I") ∈ GW := gw_t 803 _ (by decide +kernel) rfl
theorem kw805 : (Jvm.Cond.lays "MilesKeptModel" "MilesKeptModel" "isKnown" "Z") ∈ GW := gw_t 805 _ (by decide +kernel) rfl
theorem kw807 : (Jvm.Cond.lays "MilesKeptModel" "MilesKeptModel" "best" "I") ∈ GW := gw_t 807 _ (by decide +kernel) rfl
theorem kw809 : (Jvm.Cond.lays "MilesKeptModel" "MilesKeptModel" "firstCode" "I") ∈ GW := gw_t 809 _ (by decide +kernel) rfl
theorem kw811 : (Jvm.Cond.lays "MilesKeptModel" "MilesKeptModel" "rivalMany" "J") ∈ GW := gw_t 811 _ (by decide +kernel) rfl
theorem kw813 : (Jvm.Cond.lays "MilesKeptModel" "MilesKeptModel" "certain" "I") ∈ GW := gw_t 813 _ (by decide +kernel) rfl
theorem kw815 : (Jvm.Cond.lays "MilesKeptModel" "MilesKeptModel" "possible" "I") ∈ GW := gw_t 815 _ (by decide +kernel) rfl
theorem kw817 : (Jvm.Cond.laysFinal "MilesKeptModel" "MilesKeptModel" "goods" "[I") ∈ GW := gw_t 817 _ (by decide +kernel) rfl
theorem kw819 : (Jvm.Cond.lays "MilesKeptModel" "MilesKeptModel" "setKept" "I") ∈ GW := gw_t 819 _ (by decide +kernel) rfl
theorem kw821 : (Jvm.Cond.lays "MilesKeptModel" "MilesKeptModel" "lastKept" "I") ∈ GW := gw_t 821 _ (by decide +kernel) rfl
theorem kw823 : (Jvm.Cond.lays "MilesKeptModel" "MilesKeptModel" "lastFar" "I") ∈ GW := gw_t 823 _ (by decide +kernel) rfl
theorem kw825 : (Jvm.Cond.lays "MilesKeptModel" "MilesKeptModel" "swapMost" "I") ∈ GW := gw_t 825 _ (by decide +kernel) rfl
theorem kw828 : (Jvm.Cond.methodLink "MilesKeptLaw" (17 : Nat) ({ cls := "MilesKeptModel", name := "type", desc := "(I)I" } : Jvm.MethodName)) ∈ GW := gw_t 828 _ (by decide +kernel) rfl
theorem kw829 : (Jvm.Cond.instanceMethod ({ cls := "MilesKeptModel", name := "type", desc := "(I)I" } : Jvm.MethodName)) ∈ GW := gw_t 829 _ (by decide +kernel) rfl
theorem kw830 : (Jvm.Cond.selects "MilesKeptModel" ({ cls := "MilesKeptModel", name := "type", desc := "(I)I" } : Jvm.MethodName) ({ cls := "MilesKeptModel", name := "type", desc := "(I)I" } : Jvm.MethodName)) ∈ GW := gw_t 830 _ (by decide +kernel) rfl
theorem kw831 : (Jvm.Cond.code ({ cls := "MilesKeptModel", name := "type", desc := "(I)I" } : Jvm.MethodName) prog_11_method_6_code (2 : Nat) (Option.some Jvm.ClassFile.FieldType.int)) ∈ GW := gw_t 831 _ (by decide +kernel) rfl
theorem kw832 : (Jvm.Cond.methodLink "MilesKeptModel" (66 : Nat) ({ cls := "MilesKeptModel", name := "in", desc := "(III)Z" } : Jvm.MethodName)) ∈ GW := gw_t 832 _ (by decide +kernel) rfl
theorem kw833 : (Jvm.Cond.static ({ cls := "MilesKeptModel", name := "in", desc := "(III)Z" } : Jvm.MethodName)) ∈ GW := gw_t 833 _ (by decide +kernel) rfl
theorem kw834 : (Jvm.Cond.code ({ cls := "MilesKeptModel", name := "in", desc := "(III)Z" } : Jvm.MethodName) prog_11_method_2_code (3 : Nat) (Option.some Jvm.ClassFile.FieldType.boolean)) ∈ GW := gw_t 834 _ (by decide +kernel) rfl
theorem kw835 : (Jvm.Cond.methodLink "MilesKeptLaw" (22 : Nat) ({ cls := "MilesKeptModel", name := "clear", desc := "()I" } : Jvm.MethodName)) ∈ GW := gw_t 835 _ (by decide +kernel) rfl
theorem kw836 : (Jvm.Cond.instanceMethod ({ cls := "MilesKeptModel", name := "clear", desc := "()I" } : Jvm.MethodName)) ∈ GW := gw_t 836 _ (by decide +kernel) rfl
theorem kw837 : (Jvm.Cond.selects "MilesKeptModel" ({ cls := "MilesKeptModel", name := "clear", desc := "()I" } : Jvm.MethodName) ({ cls := "MilesKeptModel", name := "clear", desc := "()I" } : Jvm.MethodName)) ∈ GW := gw_t 837 _ (by decide +kernel) rfl
theorem kw838 : (Jvm.Cond.code ({ cls := "MilesKeptModel", name := "clear", desc := "()I" } : Jvm.MethodName) prog_11_method_7_code (2 : Nat) (Option.some Jvm.ClassFile.FieldType.int)) ∈ GW := gw_t 838 _ (by decide +kernel) rfl
theorem kw839 : (Jvm.Cond.methodLink "MilesKeptLaw" (26 : Nat) ({ cls := "MilesKeptModel", name := "house", desc := "()I" } : Jvm.MethodName)) ∈ GW := gw_t 839 _ (by decide +kernel) rfl
theorem kw840 : (Jvm.Cond.instanceMethod ({ cls := "MilesKeptModel", name := "house", desc := "()I" } : Jvm.MethodName)) ∈ GW := gw_t 840 _ (by decide +kernel) rfl
theorem kw841 : (Jvm.Cond.selects "MilesKeptModel" ({ cls := "MilesKeptModel", name := "house", desc := "()I" } : Jvm.MethodName) ({ cls := "MilesKeptModel", name := "house", desc := "()I" } : Jvm.MethodName)) ∈ GW := gw_t 841 _ (by decide +kernel) rfl
theorem kw842 : (Jvm.Cond.code ({ cls := "MilesKeptModel", name := "house", desc := "()I" } : Jvm.MethodName) prog_11_method_21_code (2 : Nat) (Option.some Jvm.ClassFile.FieldType.int)) ∈ GW := gw_t 842 _ (by decide +kernel) rfl
theorem kw843 : (Jvm.Cond.methodLink "MilesKeptModel" (128 : Nat) ({ cls := "MilesKeptModel", name := "isMore", desc := "()Z" } : Jvm.MethodName)) ∈ GW := gw_t 843 _ (by decide +kernel) rfl
theorem kw845 : (Jvm.Cond.instanceMethod ({ cls := "MilesKeptModel", name := "isMore", desc := "()Z" } : Jvm.MethodName)) ∈ GW := gw_t 845 _ (by decide +kernel) rfl
theorem kw846 : (Jvm.Cond.code ({ cls := "MilesKeptModel", name := "isMore", desc := "()Z" } : Jvm.MethodName) prog_11_method_20_code (1 : Nat) (Option.some Jvm.ClassFile.FieldType.boolean)) ∈ GW := gw_t 846 _ (by decide +kernel) rfl
theorem kw847 : (Jvm.Cond.methodLink "MilesKeptModel" (131 : Nat) ({ cls := "MilesKeptModel", name := "readsItem", desc := "()Z" } : Jvm.MethodName)) ∈ GW := gw_t 847 _ (by decide +kernel) rfl
theorem kw849 : (Jvm.Cond.instanceMethod ({ cls := "MilesKeptModel", name := "readsItem", desc := "()Z" } : Jvm.MethodName)) ∈ GW := gw_t 849 _ (by decide +kernel) rfl
theorem kw850 : (Jvm.Cond.code ({ cls := "MilesKeptModel", name := "readsItem", desc := "()Z" } : Jvm.MethodName) prog_11_method_19_code (1 : Nat) (Option.some Jvm.ClassFile.FieldType.boolean)) ∈ GW := gw_t 850 _ (by decide +kernel) rfl
theorem kw851 : (Jvm.Cond.methodLink "MilesKeptModel" (92 : Nat) ({ cls := "MilesKeptModel", name := "next", desc := "()V" } : Jvm.MethodName)) ∈ GW := gw_t 851 _ (by decide +kernel) rfl
theorem kw853 : (Jvm.Cond.instanceMethod ({ cls := "MilesKeptModel", name := "next", desc := "()V" } : Jvm.MethodName)) ∈ GW := gw_t 853 _ (by decide +kernel) rfl
theorem kw854 : (Jvm.Cond.code ({ cls := "MilesKeptModel", name := "next", desc := "()V" } : Jvm.MethodName) prog_11_method_9_code (1 : Nat) (Option.none : Option Jvm.ClassFile.FieldType)) ∈ GW := gw_t 854 _ (by decide +kernel) rfl
theorem kw855 : (Jvm.Cond.methodLink "MilesKeptModel" (82 : Nat) ({ cls := "MilesKeptModel", name := "isFigure", desc := "()Z" } : Jvm.MethodName)) ∈ GW := gw_t 855 _ (by decide +kernel) rfl
theorem kw857 : (Jvm.Cond.instanceMethod ({ cls := "MilesKeptModel", name := "isFigure", desc := "()Z" } : Jvm.MethodName)) ∈ GW := gw_t 857 _ (by decide +kernel) rfl
theorem kw858 : (Jvm.Cond.code ({ cls := "MilesKeptModel", name := "isFigure", desc := "()Z" } : Jvm.MethodName) prog_11_method_8_code (1 : Nat) (Option.some Jvm.ClassFile.FieldType.boolean)) ∈ GW := gw_t 858 _ (by decide +kernel) rfl
theorem kw859 : (Jvm.Cond.methodLink "MilesKeptModel" (119 : Nat) ({ cls := "MilesKeptModel", name := "readsReading", desc := "()Z" } : Jvm.MethodName)) ∈ GW := gw_t 859 _ (by decide +kernel) rfl
theorem kw861 : (Jvm.Cond.instanceMethod ({ cls := "MilesKeptModel", name := "readsReading", desc := "()Z" } : Jvm.MethodName)) ∈ GW := gw_t 861 _ (by decide +kernel) rfl
theorem kw862 : (Jvm.Cond.code ({ cls := "MilesKeptModel", name := "readsReading", desc := "()Z" } : Jvm.MethodName) prog_11_method_15_code (4 : Nat) (Option.some Jvm.ClassFile.FieldType.boolean)) ∈ GW := gw_t 862 _ (by decide +kernel) rfl
theorem kw863 : (Jvm.Cond.methodLink "MilesKeptModel" (95 : Nat) ({ cls := "MilesKeptModel", name := "fails", desc := "()Z" } : Jvm.MethodName)) ∈ GW := gw_t 863 _ (by decide +kernel) rfl
theorem kw865 : (Jvm.Cond.instanceMethod ({ cls := "MilesKeptModel", name := "fails", desc := "()Z" } : Jvm.MethodName)) ∈ GW := gw_t 865 _ (by decide +kernel) rfl
theorem kw866 : (Jvm.Cond.code ({ cls := "MilesKeptModel", name := "fails", desc := "()Z" } : Jvm.MethodName) prog_11_method_10_code (1 : Nat) (Option.some Jvm.ClassFile.FieldType.boolean)) ∈ GW := gw_t 866 _ (by decide +kernel) rfl
theorem kw867 : (Jvm.Cond.methodLink "MilesKeptModel" (98 : Nat) ({ cls := "MilesKeptModel", name := "number", desc := "(II)Z" } : Jvm.MethodName)) ∈ GW := gw_t 867 _ (by decide +kernel) rfl
theorem kw869 : (Jvm.Cond.instanceMethod ({ cls := "MilesKeptModel", name := "number", desc := "(II)Z" } : Jvm.MethodName)) ∈ GW := gw_t 869 _ (by decide +kernel) rfl
theorem kw870 : (Jvm.Cond.code ({ cls := "MilesKeptModel", name := "number", desc := "(II)Z" } : Jvm.MethodName) prog_11_method_11_code (3 : Nat) (Option.some Jvm.ClassFile.FieldType.boolean)) ∈ GW := gw_t 870 _ (by decide +kernel) rfl
theorem kw871 : (Jvm.Cond.methodLink "MilesKeptModel" (102 : Nat) ({ cls := "MilesKeptModel", name := "ends", desc := "()Z" } : Jvm.MethodName)) ∈ GW := gw_t 871 _ (by decide +kernel) rfl
theorem kw873 : (Jvm.Cond.instanceMethod ({ cls := "MilesKeptModel", name := "ends", desc := "()Z" } : Jvm.MethodName)) ∈ GW := gw_t 873 _ (by decide +kernel) rfl
theorem kw874 : (Jvm.Cond.code ({ cls := "MilesKeptModel", name := "ends", desc := "()Z" } : Jvm.MethodName) prog_11_method_13_code (1 : Nat) (Option.some Jvm.ClassFile.FieldType.boolean)) ∈ GW := gw_t 874 _ (by decide +kernel) rfl
theorem kw875 : (Jvm.Cond.methodLink "MilesKeptModel" (105 : Nat) ({ cls := "MilesKeptModel", name := "comes", desc := "([IIII)I" } : Jvm.MethodName)) ∈ GW := gw_t 875 _ (by decide +kernel) rfl
theorem kw876 : (Jvm.Cond.static ({ cls := "MilesKeptModel", name := "comes", desc := "([IIII)I" } : Jvm.MethodName)) ∈ GW := gw_t 876 _ (by decide +kernel) rfl
theorem kw877 : (Jvm.Cond.code ({ cls := "MilesKeptModel", name := "comes", desc := "([IIII)I" } : Jvm.MethodName) prog_11_method_14_code (5 : Nat) (Option.some Jvm.ClassFile.FieldType.int)) ∈ GW := gw_t 877 _ (by decide +kernel) rfl
theorem kw878 : (Jvm.Cond.methodLink "MilesKeptModel" (122 : Nat) ({ cls := "MilesKeptModel", name := "readsChange", desc := "()Z" } : Jvm.MethodName)) ∈ GW := gw_t 878 _ (by decide +kernel) rfl
theorem kw880 : (Jvm.Cond.instanceMethod ({ cls := "MilesKeptModel", name := "readsChange", desc := "()Z" } : Jvm.MethodName)) ∈ GW := gw_t 880 _ (by decide +kernel) rfl
theorem kw881 : (Jvm.Cond.code ({ cls := "MilesKeptModel", name := "readsChange", desc := "()Z" } : Jvm.MethodName) prog_11_method_16_code (5 : Nat) (Option.some Jvm.ClassFile.FieldType.boolean)) ∈ GW := gw_t 881 _ (by decide +kernel) rfl
theorem kw882 : (Jvm.Cond.methodLink "MilesKeptModel" (109 : Nat) ({ cls := "MilesKeptModel", name := "plate1", desc := "()Z" } : Jvm.MethodName)) ∈ GW := gw_t 882 _ (by decide +kernel) rfl
theorem kw884 : (Jvm.Cond.instanceMethod ({ cls := "MilesKeptModel", name := "plate1", desc := "()Z" } : Jvm.MethodName)) ∈ GW := gw_t 884 _ (by decide +kernel) rfl
theorem kw885 : (Jvm.Cond.code ({ cls := "MilesKeptModel", name := "plate1", desc := "()Z" } : Jvm.MethodName) prog_11_method_12_code (1 : Nat) (Option.some Jvm.ClassFile.FieldType.boolean)) ∈ GW := gw_t 885 _ (by decide +kernel) rfl
theorem kw886 : (Jvm.Cond.methodLink "MilesKeptModel" (125 : Nat) ({ cls := "MilesKeptModel", name := "readsOnce", desc := "(I)Z" } : Jvm.MethodName)) ∈ GW := gw_t 886 _ (by decide +kernel) rfl
theorem kw888 : (Jvm.Cond.instanceMethod ({ cls := "MilesKeptModel", name := "readsOnce", desc := "(I)Z" } : Jvm.MethodName)) ∈ GW := gw_t 888 _ (by decide +kernel) rfl
theorem kw889 : (Jvm.Cond.code ({ cls := "MilesKeptModel", name := "readsOnce", desc := "(I)Z" } : Jvm.MethodName) prog_11_method_18_code (3 : Nat) (Option.some Jvm.ClassFile.FieldType.boolean)) ∈ GW := gw_t 889 _ (by decide +kernel) rfl
theorem kw890 : (Jvm.Cond.methodLink "MilesKeptModel" (112 : Nat) ({ cls := "MilesKeptModel", name := "has", desc := "(II)Z" } : Jvm.MethodName)) ∈ GW := gw_t 890 _ (by decide +kernel) rfl
theorem kw891 : (Jvm.Cond.static ({ cls := "MilesKeptModel", name := "has", desc := "(II)Z" } : Jvm.MethodName)) ∈ GW := gw_t 891 _ (by decide +kernel) rfl
theorem kw892 : (Jvm.Cond.code ({ cls := "MilesKeptModel", name := "has", desc := "(II)Z" } : Jvm.MethodName) prog_11_method_3_code (2 : Nat) (Option.some Jvm.ClassFile.FieldType.boolean)) ∈ GW := gw_t 892 _ (by decide +kernel) rfl
theorem kw893 : (Jvm.Cond.methodLink "MilesKeptModel" (115 : Nat) ({ cls := "MilesKeptModel", name := "isWrap", desc := "(I)Z" } : Jvm.MethodName)) ∈ GW := gw_t 893 _ (by decide +kernel) rfl
theorem kw894 : (Jvm.Cond.static ({ cls := "MilesKeptModel", name := "isWrap", desc := "(I)Z" } : Jvm.MethodName)) ∈ GW := gw_t 894 _ (by decide +kernel) rfl
theorem kw895 : (Jvm.Cond.code ({ cls := "MilesKeptModel", name := "isWrap", desc := "(I)Z" } : Jvm.MethodName) prog_11_method_17_code (1 : Nat) (Option.some Jvm.ClassFile.FieldType.boolean)) ∈ GW := gw_t 895 _ (by decide +kernel) rfl
theorem kw896 : (Jvm.Cond.methodLink "MilesKeptLaw" (31 : Nat) ({ cls := "MilesKeptModel", name := "reading", desc := "(II)I" } : Jvm.MethodName)) ∈ GW := gw_t 896 _ (by decide +kernel) rfl
theorem kw897 : (Jvm.Cond.instanceMethod ({ cls := "MilesKeptModel", name := "reading", desc := "(II)I" } : Jvm.MethodName)) ∈ GW := gw_t 897 _ (by decide +kernel) rfl
theorem kw898 : (Jvm.Cond.selects "MilesKeptModel" ({ cls := "MilesKeptModel", name := "reading", desc := "(II)I" } : Jvm.MethodName) ({ cls := "MilesKeptModel", name := "reading", desc := "(II)I" } : Jvm.MethodName)) ∈ GW := gw_t 898 _ (by decide +kernel) rfl
theorem kw899 : (Jvm.Cond.code ({ cls := "MilesKeptModel", name := "reading", desc := "(II)I" } : Jvm.MethodName) prog_11_method_32_code (3 : Nat) (Option.some Jvm.ClassFile.FieldType.int)) ∈ GW := gw_t 899 _ (by decide +kernel) rfl
theorem kw900 : (Jvm.Cond.methodLink "MilesKeptModel" (190 : Nat) ({ cls := "MilesKeptModel", name := "isReading", desc := "(I)Z" } : Jvm.MethodName)) ∈ GW := gw_t 900 _ (by decide +kernel) rfl
theorem kw902 : (Jvm.Cond.instanceMethod ({ cls := "MilesKeptModel", name := "isReading", desc := "(I)Z" } : Jvm.MethodName)) ∈ GW := gw_t 902 _ (by decide +kernel) rfl
theorem kw903 : (Jvm.Cond.code ({ cls := "MilesKeptModel", name := "isReading", desc := "(I)Z" } : Jvm.MethodName) prog_11_method_29_code (2 : Nat) (Option.some Jvm.ClassFile.FieldType.boolean)) ∈ GW := gw_t 903 _ (by decide +kernel) rfl
theorem kw904 : (Jvm.Cond.methodLink "MilesKeptModel" (193 : Nat) ({ cls := "MilesKeptModel", name := "knows", desc := "()V" } : Jvm.MethodName)) ∈ GW := gw_t 904 _ (by decide +kernel) rfl
theorem kw906 : (Jvm.Cond.instanceMethod ({ cls := "MilesKeptModel", name := "knows", desc := "()V" } : Jvm.MethodName)) ∈ GW := gw_t 906 _ (by decide +kernel) rfl
theorem kw907 : (Jvm.Cond.code ({ cls := "MilesKeptModel", name := "knows", desc := "()V" } : Jvm.MethodName) prog_11_method_28_code (5 : Nat) (Option.none : Option Jvm.ClassFile.FieldType)) ∈ GW := gw_t 907 _ (by decide +kernel) rfl
theorem kw908 : (Jvm.Cond.methodLink "MilesKeptModel" (147 : Nat) ({ cls := "MilesKeptModel", name := "power", desc := "(I)I" } : Jvm.MethodName)) ∈ GW := gw_t 908 _ (by decide +kernel) rfl
theorem kw909 : (Jvm.Cond.static ({ cls := "MilesKeptModel", name := "power", desc := "(I)I" } : Jvm.MethodName)) ∈ GW := gw_t 909 _ (by decide +kernel) rfl
theorem kw910 : (Jvm.Cond.code ({ cls := "MilesKeptModel", name := "power", desc := "(I)I" } : Jvm.MethodName) prog_11_method_23_code (3 : Nat) (Option.some Jvm.ClassFile.FieldType.int)) ∈ GW := gw_t 910 _ (by decide +kernel) rfl
theorem kw911 : (Jvm.Cond.methodLink "MilesKeptModel" (171 : Nat) ({ cls := "MilesKeptModel", name := "goodOf", desc := "(II)I" } : Jvm.MethodName)) ∈ GW := gw_t 911 _ (by decide +kernel) rfl
theorem kw913 : (Jvm.Cond.instanceMethod ({ cls := "MilesKeptModel", name := "goodOf", desc := "(II)I" } : Jvm.MethodName)) ∈ GW := gw_t 913 _ (by decide +kernel) rfl
theorem kw914 : (Jvm.Cond.code ({ cls := "MilesKeptModel", name := "goodOf", desc := "(II)I" } : Jvm.MethodName) prog_11_method_27_code (11 : Nat) (Option.some Jvm.ClassFile.FieldType.int)) ∈ GW := gw_t 914 _ (by decide +kernel) rfl
theorem kw915 : (Jvm.Cond.methodLink "MilesKeptModel" (151 : Nat) ({ cls := "MilesKeptModel", name := "countOf", desc := "(II)I" } : Jvm.MethodName)) ∈ GW := gw_t 915 _ (by decide +kernel) rfl
theorem kw917 : (Jvm.Cond.instanceMethod ({ cls := "MilesKeptModel", name := "countOf", desc := "(II)I" } : Jvm.MethodName)) ∈ GW := gw_t 917 _ (by decide +kernel) rfl
theorem kw918 : (Jvm.Cond.code ({ cls := "MilesKeptModel", name := "countOf", desc := "(II)I" } : Jvm.MethodName) prog_11_method_25_code (3 : Nat) (Option.some Jvm.ClassFile.FieldType.int)) ∈ GW := gw_t 918 _ (by decide +kernel) rfl
theorem kw919 : (Jvm.Cond.methodLink "MilesKeptModel" (164 : Nat) ({ cls := "MilesKeptModel", name := "farBehind", desc := "(III)I" } : Jvm.MethodName)) ∈ GW := gw_t 919 _ (by decide +kernel) rfl
theorem kw921 : (Jvm.Cond.instanceMethod ({ cls := "MilesKeptModel", name := "farBehind", desc := "(III)I" } : Jvm.MethodName)) ∈ GW := gw_t 921 _ (by decide +kernel) rfl
theorem kw922 : (Jvm.Cond.code ({ cls := "MilesKeptModel", name := "farBehind", desc := "(III)I" } : Jvm.MethodName) prog_11_method_26_code (6 : Nat) (Option.some Jvm.ClassFile.FieldType.int)) ∈ GW := gw_t 922 _ (by decide +kernel) rfl
theorem kw923 : (Jvm.Cond.methodLink "MilesKeptModel" (187 : Nat) ({ cls := "MilesKeptModel", name := "how", desc := "(II)I" } : Jvm.MethodName)) ∈ GW := gw_t 923 _ (by decide +kernel) rfl
theorem kw925 : (Jvm.Cond.instanceMethod ({ cls := "MilesKeptModel", name := "how", desc := "(II)I" } : Jvm.MethodName)) ∈ GW := gw_t 925 _ (by decide +kernel) rfl
theorem kw926 : (Jvm.Cond.code ({ cls := "MilesKeptModel", name := "how", desc := "(II)I" } : Jvm.MethodName) prog_11_method_24_code (3 : Nat) (Option.some Jvm.ClassFile.FieldType.int)) ∈ GW := gw_t 926 _ (by decide +kernel) rfl
theorem kw927 : (Jvm.Cond.methodLink "MilesKeptModel" (196 : Nat) ({ cls := "MilesKeptModel", name := "farOf", desc := "(I)I" } : Jvm.MethodName)) ∈ GW := gw_t 927 _ (by decide +kernel) rfl
theorem kw929 : (Jvm.Cond.instanceMethod ({ cls := "MilesKeptModel", name := "farOf", desc := "(I)I" } : Jvm.MethodName)) ∈ GW := gw_t 929 _ (by decide +kernel) rfl
theorem kw930 : (Jvm.Cond.code ({ cls := "MilesKeptModel", name := "farOf", desc := "(I)I" } : Jvm.MethodName) prog_11_method_30_code (2 : Nat) (Option.some Jvm.ClassFile.FieldType.int)) ∈ GW := gw_t 930 _ (by decide +kernel) rfl
theorem kw931 : (Jvm.Cond.methodLink "MilesKeptModel" (199 : Nat) ({ cls := "MilesKeptModel", name := "reasonOf", desc := "(I)I" } : Jvm.MethodName)) ∈ GW := gw_t 931 _ (by decide +kernel) rfl
theorem kw933 : (Jvm.Cond.instanceMethod ({ cls := "MilesKeptModel", name := "reasonOf", desc := "(I)I" } : Jvm.MethodName)) ∈ GW := gw_t 933 _ (by decide +kernel) rfl
theorem kw934 : (Jvm.Cond.code ({ cls := "MilesKeptModel", name := "reasonOf", desc := "(I)I" } : Jvm.MethodName) prog_11_method_31_code (3 : Nat) (Option.some Jvm.ClassFile.FieldType.int)) ∈ GW := gw_t 934 _ (by decide +kernel) rfl
theorem kw935 : (Jvm.Cond.methodLink "MilesKeptLaw" (35 : Nat) ({ cls := "MilesKeptModel", name := "change", desc := "(II)I" } : Jvm.MethodName)) ∈ GW := gw_t 935 _ (by decide +kernel) rfl
theorem kw936 : (Jvm.Cond.instanceMethod ({ cls := "MilesKeptModel", name := "change", desc := "(II)I" } : Jvm.MethodName)) ∈ GW := gw_t 936 _ (by decide +kernel) rfl
theorem kw937 : (Jvm.Cond.selects "MilesKeptModel" ({ cls := "MilesKeptModel", name := "change", desc := "(II)I" } : Jvm.MethodName) ({ cls := "MilesKeptModel", name := "change", desc := "(II)I" } : Jvm.MethodName)) ∈ GW := gw_t 937 _ (by decide +kernel) rfl
theorem kw938 : (Jvm.Cond.code ({ cls := "MilesKeptModel", name := "change", desc := "(II)I" } : Jvm.MethodName) prog_11_method_34_code (3 : Nat) (Option.some Jvm.ClassFile.FieldType.int)) ∈ GW := gw_t 938 _ (by decide +kernel) rfl
theorem kw939 : (Jvm.Cond.methodLink "MilesKeptModel" (205 : Nat) ({ cls := "MilesKeptModel", name := "held", desc := "()I" } : Jvm.MethodName)) ∈ GW := gw_t 939 _ (by decide +kernel) rfl
theorem kw941 : (Jvm.Cond.instanceMethod ({ cls := "MilesKeptModel", name := "held", desc := "()I" } : Jvm.MethodName)) ∈ GW := gw_t 941 _ (by decide +kernel) rfl
theorem kw942 : (Jvm.Cond.code ({ cls := "MilesKeptModel", name := "held", desc := "()I" } : Jvm.MethodName) prog_11_method_33_code (8 : Nat) (Option.some Jvm.ClassFile.FieldType.int)) ∈ GW := gw_t 942 _ (by decide +kernel) rfl
theorem kw943 : (Jvm.Cond.methodLink "MilesKeptModel" (202 : Nat) ({ cls := "MilesKeptModel", name := "bits", desc := "(I)I" } : Jvm.MethodName)) ∈ GW := gw_t 943 _ (by decide +kernel) rfl
theorem kw944 : (Jvm.Cond.static ({ cls := "MilesKeptModel", name := "bits", desc := "(I)I" } : Jvm.MethodName)) ∈ GW := gw_t 944 _ (by decide +kernel) rfl
theorem kw945 : (Jvm.Cond.code ({ cls := "MilesKeptModel", name := "bits", desc := "(I)I" } : Jvm.MethodName) prog_11_method_4_code (3 : Nat) (Option.some Jvm.ClassFile.FieldType.int)) ∈ GW := gw_t 945 _ (by decide +kernel) rfl
theorem kw946 : (Jvm.Cond.methodLink "MilesKeptLaw" (39 : Nat) ({ cls := "MilesKeptModel", name := "now", desc := "(I)I" } : Jvm.MethodName)) ∈ GW := gw_t 946 _ (by decide +kernel) rfl
theorem kw947 : (Jvm.Cond.instanceMethod ({ cls := "MilesKeptModel", name := "now", desc := "(I)I" } : Jvm.MethodName)) ∈ GW := gw_t 947 _ (by decide +kernel) rfl
theorem kw948 : (Jvm.Cond.selects "MilesKeptModel" ({ cls := "MilesKeptModel", name := "now", desc := "(I)I" } : Jvm.MethodName) ({ cls := "MilesKeptModel", name := "now", desc := "(I)I" } : Jvm.MethodName)) ∈ GW := gw_t 948 _ (by decide +kernel) rfl
theorem kw949 : (Jvm.Cond.code ({ cls := "MilesKeptModel", name := "now", desc := "(I)I" } : Jvm.MethodName) prog_11_method_37_code (2 : Nat) (Option.some Jvm.ClassFile.FieldType.int)) ∈ GW := gw_t 949 _ (by decide +kernel) rfl
theorem kw950 : (Jvm.Cond.methodLink "MilesKeptModel" (212 : Nat) ({ cls := "MilesKeptModel", name := "keptOf", desc := "(I)I" } : Jvm.MethodName)) ∈ GW := gw_t 950 _ (by decide +kernel) rfl
theorem kw952 : (Jvm.Cond.instanceMethod ({ cls := "MilesKeptModel", name := "keptOf", desc := "(I)I" } : Jvm.MethodName)) ∈ GW := gw_t 952 _ (by decide +kernel) rfl
theorem kw953 : (Jvm.Cond.code ({ cls := "MilesKeptModel", name := "keptOf", desc := "(I)I" } : Jvm.MethodName) prog_11_method_36_code (2 : Nat) (Option.some Jvm.ClassFile.FieldType.int)) ∈ GW := gw_t 953 _ (by decide +kernel) rfl
theorem kw954 : (Jvm.Cond.methodLink "MilesKeptModel" (215 : Nat) ({ cls := "MilesKeptModel", name := "swap", desc := "()I" } : Jvm.MethodName)) ∈ GW := gw_t 954 _ (by decide +kernel) rfl
theorem kw956 : (Jvm.Cond.instanceMethod ({ cls := "MilesKeptModel", name := "swap", desc := "()I" } : Jvm.MethodName)) ∈ GW := gw_t 956 _ (by decide +kernel) rfl
theorem kw957 : (Jvm.Cond.code ({ cls := "MilesKeptModel", name := "swap", desc := "()I" } : Jvm.MethodName) prog_11_method_35_code (6 : Nat) (Option.some Jvm.ClassFile.FieldType.int)) ∈ GW := gw_t 957 _ (by decide +kernel) rfl
theorem kw958 : (Jvm.Cond.methodLink "MilesKeptLaw" (44 : Nat) ({ cls := "MilesKeptModel", name := "rivals", desc := "()J" } : Jvm.MethodName)) ∈ GW := gw_t 958 _ (by decide +kernel) rfl
theorem kw959 : (Jvm.Cond.instanceMethod ({ cls := "MilesKeptModel", name := "rivals", desc := "()J" } : Jvm.MethodName)) ∈ GW := gw_t 959 _ (by decide +kernel) rfl
theorem kw960 : (Jvm.Cond.selects "MilesKeptModel" ({ cls := "MilesKeptModel", name := "rivals", desc := "()J" } : Jvm.MethodName) ({ cls := "MilesKeptModel", name := "rivals", desc := "()J" } : Jvm.MethodName)) ∈ GW := gw_t 960 _ (by decide +kernel) rfl
theorem kw961 : (Jvm.Cond.code ({ cls := "MilesKeptModel", name := "rivals", desc := "()J" } : Jvm.MethodName) prog_11_method_38_code (1 : Nat) (Option.some Jvm.ClassFile.FieldType.long)) ∈ GW := gw_t 961 _ (by decide +kernel) rfl
theorem kw962 : (Jvm.Cond.methodLink "MilesKeptLaw" (49 : Nat) ({ cls := "MilesKeptModel", name := "adds", desc := "(III)I" } : Jvm.MethodName)) ∈ GW := gw_t 962 _ (by decide +kernel) rfl
theorem kw963 : (Jvm.Cond.instanceMethod ({ cls := "MilesKeptModel", name := "adds", desc := "(III)I" } : Jvm.MethodName)) ∈ GW := gw_t 963 _ (by decide +kernel) rfl
theorem kw964 : (Jvm.Cond.selects "MilesKeptModel" ({ cls := "MilesKeptModel", name := "adds", desc := "(III)I" } : Jvm.MethodName) ({ cls := "MilesKeptModel", name := "adds", desc := "(III)I" } : Jvm.MethodName)) ∈ GW := gw_t 964 _ (by decide +kernel) rfl
theorem kw965 : (Jvm.Cond.code ({ cls := "MilesKeptModel", name := "adds", desc := "(III)I" } : Jvm.MethodName) prog_11_method_40_code (4 : Nat) (Option.some Jvm.ClassFile.FieldType.int)) ∈ GW := gw_t 965 _ (by decide +kernel) rfl
theorem kw966 : (Jvm.Cond.methodLink "MilesKeptModel" (221 : Nat) ({ cls := "MilesKeptModel", name := "remember", desc := "()V" } : Jvm.MethodName)) ∈ GW := gw_t 966 _ (by decide +kernel) rfl
theorem kw968 : (Jvm.Cond.instanceMethod ({ cls := "MilesKeptModel", name := "remember", desc := "()V" } : Jvm.MethodName)) ∈ GW := gw_t 968 _ (by decide +kernel) rfl
theorem kw969 : (Jvm.Cond.code ({ cls := "MilesKeptModel", name := "remember", desc := "()V" } : Jvm.MethodName) prog_11_method_39_code (2 : Nat) (Option.none : Option Jvm.ClassFile.FieldType)) ∈ GW := gw_t 969 _ (by decide +kernel) rfl
theorem kw970 : (Jvm.Cond.methodLink "MilesKeptLaw" (53 : Nat) ({ cls := "MilesKeptModel", name := "strikes", desc := "(I)I" } : Jvm.MethodName)) ∈ GW := gw_t 970 _ (by decide +kernel) rfl
theorem kw971 : (Jvm.Cond.instanceMethod ({ cls := "MilesKeptModel", name := "strikes", desc := "(I)I" } : Jvm.MethodName)) ∈ GW := gw_t 971 _ (by decide +kernel) rfl
theorem kw972 : (Jvm.Cond.selects "MilesKeptModel" ({ cls := "MilesKeptModel", name := "strikes", desc := "(I)I" } : Jvm.MethodName) ({ cls := "MilesKeptModel", name := "strikes", desc := "(I)I" } : Jvm.MethodName)) ∈ GW := gw_t 972 _ (by decide +kernel) rfl
theorem kw973 : (Jvm.Cond.code ({ cls := "MilesKeptModel", name := "strikes", desc := "(I)I" } : Jvm.MethodName) prog_11_method_41_code (3 : Nat) (Option.some Jvm.ClassFile.FieldType.int)) ∈ GW := gw_t 973 _ (by decide +kernel) rfl
theorem kw974 : (Jvm.Cond.methodLink "MilesKeptLaw" (57 : Nat) ({ cls := "MilesKeptModel", name := "rules", desc := "(II)I" } : Jvm.MethodName)) ∈ GW := gw_t 974 _ (by decide +kernel) rfl
theorem kw975 : (Jvm.Cond.instanceMethod ({ cls := "MilesKeptModel", name := "rules", desc := "(II)I" } : Jvm.MethodName)) ∈ GW := gw_t 975 _ (by decide +kernel) rfl
theorem kw976 : (Jvm.Cond.selects "MilesKeptModel" ({ cls := "MilesKeptModel", name := "rules", desc := "(II)I" } : Jvm.MethodName) ({ cls := "MilesKeptModel", name := "rules", desc := "(II)I" } : Jvm.MethodName)) ∈ GW := gw_t 976 _ (by decide +kernel) rfl
theorem kw977 : (Jvm.Cond.code ({ cls := "MilesKeptModel", name := "rules", desc := "(II)I" } : Jvm.MethodName) prog_11_method_42_code (3 : Nat) (Option.some Jvm.ClassFile.FieldType.int)) ∈ GW := gw_t 977 _ (by decide +kernel) rfl
theorem kw978 : (Jvm.Cond.methodLink "MilesKeptLaw" (61 : Nat) ({ cls := "MilesKeptModel", name := "undo", desc := "()I" } : Jvm.MethodName)) ∈ GW := gw_t 978 _ (by decide +kernel) rfl
theorem kw979 : (Jvm.Cond.instanceMethod ({ cls := "MilesKeptModel", name := "undo", desc := "()I" } : Jvm.MethodName)) ∈ GW := gw_t 979 _ (by decide +kernel) rfl
theorem kw980 : (Jvm.Cond.selects "MilesKeptModel" ({ cls := "MilesKeptModel", name := "undo", desc := "()I" } : Jvm.MethodName) ({ cls := "MilesKeptModel", name := "undo", desc := "()I" } : Jvm.MethodName)) ∈ GW := gw_t 980 _ (by decide +kernel) rfl
theorem kw981 : (Jvm.Cond.code ({ cls := "MilesKeptModel", name := "undo", desc := "()I" } : Jvm.MethodName) prog_11_method_43_code (2 : Nat) (Option.some Jvm.ClassFile.FieldType.int)) ∈ GW := gw_t 981 _ (by decide +kernel) rfl
theorem kw982 : (Jvm.Cond.methodLink "MilesKeptLaw" (65 : Nat) ({ cls := "MilesKeptModel", name := "on", desc := "(II)I" } : Jvm.MethodName)) ∈ GW := gw_t 982 _ (by decide +kernel) rfl
theorem kw983 : (Jvm.Cond.instanceMethod ({ cls := "MilesKeptModel", name := "on", desc := "(II)I" } : Jvm.MethodName)) ∈ GW := gw_t 983 _ (by decide +kernel) rfl
theorem kw984 : (Jvm.Cond.selects "MilesKeptModel" ({ cls := "MilesKeptModel", name := "on", desc := "(II)I" } : Jvm.MethodName) ({ cls := "MilesKeptModel", name := "on", desc := "(II)I" } : Jvm.MethodName)) ∈ GW := gw_t 984 _ (by decide +kernel) rfl
theorem kw985 : (Jvm.Cond.code ({ cls := "MilesKeptModel", name := "on", desc := "(II)I" } : Jvm.MethodName) prog_11_method_44_code (9 : Nat) (Option.some Jvm.ClassFile.FieldType.int)) ∈ GW := gw_t 985 _ (by decide +kernel) rfl
theorem kw986 : (Jvm.Cond.methodLink "MilesKeptLaw" (69 : Nat) ({ cls := "MilesKeptModel", name := "plate", desc := "(I)I" } : Jvm.MethodName)) ∈ GW := gw_t 986 _ (by decide +kernel) rfl
theorem kw987 : (Jvm.Cond.instanceMethod ({ cls := "MilesKeptModel", name := "plate", desc := "(I)I" } : Jvm.MethodName)) ∈ GW := gw_t 987 _ (by decide +kernel) rfl
theorem kw988 : (Jvm.Cond.selects "MilesKeptModel" ({ cls := "MilesKeptModel", name := "plate", desc := "(I)I" } : Jvm.MethodName) ({ cls := "MilesKeptModel", name := "plate", desc := "(I)I" } : Jvm.MethodName)) ∈ GW := gw_t 988 _ (by decide +kernel) rfl
theorem kw989 : (Jvm.Cond.code ({ cls := "MilesKeptModel", name := "plate", desc := "(I)I" } : Jvm.MethodName) prog_11_method_45_code (5 : Nat) (Option.some Jvm.ClassFile.FieldType.int)) ∈ GW := gw_t 989 _ (by decide +kernel) rfl
theorem kw990 : (Jvm.Cond.methodLink "MilesKeptLaw" (74 : Nat) ({ cls := "MilesKeptModel", name := "odds", desc := "(III)J" } : Jvm.MethodName)) ∈ GW := gw_t 990 _ (by decide +kernel) rfl
theorem kw991 : (Jvm.Cond.instanceMethod ({ cls := "MilesKeptModel", name := "odds", desc := "(III)J" } : Jvm.MethodName)) ∈ GW := gw_t 991 _ (by decide +kernel) rfl
theorem kw992 : (Jvm.Cond.selects "MilesKeptModel" ({ cls := "MilesKeptModel", name := "odds", desc := "(III)J" } : Jvm.MethodName) ({ cls := "MilesKeptModel", name := "odds", desc := "(III)J" } : Jvm.MethodName)) ∈ GW := gw_t 992 _ (by decide +kernel) rfl
theorem kw993 : (Jvm.Cond.code ({ cls := "MilesKeptModel", name := "odds", desc := "(III)J" } : Jvm.MethodName) prog_11_method_46_code (15 : Nat) (Option.some Jvm.ClassFile.FieldType.long)) ∈ GW := gw_t 993 _ (by decide +kernel) rfl
theorem kw994 : (Jvm.Cond.constantLong "MilesKeptModel" (224 : Nat) (-1 : Int64)) ∈ GW := gw_t 994 _ (by decide +kernel) rfl
theorem kw995 : (Jvm.Cond.constantLong "MilesKeptModel" (226 : Nat) (10 : Int64)) ∈ GW := gw_t 995 _ (by decide +kernel) rfl
theorem kw996 : (Jvm.Cond.methodLink "MilesKeptLaw" (78 : Nat) ({ cls := "MilesKeptModel", name := "keep", desc := "(I)I" } : Jvm.MethodName)) ∈ GW := gw_t 996 _ (by decide +kernel) rfl
theorem kw997 : (Jvm.Cond.instanceMethod ({ cls := "MilesKeptModel", name := "keep", desc := "(I)I" } : Jvm.MethodName)) ∈ GW := gw_t 997 _ (by decide +kernel) rfl
theorem kw998 : (Jvm.Cond.selects "MilesKeptModel" ({ cls := "MilesKeptModel", name := "keep", desc := "(I)I" } : Jvm.MethodName) ({ cls := "MilesKeptModel", name := "keep", desc := "(I)I" } : Jvm.MethodName)) ∈ GW := gw_t 998 _ (by decide +kernel) rfl
theorem kw999 : (Jvm.Cond.code ({ cls := "MilesKeptModel", name := "keep", desc := "(I)I" } : Jvm.MethodName) prog_11_method_47_code (3 : Nat) (Option.some Jvm.ClassFile.FieldType.int)) ∈ GW := gw_t 999 _ (by decide +kernel) rfl
theorem kw1000 : (Jvm.Cond.methodLink "MilesKeptLaw" (82 : Nat) ({ cls := "MilesKeptModel", name := "back", desc := "(I)I" } : Jvm.MethodName)) ∈ GW := gw_t 1000 _ (by decide +kernel) rfl
theorem kw1001 : (Jvm.Cond.instanceMethod ({ cls := "MilesKeptModel", name := "back", desc := "(I)I" } : Jvm.MethodName)) ∈ GW := gw_t 1001 _ (by decide +kernel) rfl
theorem kw1002 : (Jvm.Cond.selects "MilesKeptModel" ({ cls := "MilesKeptModel", name := "back", desc := "(I)I" } : Jvm.MethodName) ({ cls := "MilesKeptModel", name := "back", desc := "(I)I" } : Jvm.MethodName)) ∈ GW := gw_t 1002 _ (by decide +kernel) rfl
theorem kw1003 : (Jvm.Cond.code ({ cls := "MilesKeptModel", name := "back", desc := "(I)I" } : Jvm.MethodName) prog_11_method_48_code (3 : Nat) (Option.some Jvm.ClassFile.FieldType.int)) ∈ GW := gw_t 1003 _ (by decide +kernel) rfl
theorem kw1004 : (Jvm.Cond.methodLink "MilesKeptLaw" (86 : Nat) ({ cls := "MilesKeptModel", name := "count", desc := "(I)I" } : Jvm.MethodName)) ∈ GW := gw_t 1004 _ (by decide +kernel) rfl
theorem kw1005 : (Jvm.Cond.instanceMethod ({ cls := "MilesKeptModel", name := "count", desc := "(I)I" } : Jvm.MethodName)) ∈ GW := gw_t 1005 _ (by decide +kernel) rfl
theorem kw1006 : (Jvm.Cond.selects "MilesKeptModel" ({ cls := "MilesKeptModel", name := "count", desc := "(I)I" } : Jvm.MethodName) ({ cls := "MilesKeptModel", name := "count", desc := "(I)I" } : Jvm.MethodName)) ∈ GW := gw_t 1006 _ (by decide +kernel) rfl
theorem kw1007 : (Jvm.Cond.code ({ cls := "MilesKeptModel", name := "count", desc := "(I)I" } : Jvm.MethodName) prog_11_method_49_code (2 : Nat) (Option.some Jvm.ClassFile.FieldType.int)) ∈ GW := gw_t 1007 _ (by decide +kernel) rfl
theorem kp0 : Cond.selects "MilesKept" (⟨"MilesKept", "repairAnew", "()V"⟩ : MethodName) (⟨"MilesKept", "repairAnew", "()V"⟩ : MethodName) ∈ GW := gw_p 0 _ (by decide +kernel) rfl
theorem kp1 : Cond.selects "MilesKept$Stands" (⟨"MilesKept$Stands", "place", "(IIII)V"⟩ : MethodName) (⟨"MilesKept$Stands", "place", "(IIII)V"⟩ : MethodName) ∈ GW := gw_p 1 _ (by decide +kernel) rfl
theorem kp2 : Cond.selects "MilesKept$Repairs" (⟨"MilesKept$Repairs", "goForward", "()V"⟩ : MethodName) (⟨"MilesKept$Repairs", "goForward", "()V"⟩ : MethodName) ∈ GW := gw_p 2 _ (by decide +kernel) rfl
theorem kp3 : Cond.selects "MilesKept$Repairs" (⟨"MilesKept$Repairs", "spread", "(I)V"⟩ : MethodName) (⟨"MilesKept$Repairs", "spread", "(I)V"⟩ : MethodName) ∈ GW := gw_p 3 _ (by decide +kernel) rfl
theorem kp4 : Cond.selects "MilesKept$Repairs" (⟨"MilesKept$Repairs", "goBackward", "()V"⟩ : MethodName) (⟨"MilesKept$Repairs", "goBackward", "()V"⟩ : MethodName) ∈ GW := gw_p 4 _ (by decide +kernel) rfl
theorem kp5 : Cond.selects "MilesKept$Repairs" (⟨"MilesKept$Repairs", "gather", "(I)V"⟩ : MethodName) (⟨"MilesKept$Repairs", "gather", "(I)V"⟩ : MethodName) ∈ GW := gw_p 5 _ (by decide +kernel) rfl
theorem kp6 : Cond.selects "MilesKept$Repairs" (⟨"MilesKept$Repairs", "chooseFirst", "()V"⟩ : MethodName) (⟨"MilesKept$Repairs", "chooseFirst", "()V"⟩ : MethodName) ∈ GW := gw_p 6 _ (by decide +kernel) rfl
theorem kp7 : Cond.selects "MilesKept$Repairs" (⟨"MilesKept$Repairs", "bestStand", "(III)I"⟩ : MethodName) (⟨"MilesKept$Repairs", "bestStand", "(III)I"⟩ : MethodName) ∈ GW := gw_p 7 _ (by decide +kernel) rfl
theorem kp8 : Cond.selects "MilesKept$Repairs" (⟨"MilesKept$Repairs", "reasonBehind", "(II)I"⟩ : MethodName) (⟨"MilesKept$Repairs", "reasonBehind", "(II)I"⟩ : MethodName) ∈ GW := gw_p 8 _ (by decide +kernel) rfl
theorem kp9 : Cond.selects "MilesKept$Repairs" (⟨"MilesKept$Repairs", "findSwap", "()V"⟩ : MethodName) (⟨"MilesKept$Repairs", "findSwap", "()V"⟩ : MethodName) ∈ GW := gw_p 9 _ (by decide +kernel) rfl
theorem kp10 : Cond.selects "MilesKept$Repairs" (⟨"MilesKept$Repairs", "goodAhead", "(I)I"⟩ : MethodName) (⟨"MilesKept$Repairs", "goodAhead", "(I)I"⟩ : MethodName) ∈ GW := gw_p 10 _ (by decide +kernel) rfl
theorem kp11 : Cond.selects "MilesKept$Repairs" (⟨"MilesKept$Repairs", "goodFrom", "(I)I"⟩ : MethodName) (⟨"MilesKept$Repairs", "goodFrom", "(I)I"⟩ : MethodName) ∈ GW := gw_p 11 _ (by decide +kernel) rfl
theorem kp12 : Cond.selects "MilesKept$Plates" (⟨"MilesKept$Plates", "countBackward", "()V"⟩ : MethodName) (⟨"MilesKept$Plates", "countBackward", "()V"⟩ : MethodName) ∈ GW := gw_p 12 _ (by decide +kernel) rfl
theorem kp13 : Cond.selects "MilesKept$Plates" (⟨"MilesKept$Plates", "mostFrom", "(II)I"⟩ : MethodName) (⟨"MilesKept$Plates", "mostFrom", "(II)I"⟩ : MethodName) ∈ GW := gw_p 13 _ (by decide +kernel) rfl
theorem kp14 : Cond.selects "MilesKept$Plates" (⟨"MilesKept$Plates", "isLink", "(II)Z"⟩ : MethodName) (⟨"MilesKept$Plates", "isLink", "(II)Z"⟩ : MethodName) ∈ GW := gw_p 14 _ (by decide +kernel) rfl
theorem kp15 : Cond.selects "MilesKept$Plates" (⟨"MilesKept$Plates", "withLink", "(I)I"⟩ : MethodName) (⟨"MilesKept$Plates", "withLink", "(I)I"⟩ : MethodName) ∈ GW := gw_p 15 _ (by decide +kernel) rfl
theorem kp16 : Cond.selects "MilesKept$Teller" (⟨"MilesKept$Teller", "begin", "()V"⟩ : MethodName) (⟨"MilesKept$Teller", "begin", "()V"⟩ : MethodName) ∈ GW := gw_p 16 _ (by decide +kernel) rfl
theorem kp17 : Cond.selects "MilesKept$Teller" (⟨"MilesKept$Teller", "nextToken", "()V"⟩ : MethodName) (⟨"MilesKept$Teller", "nextToken", "()V"⟩ : MethodName) ∈ GW := gw_p 17 _ (by decide +kernel) rfl
theorem kp18 : Cond.selects "MilesKept$Teller" (⟨"MilesKept$Teller", "takeNumber", "()V"⟩ : MethodName) (⟨"MilesKept$Teller", "takeNumber", "()V"⟩ : MethodName) ∈ GW := gw_p 18 _ (by decide +kernel) rfl
theorem kp19 : Cond.selects "MilesKept$Teller" (⟨"MilesKept$Teller", "readReading", "()Z"⟩ : MethodName) (⟨"MilesKept$Teller", "readReading", "()Z"⟩ : MethodName) ∈ GW := gw_p 19 _ (by decide +kernel) rfl
theorem kp20 : Cond.selects "MilesKept$Teller" (⟨"MilesKept$Teller", "nextNumber", "(II)I"⟩ : MethodName) (⟨"MilesKept$Teller", "nextNumber", "(II)I"⟩ : MethodName) ∈ GW := gw_p 20 _ (by decide +kernel) rfl
theorem kp21 : Cond.selects "MilesKept$Teller" (⟨"MilesKept$Teller", "nextEnds", "()Z"⟩ : MethodName) (⟨"MilesKept$Teller", "nextEnds", "()Z"⟩ : MethodName) ∈ GW := gw_p 21 _ (by decide +kernel) rfl
theorem kp22 : Cond.selects "MilesKept$Teller" (⟨"MilesKept$Teller", "readRate", "()Z"⟩ : MethodName) (⟨"MilesKept$Teller", "readRate", "()Z"⟩ : MethodName) ∈ GW := gw_p 22 _ (by decide +kernel) rfl
theorem kp23 : Cond.selects "MilesKept$Teller" (⟨"MilesKept$Teller", "readWrap", "()Z"⟩ : MethodName) (⟨"MilesKept$Teller", "readWrap", "()Z"⟩ : MethodName) ∈ GW := gw_p 23 _ (by decide +kernel) rfl
theorem kp24 : Cond.selects "MilesKept$Teller" (⟨"MilesKept$Teller", "readStart", "()Z"⟩ : MethodName) (⟨"MilesKept$Teller", "readStart", "()Z"⟩ : MethodName) ∈ GW := gw_p 24 _ (by decide +kernel) rfl
theorem kp25 : Cond.selects "MilesKept$Teller" (⟨"MilesKept$Teller", "nextPlate", "()I"⟩ : MethodName) (⟨"MilesKept$Teller", "nextPlate", "()I"⟩ : MethodName) ∈ GW := gw_p 25 _ (by decide +kernel) rfl
theorem kp26 : Cond.selects "MilesKept$Teller" (⟨"MilesKept$Teller", "readChange", "()Z"⟩ : MethodName) (⟨"MilesKept$Teller", "readChange", "()Z"⟩ : MethodName) ∈ GW := gw_p 26 _ (by decide +kernel) rfl
theorem kp27 : Cond.selects "MilesKept$Repairs" (⟨"MilesKept$Repairs", "lastUntil", "(I)I"⟩ : MethodName) (⟨"MilesKept$Repairs", "lastUntil", "(I)I"⟩ : MethodName) ∈ GW := gw_p 27 _ (by decide +kernel) rfl
theorem kp28 : Cond.selects "MilesKept$Repairs" (⟨"MilesKept$Repairs", "firstAfter", "(I)I"⟩ : MethodName) (⟨"MilesKept$Repairs", "firstAfter", "(I)I"⟩ : MethodName) ∈ GW := gw_p 28 _ (by decide +kernel) rfl
theorem kp29 : Cond.selects "MilesKept$Losses" (⟨"MilesKept$Losses", "findBests", "()V"⟩ : MethodName) (⟨"MilesKept$Losses", "findBests", "()V"⟩ : MethodName) ∈ GW := gw_p 29 _ (by decide +kernel) rfl
theorem kp30 : Cond.selects "MilesKept$Losses" (⟨"MilesKept$Losses", "lastOf", "(I)I"⟩ : MethodName) (⟨"MilesKept$Losses", "lastOf", "(I)I"⟩ : MethodName) ∈ GW := gw_p 30 _ (by decide +kernel) rfl
theorem kp31 : Cond.selects "MilesKept$Losses" (⟨"MilesKept$Losses", "keepLast", "(II)I"⟩ : MethodName) (⟨"MilesKept$Losses", "keepLast", "(II)I"⟩ : MethodName) ∈ GW := gw_p 31 _ (by decide +kernel) rfl
theorem kp32 : Cond.selects "MilesKept$Losses" (⟨"MilesKept$Losses", "keepBehind", "(III)I"⟩ : MethodName) (⟨"MilesKept$Losses", "keepBehind", "(III)I"⟩ : MethodName) ∈ GW := gw_p 32 _ (by decide +kernel) rfl
theorem kp33 : Cond.selects "MilesKept$Losses" (⟨"MilesKept$Losses", "bestWithoutOne", "(I)I"⟩ : MethodName) (⟨"MilesKept$Losses", "bestWithoutOne", "(I)I"⟩ : MethodName) ∈ GW := gw_p 33 _ (by decide +kernel) rfl
theorem kp34 : Cond.selects "MilesKept$Losses" (⟨"MilesKept$Losses", "countEnough", "(I)V"⟩ : MethodName) (⟨"MilesKept$Losses", "countEnough", "(I)V"⟩ : MethodName) ∈ GW := gw_p 34 _ (by decide +kernel) rfl
theorem kp35 : Cond.selects "MilesKeptModel" (⟨"MilesKeptModel", "begins", "()V"⟩ : MethodName) (⟨"MilesKeptModel", "begins", "()V"⟩ : MethodName) ∈ GW := gw_p 35 _ (by decide +kernel) rfl
theorem kp36 : Cond.selects "MilesKeptModel" (⟨"MilesKeptModel", "tellsAll", "()V"⟩ : MethodName) (⟨"MilesKeptModel", "tellsAll", "()V"⟩ : MethodName) ∈ GW := gw_p 36 _ (by decide +kernel) rfl
theorem kp37 : Cond.selects "MilesKeptModel" (⟨"MilesKeptModel", "isMore", "()Z"⟩ : MethodName) (⟨"MilesKeptModel", "isMore", "()Z"⟩ : MethodName) ∈ GW := gw_p 37 _ (by decide +kernel) rfl
theorem kp38 : Cond.selects "MilesKeptModel" (⟨"MilesKeptModel", "readsItem", "()Z"⟩ : MethodName) (⟨"MilesKeptModel", "readsItem", "()Z"⟩ : MethodName) ∈ GW := gw_p 38 _ (by decide +kernel) rfl
theorem kp39 : Cond.selects "MilesKeptModel" (⟨"MilesKeptModel", "next", "()V"⟩ : MethodName) (⟨"MilesKeptModel", "next", "()V"⟩ : MethodName) ∈ GW := gw_p 39 _ (by decide +kernel) rfl
theorem kp40 : Cond.selects "MilesKeptModel" (⟨"MilesKeptModel", "isFigure", "()Z"⟩ : MethodName) (⟨"MilesKeptModel", "isFigure", "()Z"⟩ : MethodName) ∈ GW := gw_p 40 _ (by decide +kernel) rfl
theorem kp41 : Cond.selects "MilesKeptModel" (⟨"MilesKeptModel", "readsReading", "()Z"⟩ : MethodName) (⟨"MilesKeptModel", "readsReading", "()Z"⟩ : MethodName) ∈ GW := gw_p 41 _ (by decide +kernel) rfl
theorem kp42 : Cond.selects "MilesKeptModel" (⟨"MilesKeptModel", "fails", "()Z"⟩ : MethodName) (⟨"MilesKeptModel", "fails", "()Z"⟩ : MethodName) ∈ GW := gw_p 42 _ (by decide +kernel) rfl
theorem kp43 : Cond.selects "MilesKeptModel" (⟨"MilesKeptModel", "number", "(II)Z"⟩ : MethodName) (⟨"MilesKeptModel", "number", "(II)Z"⟩ : MethodName) ∈ GW := gw_p 43 _ (by decide +kernel) rfl
theorem kp44 : Cond.selects "MilesKeptModel" (⟨"MilesKeptModel", "ends", "()Z"⟩ : MethodName) (⟨"MilesKeptModel", "ends", "()Z"⟩ : MethodName) ∈ GW := gw_p 44 _ (by decide +kernel) rfl
theorem kp45 : Cond.selects "MilesKeptModel" (⟨"MilesKeptModel", "readsChange", "()Z"⟩ : MethodName) (⟨"MilesKeptModel", "readsChange", "()Z"⟩ : MethodName) ∈ GW := gw_p 45 _ (by decide +kernel) rfl
theorem kp46 : Cond.selects "MilesKeptModel" (⟨"MilesKeptModel", "plate1", "()Z"⟩ : MethodName) (⟨"MilesKeptModel", "plate1", "()Z"⟩ : MethodName) ∈ GW := gw_p 46 _ (by decide +kernel) rfl
theorem kp47 : Cond.selects "MilesKeptModel" (⟨"MilesKeptModel", "readsOnce", "(I)Z"⟩ : MethodName) (⟨"MilesKeptModel", "readsOnce", "(I)Z"⟩ : MethodName) ∈ GW := gw_p 47 _ (by decide +kernel) rfl
theorem kp48 : Cond.selects "MilesKeptModel" (⟨"MilesKeptModel", "isReading", "(I)Z"⟩ : MethodName) (⟨"MilesKeptModel", "isReading", "(I)Z"⟩ : MethodName) ∈ GW := gw_p 48 _ (by decide +kernel) rfl
theorem kp49 : Cond.selects "MilesKeptModel" (⟨"MilesKeptModel", "knows", "()V"⟩ : MethodName) (⟨"MilesKeptModel", "knows", "()V"⟩ : MethodName) ∈ GW := gw_p 49 _ (by decide +kernel) rfl
theorem kp50 : Cond.selects "MilesKeptModel" (⟨"MilesKeptModel", "goodOf", "(II)I"⟩ : MethodName) (⟨"MilesKeptModel", "goodOf", "(II)I"⟩ : MethodName) ∈ GW := gw_p 50 _ (by decide +kernel) rfl
theorem kp51 : Cond.selects "MilesKeptModel" (⟨"MilesKeptModel", "countOf", "(II)I"⟩ : MethodName) (⟨"MilesKeptModel", "countOf", "(II)I"⟩ : MethodName) ∈ GW := gw_p 51 _ (by decide +kernel) rfl
theorem kp52 : Cond.selects "MilesKeptModel" (⟨"MilesKeptModel", "farBehind", "(III)I"⟩ : MethodName) (⟨"MilesKeptModel", "farBehind", "(III)I"⟩ : MethodName) ∈ GW := gw_p 52 _ (by decide +kernel) rfl
theorem kp53 : Cond.selects "MilesKeptModel" (⟨"MilesKeptModel", "how", "(II)I"⟩ : MethodName) (⟨"MilesKeptModel", "how", "(II)I"⟩ : MethodName) ∈ GW := gw_p 53 _ (by decide +kernel) rfl
theorem kp54 : Cond.selects "MilesKeptModel" (⟨"MilesKeptModel", "farOf", "(I)I"⟩ : MethodName) (⟨"MilesKeptModel", "farOf", "(I)I"⟩ : MethodName) ∈ GW := gw_p 54 _ (by decide +kernel) rfl
theorem kp55 : Cond.selects "MilesKeptModel" (⟨"MilesKeptModel", "reasonOf", "(I)I"⟩ : MethodName) (⟨"MilesKeptModel", "reasonOf", "(I)I"⟩ : MethodName) ∈ GW := gw_p 55 _ (by decide +kernel) rfl
theorem kp56 : Cond.selects "MilesKeptModel" (⟨"MilesKeptModel", "held", "()I"⟩ : MethodName) (⟨"MilesKeptModel", "held", "()I"⟩ : MethodName) ∈ GW := gw_p 56 _ (by decide +kernel) rfl
theorem kp57 : Cond.selects "MilesKeptModel" (⟨"MilesKeptModel", "keptOf", "(I)I"⟩ : MethodName) (⟨"MilesKeptModel", "keptOf", "(I)I"⟩ : MethodName) ∈ GW := gw_p 57 _ (by decide +kernel) rfl
theorem kp58 : Cond.selects "MilesKeptModel" (⟨"MilesKeptModel", "swap", "()I"⟩ : MethodName) (⟨"MilesKeptModel", "swap", "()I"⟩ : MethodName) ∈ GW := gw_p 58 _ (by decide +kernel) rfl
theorem kp59 : Cond.selects "MilesKeptModel" (⟨"MilesKeptModel", "remember", "()V"⟩ : MethodName) (⟨"MilesKeptModel", "remember", "()V"⟩ : MethodName) ∈ GW := gw_p 59 _ (by decide +kernel) rfl
