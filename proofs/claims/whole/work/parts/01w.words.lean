/-! the tables' words that a method may take along, all of them; each by its place -/
def mm_ws : List Cond := lw_tbl.filter goodWord
theorem mm_ws_good {w : Cond} (h : w ∈ mm_ws) : (w.onTables && w.keeps) = true ∨ ∃ ty, w = .arrayClass ty := good_of_word (List.mem_filter.mp h).2
theorem mm_ws_tbl {w : Cond} (h : w ∈ mm_ws) : w ∈ lw_tbl := (List.mem_filter.mp h).1
theorem mm_i0 {w : Cond} {i : Nat} (h : (k2_sels lw_privs)[i]? = some w) (hg : goodWord w = true) : w ∈ mm_ws := List.mem_filter.mpr ⟨List.mem_append_left _ (List.mem_of_getElem? h), hg⟩
theorem mm_i1 {w : Cond} {i : Nat} (h : tables_1_1[i]? = some w) (hg : goodWord w = true) : w ∈ mm_ws := List.mem_filter.mpr ⟨List.mem_append_right _ (List.mem_append_left _ (List.mem_of_getElem? h)), hg⟩
theorem mm_i2 {w : Cond} {i : Nat} (h : tables_1_2[i]? = some w) (hg : goodWord w = true) : w ∈ mm_ws := List.mem_filter.mpr ⟨List.mem_append_right _ (List.mem_append_right _ (List.mem_append_left _ (List.mem_of_getElem? h))), hg⟩
theorem mm_i3 {w : Cond} {i : Nat} (h : tables_1_3[i]? = some w) (hg : goodWord w = true) : w ∈ mm_ws := List.mem_filter.mpr ⟨List.mem_append_right _ (List.mem_append_right _ (List.mem_append_right _ (List.mem_append_left _ (List.mem_of_getElem? h)))), hg⟩
theorem mm_i4 {w : Cond} {i : Nat} (h : tables_1_4[i]? = some w) (hg : goodWord w = true) : w ∈ mm_ws := List.mem_filter.mpr ⟨List.mem_append_right _ (List.mem_append_right _ (List.mem_append_right _ (List.mem_append_right _ (List.mem_append_left _ (List.mem_of_getElem? h))))), hg⟩
theorem mm_i5 {w : Cond} {i : Nat} (h : tables_1_5[i]? = some w) (hg : goodWord w = true) : w ∈ mm_ws := List.mem_filter.mpr ⟨List.mem_append_right _ (List.mem_append_right _ (List.mem_append_right _ (List.mem_append_right _ (List.mem_append_right _ (List.mem_append_left _ (List.mem_of_getElem? h)))))), hg⟩
theorem mm_i6 {w : Cond} {i : Nat} (h : tables_1_6[i]? = some w) (hg : goodWord w = true) : w ∈ mm_ws := List.mem_filter.mpr ⟨List.mem_append_right _ (List.mem_append_right _ (List.mem_append_right _ (List.mem_append_right _ (List.mem_append_right _ (List.mem_append_right _ (List.mem_of_getElem? h)))))), hg⟩
theorem mw_1_0 : (Jvm.Cond.initialized "MangleLineLaw") ∈ mm_ws := mm_i1 (i := 0) rfl rfl
theorem mw_1_1 : (Jvm.Cond.initialized "MangleLine") ∈ mm_ws := mm_i1 (i := 1) rfl rfl
theorem mw_1_2 : (Jvm.Cond.initialized "MangleLine$Laundry") ∈ mm_ws := mm_i1 (i := 2) rfl rfl
theorem mw_1_3 : (Jvm.Cond.initialized "java/lang/System") ∈ mm_ws := mm_i1 (i := 3) rfl rfl
theorem mw_1_4 : (Jvm.Cond.initialized "java/util/Arrays") ∈ mm_ws := mm_i1 (i := 4) rfl rfl
theorem mw_1_5 : (Jvm.Cond.initialized "MangleLine$Tape") ∈ mm_ws := mm_i1 (i := 5) rfl rfl
theorem mw_1_6 : (Jvm.Cond.initialized "MangleLine$Script") ∈ mm_ws := mm_i1 (i := 6) rfl rfl
theorem mw_1_7 : (Jvm.Cond.initialized "MangleLine$Sightings") ∈ mm_ws := mm_i1 (i := 7) rfl rfl
theorem mw_1_8 : (Jvm.Cond.initialized "MangleLine$Choice") ∈ mm_ws := mm_i1 (i := 8) rfl rfl
theorem mw_1_9 : (Jvm.Cond.initialized "MangleLine$Image") ∈ mm_ws := mm_i1 (i := 9) rfl rfl
theorem mw_1_10 : (Jvm.Cond.initialized "MangleLine$Sheet") ∈ mm_ws := mm_i1 (i := 10) rfl rfl
theorem mw_1_11 : (Jvm.Cond.initialized "MangleLineModel") ∈ mm_ws := mm_i1 (i := 11) rfl rfl
theorem mw_1_12 : (Jvm.Cond.initialized "java/lang/String") ∈ mm_ws := mm_i1 (i := 12) rfl rfl
theorem mw_1_13 : (Jvm.Cond.initialized "java/lang/StringLatin1") ∈ mm_ws := mm_i1 (i := 13) rfl rfl
theorem mw_1_14 : (Jvm.Cond.initialized "jdk/internal/util/Preconditions") ∈ mm_ws := mm_i1 (i := 14) rfl rfl
theorem mw_1_15 : (Jvm.Cond.initialized "java/lang/StringUTF16") ∈ mm_ws := mm_i1 (i := 15) rfl rfl
theorem mw_1_16 : (Jvm.Cond.initialized "java/lang/Integer") ∈ mm_ws := mm_i1 (i := 16) rfl rfl
theorem mw_1_17 : (Jvm.Cond.initialized "java/lang/Math") ∈ mm_ws := mm_i1 (i := 17) rfl rfl
theorem mw_1_18 : (Jvm.Cond.classLink "MangleLineLaw" (7 : Nat) "MangleLine") ∈ mm_ws := mm_i1 (i := 18) rfl rfl
theorem mw_1_19 : (Jvm.Cond.instantiable "MangleLine" (11 : Nat)) ∈ mm_ws := mm_i1 (i := 19) rfl rfl
theorem mw_1_20 : (Jvm.Cond.methodLink "MangleLineLaw" (9 : Nat) ({ cls := "MangleLine", name := "<init>", desc := "()V" } : Jvm.MethodName)) ∈ mm_ws := mm_i1 (i := 20) rfl rfl
theorem mw_1_21 : (Jvm.Cond.instanceMethod ({ cls := "MangleLine", name := "<init>", desc := "()V" } : Jvm.MethodName)) ∈ mm_ws := mm_i1 (i := 21) rfl rfl
theorem mw_1_22 : (Jvm.Cond.code ({ cls := "MangleLine", name := "<init>", desc := "()V" } : Jvm.MethodName) prog_1_method_1_code (2 : Nat) (Option.none : Option Jvm.ClassFile.FieldType)) ∈ mm_ws := mm_i1 (i := 22) rfl rfl
theorem mw_1_23 : (Jvm.Cond.methodLink "MangleLine" (3 : Nat) ({ cls := "java/lang/Object", name := "<init>", desc := "()V" } : Jvm.MethodName)) ∈ mm_ws := mm_i1 (i := 23) rfl rfl
theorem mw_1_24 : (Jvm.Cond.instanceMethod ({ cls := "java/lang/Object", name := "<init>", desc := "()V" } : Jvm.MethodName)) ∈ mm_ws := mm_i1 (i := 24) rfl rfl
theorem mw_1_25 : (Jvm.Cond.code ({ cls := "java/lang/Object", name := "<init>", desc := "()V" } : Jvm.MethodName) object_method_1_code (1 : Nat) (Option.none : Option Jvm.ClassFile.FieldType)) ∈ mm_ws := mm_i1 (i := 25) rfl rfl
theorem mw_1_26 : (Jvm.Cond.classLink "MangleLine" (9 : Nat) "MangleLine$Laundry") ∈ mm_ws := mm_i1 (i := 26) rfl rfl
theorem mw_1_27 : (Jvm.Cond.instantiable "MangleLine$Laundry" (9 : Nat)) ∈ mm_ws := mm_i1 (i := 27) rfl rfl
theorem mw_1_29 : (Jvm.Cond.instanceMethod ({ cls := "MangleLine$Laundry", name := "<init>", desc := "()V" } : Jvm.MethodName)) ∈ mm_ws := mm_i1 (i := 29) rfl rfl
theorem mw_1_30 : (Jvm.Cond.code ({ cls := "MangleLine$Laundry", name := "<init>", desc := "()V" } : Jvm.MethodName) prog_4_method_1_code (1 : Nat) (Option.none : Option Jvm.ClassFile.FieldType)) ∈ mm_ws := mm_i1 (i := 30) rfl rfl
theorem mw_1_31 : (Jvm.Cond.methodLink "MangleLine$Laundry" (3 : Nat) ({ cls := "java/lang/Object", name := "<init>", desc := "()V" } : Jvm.MethodName)) ∈ mm_ws := mm_i1 (i := 31) rfl rfl
theorem mw_1_32 : (Jvm.Cond.methodLink "MangleLine$Laundry" (30 : Nat) ({ cls := "MangleLine$Laundry", name := "clear", desc := "()V" } : Jvm.MethodName)) ∈ mm_ws := mm_i1 (i := 32) rfl rfl
theorem mw_1_34 : (Jvm.Cond.instanceMethod ({ cls := "MangleLine$Laundry", name := "clear", desc := "()V" } : Jvm.MethodName)) ∈ mm_ws := mm_i1 (i := 34) rfl rfl
theorem mw_1_35 : (Jvm.Cond.code ({ cls := "MangleLine$Laundry", name := "clear", desc := "()V" } : Jvm.MethodName) prog_4_method_2_code (1 : Nat) (Option.none : Option Jvm.ClassFile.FieldType)) ∈ mm_ws := mm_i1 (i := 35) rfl rfl
theorem mw_1_38 : (Jvm.Cond.methodLink "MangleLine$Laundry" (43 : Nat) ({ cls := "java/lang/System", name := "arraycopy", desc := "(Ljava/lang/Object;ILjava/lang/Object;II)V" } : Jvm.MethodName)) ∈ mm_ws := mm_i1 (i := 38) rfl rfl
theorem mw_1_39 : (Jvm.Cond.static ({ cls := "java/lang/System", name := "arraycopy", desc := "(Ljava/lang/Object;ILjava/lang/Object;II)V" } : Jvm.MethodName)) ∈ mm_ws := mm_i1 (i := 39) rfl rfl
theorem mw_1_40 : (Jvm.Cond.native ({ cls := "java/lang/System", name := "arraycopy", desc := "(Ljava/lang/Object;ILjava/lang/Object;II)V" } : Jvm.MethodName)) ∈ mm_ws := mm_i1 (i := 40) rfl rfl
theorem mw_1_41 : (Jvm.Cond.methodLink "MangleLine$Laundry" (49 : Nat) ({ cls := "java/util/Arrays", name := "fill", desc := "([II)V" } : Jvm.MethodName)) ∈ mm_ws := mm_i1 (i := 41) rfl rfl
theorem mw_1_42 : (Jvm.Cond.static ({ cls := "java/util/Arrays", name := "fill", desc := "([II)V" } : Jvm.MethodName)) ∈ mm_ws := mm_i1 (i := 42) rfl rfl
theorem mw_1_43 : (Jvm.Cond.code ({ cls := "java/util/Arrays", name := "fill", desc := "([II)V" } : Jvm.MethodName) prog_17_method_103_code (4 : Nat) (Option.none : Option Jvm.ClassFile.FieldType)) ∈ mm_ws := mm_i1 (i := 43) rfl rfl
theorem mw_1_44 : (Jvm.Cond.fieldLink "MangleLine$Laundry" (33 : Nat) "MangleLine$Laundry" "size" "I") ∈ mm_ws := mm_i1 (i := 44) rfl rfl
theorem mw_1_47 : (Jvm.Cond.fieldLink "MangleLine$Laundry" (37 : Nat) "MangleLine$Laundry" "day" "I") ∈ mm_ws := mm_i1 (i := 47) rfl rfl
theorem mw_1_49 : (Jvm.Cond.fieldLink "MangleLine$Laundry" (95 : Nat) "MangleLine$Laundry" "boiled" "I") ∈ mm_ws := mm_i1 (i := 49) rfl rfl
theorem mw_1_51 : (Jvm.Cond.fieldLink "MangleLine$Laundry" (9 : Nat) "MangleLine$Laundry" "kinds" "[I") ∈ mm_ws := mm_i1 (i := 51) rfl rfl
theorem mw_1_53 : (Jvm.Cond.fieldLink "MangleLine$Laundry" (15 : Nat) "MangleLine$Laundry" "greys" "[I") ∈ mm_ws := mm_i1 (i := 53) rfl rfl
theorem mw_1_55 : (Jvm.Cond.fieldLink "MangleLine$Laundry" (18 : Nat) "MangleLine$Laundry" "wets" "[I") ∈ mm_ws := mm_i1 (i := 55) rfl rfl
theorem mw_1_57 : (Jvm.Cond.fieldLink "MangleLine$Laundry" (21 : Nat) "MangleLine$Laundry" "places" "[I") ∈ mm_ws := mm_i1 (i := 57) rfl rfl
theorem mw_1_60 : (Jvm.Cond.fieldLink "MangleLine$Laundry" (24 : Nat) "MangleLine$Laundry" "rules" "[I") ∈ mm_ws := mm_i1 (i := 60) rfl rfl
theorem mw_1_63 : (Jvm.Cond.fieldLink "MangleLine$Laundry" (27 : Nat) "MangleLine$Laundry" "suns" "[I") ∈ mm_ws := mm_i1 (i := 63) rfl rfl
theorem mw_1_66 : (Jvm.Cond.lays "MangleLine$Laundry" "MangleLine$Laundry" "size" "I") ∈ mm_ws := mm_i1 (i := 66) rfl rfl
theorem mw_1_68 : (Jvm.Cond.lays "MangleLine$Laundry" "MangleLine$Laundry" "day" "I") ∈ mm_ws := mm_i1 (i := 68) rfl rfl
theorem mw_1_70 : (Jvm.Cond.lays "MangleLine$Laundry" "MangleLine$Laundry" "boiled" "I") ∈ mm_ws := mm_i1 (i := 70) rfl rfl
theorem mw_1_72 : (Jvm.Cond.laysFinal "MangleLine$Laundry" "MangleLine$Laundry" "kinds" "[I") ∈ mm_ws := mm_i1 (i := 72) rfl rfl
theorem mw_1_74 : (Jvm.Cond.laysFinal "MangleLine$Laundry" "MangleLine$Laundry" "greys" "[I") ∈ mm_ws := mm_i1 (i := 74) rfl rfl
theorem mw_1_76 : (Jvm.Cond.laysFinal "MangleLine$Laundry" "MangleLine$Laundry" "wets" "[I") ∈ mm_ws := mm_i1 (i := 76) rfl rfl
theorem mw_1_78 : (Jvm.Cond.laysFinal "MangleLine$Laundry" "MangleLine$Laundry" "places" "[I") ∈ mm_ws := mm_i1 (i := 78) rfl rfl
theorem mw_1_80 : (Jvm.Cond.laysFinal "MangleLine$Laundry" "MangleLine$Laundry" "rules" "[I") ∈ mm_ws := mm_i1 (i := 80) rfl rfl
theorem mw_1_82 : (Jvm.Cond.laysFinal "MangleLine$Laundry" "MangleLine$Laundry" "suns" "[I") ∈ mm_ws := mm_i1 (i := 82) rfl rfl
theorem mw_1_85 : (Jvm.Cond.arrayClass Jvm.ClassFile.FieldType.int) ∈ mm_ws := mm_i1 (i := 85) rfl rfl
theorem mw_1_87 : (Jvm.Cond.classLink "MangleLine" (23 : Nat) "MangleLine$Tape") ∈ mm_ws := mm_i1 (i := 87) rfl rfl
theorem mw_1_88 : (Jvm.Cond.instantiable "MangleLine$Tape" (6 : Nat)) ∈ mm_ws := mm_i1 (i := 88) rfl rfl
theorem mw_1_90 : (Jvm.Cond.instanceMethod ({ cls := "MangleLine$Tape", name := "<init>", desc := "()V" } : Jvm.MethodName)) ∈ mm_ws := mm_i1 (i := 90) rfl rfl
theorem mw_1_91 : (Jvm.Cond.code ({ cls := "MangleLine$Tape", name := "<init>", desc := "()V" } : Jvm.MethodName) prog_8_method_1_code (1 : Nat) (Option.none : Option Jvm.ClassFile.FieldType)) ∈ mm_ws := mm_i1 (i := 91) rfl rfl
theorem mw_1_92 : (Jvm.Cond.methodLink "MangleLine$Tape" (3 : Nat) ({ cls := "java/lang/Object", name := "<init>", desc := "()V" } : Jvm.MethodName)) ∈ mm_ws := mm_i1 (i := 92) rfl rfl
theorem mw_1_93 : (Jvm.Cond.fieldLink "MangleLine$Tape" (11 : Nat) "MangleLine$Tape" "bytes" "[I") ∈ mm_ws := mm_i1 (i := 93) rfl rfl
theorem mw_1_94 : (Jvm.Cond.fieldLink "MangleLine$Tape" (15 : Nat) "MangleLine$Tape" "length" "I") ∈ mm_ws := mm_i1 (i := 94) rfl rfl
theorem mw_1_96 : (Jvm.Cond.fieldLink "MangleLine$Tape" (19 : Nat) "MangleLine$Tape" "at" "I") ∈ mm_ws := mm_i1 (i := 96) rfl rfl
theorem mw_1_98 : (Jvm.Cond.fieldLink "MangleLine$Tape" (29 : Nat) "MangleLine$Tape" "token" "I") ∈ mm_ws := mm_i1 (i := 98) rfl rfl
theorem mw_1_100 : (Jvm.Cond.fieldLink "MangleLine$Tape" (22 : Nat) "MangleLine$Tape" "start" "I") ∈ mm_ws := mm_i1 (i := 100) rfl rfl
theorem mw_1_101 : (Jvm.Cond.fieldLink "MangleLine$Tape" (35 : Nat) "MangleLine$Tape" "number" "I") ∈ mm_ws := mm_i1 (i := 101) rfl rfl
theorem mw_1_103 : (Jvm.Cond.laysFinal "MangleLine$Tape" "MangleLine$Tape" "bytes" "[I") ∈ mm_ws := mm_i1 (i := 103) rfl rfl
theorem mw_1_105 : (Jvm.Cond.lays "MangleLine$Tape" "MangleLine$Tape" "length" "I") ∈ mm_ws := mm_i1 (i := 105) rfl rfl
theorem mw_1_107 : (Jvm.Cond.lays "MangleLine$Tape" "MangleLine$Tape" "at" "I") ∈ mm_ws := mm_i1 (i := 107) rfl rfl
theorem mw_1_109 : (Jvm.Cond.lays "MangleLine$Tape" "MangleLine$Tape" "token" "I") ∈ mm_ws := mm_i1 (i := 109) rfl rfl
theorem mw_1_111 : (Jvm.Cond.lays "MangleLine$Tape" "MangleLine$Tape" "start" "I") ∈ mm_ws := mm_i1 (i := 111) rfl rfl
theorem mw_1_113 : (Jvm.Cond.lays "MangleLine$Tape" "MangleLine$Tape" "number" "I") ∈ mm_ws := mm_i1 (i := 113) rfl rfl
theorem mw_1_116 : (Jvm.Cond.classLink "MangleLine" (30 : Nat) "MangleLine$Script") ∈ mm_ws := mm_i1 (i := 116) rfl rfl
theorem mw_1_117 : (Jvm.Cond.instantiable "MangleLine$Script" (4 : Nat)) ∈ mm_ws := mm_i1 (i := 117) rfl rfl
theorem mw_1_119 : (Jvm.Cond.instanceMethod ({ cls := "MangleLine$Script", name := "<init>", desc := "(LMangleLine$Tape;)V" } : Jvm.MethodName)) ∈ mm_ws := mm_i1 (i := 119) rfl rfl
theorem mw_1_120 : (Jvm.Cond.code ({ cls := "MangleLine$Script", name := "<init>", desc := "(LMangleLine$Tape;)V" } : Jvm.MethodName) prog_5_method_1_code (2 : Nat) (Option.none : Option Jvm.ClassFile.FieldType)) ∈ mm_ws := mm_i1 (i := 120) rfl rfl
theorem mw_1_121 : (Jvm.Cond.methodLink "MangleLine$Script" (3 : Nat) ({ cls := "java/lang/Object", name := "<init>", desc := "()V" } : Jvm.MethodName)) ∈ mm_ws := mm_i1 (i := 121) rfl rfl
theorem mw_1_122 : (Jvm.Cond.fieldLink "MangleLine$Script" (9 : Nat) "MangleLine$Script" "tape" "LMangleLine$Tape;") ∈ mm_ws := mm_i1 (i := 122) rfl rfl
theorem mw_1_123 : (Jvm.Cond.fieldLink "MangleLine$Script" (15 : Nat) "MangleLine$Script" "fault" "I") ∈ mm_ws := mm_i1 (i := 123) rfl rfl
theorem mw_1_125 : (Jvm.Cond.fieldLink "MangleLine$Script" (43 : Nat) "MangleLine$Script" "faultPlace" "I") ∈ mm_ws := mm_i1 (i := 125) rfl rfl
theorem mw_1_126 : (Jvm.Cond.fieldLink "MangleLine$Script" (19 : Nat) "MangleLine$Script" "stood" "I") ∈ mm_ws := mm_i1 (i := 126) rfl rfl
theorem mw_1_127 : (Jvm.Cond.laysFinal "MangleLine$Script" "MangleLine$Script" "tape" "LMangleLine$Tape;") ∈ mm_ws := mm_i1 (i := 127) rfl rfl
theorem mw_1_129 : (Jvm.Cond.lays "MangleLine$Script" "MangleLine$Script" "fault" "I") ∈ mm_ws := mm_i1 (i := 129) rfl rfl
theorem mw_1_131 : (Jvm.Cond.lays "MangleLine$Script" "MangleLine$Script" "faultPlace" "I") ∈ mm_ws := mm_i1 (i := 131) rfl rfl
theorem mw_1_133 : (Jvm.Cond.lays "MangleLine$Script" "MangleLine$Script" "stood" "I") ∈ mm_ws := mm_i1 (i := 133) rfl rfl
theorem mw_1_136 : (Jvm.Cond.classLink "MangleLine" (39 : Nat) "MangleLine$Sightings") ∈ mm_ws := mm_i1 (i := 136) rfl rfl
theorem mw_1_137 : (Jvm.Cond.instantiable "MangleLine$Sightings" (4 : Nat)) ∈ mm_ws := mm_i1 (i := 137) rfl rfl
theorem mw_1_139 : (Jvm.Cond.instanceMethod ({ cls := "MangleLine$Sightings", name := "<init>", desc := "()V" } : Jvm.MethodName)) ∈ mm_ws := mm_i1 (i := 139) rfl rfl
theorem mw_1_140 : (Jvm.Cond.code ({ cls := "MangleLine$Sightings", name := "<init>", desc := "()V" } : Jvm.MethodName) prog_7_method_1_code (1 : Nat) (Option.none : Option Jvm.ClassFile.FieldType)) ∈ mm_ws := mm_i1 (i := 140) rfl rfl
theorem mw_1_141 : (Jvm.Cond.methodLink "MangleLine$Sightings" (3 : Nat) ({ cls := "java/lang/Object", name := "<init>", desc := "()V" } : Jvm.MethodName)) ∈ mm_ws := mm_i1 (i := 141) rfl rfl
theorem mw_1_142 : (Jvm.Cond.fieldLink "MangleLine$Sightings" (21 : Nat) "MangleLine$Sightings" "size" "I") ∈ mm_ws := mm_i1 (i := 142) rfl rfl
theorem mw_1_144 : (Jvm.Cond.fieldLink "MangleLine$Sightings" (9 : Nat) "MangleLine$Sightings" "looks" "[I") ∈ mm_ws := mm_i1 (i := 144) rfl rfl
theorem mw_1_145 : (Jvm.Cond.fieldLink "MangleLine$Sightings" (15 : Nat) "MangleLine$Sightings" "whos" "[I") ∈ mm_ws := mm_i1 (i := 145) rfl rfl
theorem mw_1_146 : (Jvm.Cond.fieldLink "MangleLine$Sightings" (18 : Nat) "MangleLine$Sightings" "places" "[I") ∈ mm_ws := mm_i1 (i := 146) rfl rfl
theorem mw_1_147 : (Jvm.Cond.lays "MangleLine$Sightings" "MangleLine$Sightings" "size" "I") ∈ mm_ws := mm_i1 (i := 147) rfl rfl
theorem mw_1_149 : (Jvm.Cond.laysFinal "MangleLine$Sightings" "MangleLine$Sightings" "looks" "[I") ∈ mm_ws := mm_i1 (i := 149) rfl rfl
theorem mw_1_151 : (Jvm.Cond.laysFinal "MangleLine$Sightings" "MangleLine$Sightings" "whos" "[I") ∈ mm_ws := mm_i1 (i := 151) rfl rfl
theorem mw_1_153 : (Jvm.Cond.laysFinal "MangleLine$Sightings" "MangleLine$Sightings" "places" "[I") ∈ mm_ws := mm_i1 (i := 153) rfl rfl
theorem mw_1_156 : (Jvm.Cond.classLink "MangleLine" (46 : Nat) "MangleLine$Choice") ∈ mm_ws := mm_i1 (i := 156) rfl rfl
theorem mw_1_157 : (Jvm.Cond.instantiable "MangleLine$Choice" (2 : Nat)) ∈ mm_ws := mm_i1 (i := 157) rfl rfl
theorem mw_1_159 : (Jvm.Cond.instanceMethod ({ cls := "MangleLine$Choice", name := "<init>", desc := "()V" } : Jvm.MethodName)) ∈ mm_ws := mm_i1 (i := 159) rfl rfl
theorem mw_1_160 : (Jvm.Cond.code ({ cls := "MangleLine$Choice", name := "<init>", desc := "()V" } : Jvm.MethodName) prog_2_method_1_code (1 : Nat) (Option.none : Option Jvm.ClassFile.FieldType)) ∈ mm_ws := mm_i1 (i := 160) rfl rfl
theorem mw_1_161 : (Jvm.Cond.methodLink "MangleLine$Choice" (3 : Nat) ({ cls := "java/lang/Object", name := "<init>", desc := "()V" } : Jvm.MethodName)) ∈ mm_ws := mm_i1 (i := 161) rfl rfl
theorem mw_1_162 : (Jvm.Cond.fieldLink "MangleLine$Choice" (9 : Nat) "MangleLine$Choice" "pick" "I") ∈ mm_ws := mm_i1 (i := 162) rfl rfl
theorem mw_1_163 : (Jvm.Cond.fieldLink "MangleLine$Choice" (15 : Nat) "MangleLine$Choice" "cost" "I") ∈ mm_ws := mm_i1 (i := 163) rfl rfl
theorem mw_1_164 : (Jvm.Cond.lays "MangleLine$Choice" "MangleLine$Choice" "pick" "I") ∈ mm_ws := mm_i1 (i := 164) rfl rfl
theorem mw_1_166 : (Jvm.Cond.lays "MangleLine$Choice" "MangleLine$Choice" "cost" "I") ∈ mm_ws := mm_i1 (i := 166) rfl rfl
theorem mw_1_169 : (Jvm.Cond.classLink "MangleLine" (57 : Nat) "MangleLine$Image") ∈ mm_ws := mm_i1 (i := 169) rfl rfl
theorem mw_1_171 : (Jvm.Cond.classLink "MangleLine" (63 : Nat) "MangleLine$Sheet") ∈ mm_ws := mm_i1 (i := 171) rfl rfl
theorem mw_1_173 : (Jvm.Cond.instantiable "MangleLine$Image" (3 : Nat)) ∈ mm_ws := mm_i1 (i := 173) rfl rfl
theorem mw_1_175 : (Jvm.Cond.instanceMethod ({ cls := "MangleLine$Image", name := "<init>", desc := "()V" } : Jvm.MethodName)) ∈ mm_ws := mm_i1 (i := 175) rfl rfl
theorem mw_1_176 : (Jvm.Cond.code ({ cls := "MangleLine$Image", name := "<init>", desc := "()V" } : Jvm.MethodName) prog_3_method_1_code (1 : Nat) (Option.none : Option Jvm.ClassFile.FieldType)) ∈ mm_ws := mm_i1 (i := 176) rfl rfl
theorem mw_1_177 : (Jvm.Cond.methodLink "MangleLine$Image" (1 : Nat) ({ cls := "java/lang/Object", name := "<init>", desc := "()V" } : Jvm.MethodName)) ∈ mm_ws := mm_i1 (i := 177) rfl rfl
theorem mw_1_178 : (Jvm.Cond.classLink "MangleLine$Image" (7 : Nat) "MangleLine$Laundry") ∈ mm_ws := mm_i1 (i := 178) rfl rfl
theorem mw_1_180 : (Jvm.Cond.classLink "MangleLine$Image" (16 : Nat) "MangleLine$Sightings") ∈ mm_ws := mm_i1 (i := 180) rfl rfl
theorem mw_1_183 : (Jvm.Cond.fieldLink "MangleLine$Image" (10 : Nat) "MangleLine$Image" "laundry" "LMangleLine$Laundry;") ∈ mm_ws := mm_i1 (i := 183) rfl rfl
theorem mw_1_185 : (Jvm.Cond.fieldLink "MangleLine$Image" (19 : Nat) "MangleLine$Image" "seen" "LMangleLine$Sightings;") ∈ mm_ws := mm_i1 (i := 185) rfl rfl
theorem mw_1_187 : (Jvm.Cond.lays "MangleLine$Image" "MangleLine$Image" "kept" "Z") ∈ mm_ws := mm_i1 (i := 187) rfl rfl
theorem mw_1_189 : (Jvm.Cond.laysFinal "MangleLine$Image" "MangleLine$Image" "laundry" "LMangleLine$Laundry;") ∈ mm_ws := mm_i1 (i := 189) rfl rfl
theorem mw_1_191 : (Jvm.Cond.laysFinal "MangleLine$Image" "MangleLine$Image" "seen" "LMangleLine$Sightings;") ∈ mm_ws := mm_i1 (i := 191) rfl rfl
theorem mw_1_194 : (Jvm.Cond.instantiable "MangleLine$Sheet" (3 : Nat)) ∈ mm_ws := mm_i1 (i := 194) rfl rfl
theorem mw_1_196 : (Jvm.Cond.instanceMethod ({ cls := "MangleLine$Sheet", name := "<init>", desc := "()V" } : Jvm.MethodName)) ∈ mm_ws := mm_i1 (i := 196) rfl rfl
theorem mw_1_197 : (Jvm.Cond.code ({ cls := "MangleLine$Sheet", name := "<init>", desc := "()V" } : Jvm.MethodName) prog_6_method_1_code (1 : Nat) (Option.none : Option Jvm.ClassFile.FieldType)) ∈ mm_ws := mm_i1 (i := 197) rfl rfl
theorem mw_1_198 : (Jvm.Cond.methodLink "MangleLine$Sheet" (3 : Nat) ({ cls := "java/lang/Object", name := "<init>", desc := "()V" } : Jvm.MethodName)) ∈ mm_ws := mm_i1 (i := 198) rfl rfl
theorem mw_1_199 : (Jvm.Cond.fieldLink "MangleLine$Sheet" (11 : Nat) "MangleLine$Sheet" "lane" "I") ∈ mm_ws := mm_i1 (i := 199) rfl rfl
theorem mw_1_200 : (Jvm.Cond.fieldLink "MangleLine$Sheet" (19 : Nat) "MangleLine$Sheet" "length" "I") ∈ mm_ws := mm_i1 (i := 200) rfl rfl
theorem mw_1_202 : (Jvm.Cond.fieldLink "MangleLine$Sheet" (15 : Nat) "MangleLine$Sheet" "cells" "[I") ∈ mm_ws := mm_i1 (i := 202) rfl rfl
theorem mw_1_204 : (Jvm.Cond.lays "MangleLine$Sheet" "MangleLine$Sheet" "lane" "I") ∈ mm_ws := mm_i1 (i := 204) rfl rfl
theorem mw_1_206 : (Jvm.Cond.lays "MangleLine$Sheet" "MangleLine$Sheet" "length" "I") ∈ mm_ws := mm_i1 (i := 206) rfl rfl
theorem mw_1_208 : (Jvm.Cond.laysFinal "MangleLine$Sheet" "MangleLine$Sheet" "cells" "[I") ∈ mm_ws := mm_i1 (i := 208) rfl rfl
theorem mw_1_211 : (Jvm.Cond.fieldLink "MangleLine" (12 : Nat) "MangleLine" "now" "LMangleLine$Laundry;") ∈ mm_ws := mm_i1 (i := 211) rfl rfl
theorem mw_1_212 : (Jvm.Cond.fieldLink "MangleLine" (16 : Nat) "MangleLine" "trial" "LMangleLine$Laundry;") ∈ mm_ws := mm_i1 (i := 212) rfl rfl
theorem mw_1_213 : (Jvm.Cond.fieldLink "MangleLine" (19 : Nat) "MangleLine" "weathers" "[LMangleLine$Laundry;") ∈ mm_ws := mm_i1 (i := 213) rfl rfl
theorem mw_1_214 : (Jvm.Cond.fieldLink "MangleLine" (26 : Nat) "MangleLine" "tape" "LMangleLine$Tape;") ∈ mm_ws := mm_i1 (i := 214) rfl rfl
theorem mw_1_215 : (Jvm.Cond.fieldLink "MangleLine" (35 : Nat) "MangleLine" "script" "LMangleLine$Script;") ∈ mm_ws := mm_i1 (i := 215) rfl rfl
theorem mw_1_216 : (Jvm.Cond.fieldLink "MangleLine" (42 : Nat) "MangleLine" "seen" "LMangleLine$Sightings;") ∈ mm_ws := mm_i1 (i := 216) rfl rfl
theorem mw_1_217 : (Jvm.Cond.fieldLink "MangleLine" (49 : Nat) "MangleLine" "choice" "LMangleLine$Choice;") ∈ mm_ws := mm_i1 (i := 217) rfl rfl
theorem mw_1_218 : (Jvm.Cond.fieldLink "MangleLine" (53 : Nat) "MangleLine" "tallies" "[I") ∈ mm_ws := mm_i1 (i := 218) rfl rfl
theorem mw_1_219 : (Jvm.Cond.fieldLink "MangleLine" (59 : Nat) "MangleLine" "images" "[LMangleLine$Image;") ∈ mm_ws := mm_i1 (i := 219) rfl rfl
theorem mw_1_220 : (Jvm.Cond.fieldLink "MangleLine" (65 : Nat) "MangleLine" "sheets" "[LMangleLine$Sheet;") ∈ mm_ws := mm_i1 (i := 220) rfl rfl
theorem mw_1_221 : (Jvm.Cond.fieldLink "MangleLine" (268 : Nat) "MangleLine" "readFault" "I") ∈ mm_ws := mm_i1 (i := 221) rfl rfl
theorem mw_1_222 : (Jvm.Cond.laysFinal "MangleLine" "MangleLine" "now" "LMangleLine$Laundry;") ∈ mm_ws := mm_i1 (i := 222) rfl rfl
theorem mw_1_224 : (Jvm.Cond.laysFinal "MangleLine" "MangleLine" "trial" "LMangleLine$Laundry;") ∈ mm_ws := mm_i1 (i := 224) rfl rfl
theorem mw_1_226 : (Jvm.Cond.laysFinal "MangleLine" "MangleLine" "weathers" "[LMangleLine$Laundry;") ∈ mm_ws := mm_i1 (i := 226) rfl rfl
theorem mw_1_228 : (Jvm.Cond.laysFinal "MangleLine" "MangleLine" "tape" "LMangleLine$Tape;") ∈ mm_ws := mm_i1 (i := 228) rfl rfl
theorem mw_1_230 : (Jvm.Cond.laysFinal "MangleLine" "MangleLine" "script" "LMangleLine$Script;") ∈ mm_ws := mm_i1 (i := 230) rfl rfl
theorem mw_1_232 : (Jvm.Cond.laysFinal "MangleLine" "MangleLine" "seen" "LMangleLine$Sightings;") ∈ mm_ws := mm_i1 (i := 232) rfl rfl
theorem mw_1_234 : (Jvm.Cond.laysFinal "MangleLine" "MangleLine" "choice" "LMangleLine$Choice;") ∈ mm_ws := mm_i1 (i := 234) rfl rfl
theorem mw_1_236 : (Jvm.Cond.laysFinal "MangleLine" "MangleLine" "tallies" "[I") ∈ mm_ws := mm_i1 (i := 236) rfl rfl
theorem mw_1_238 : (Jvm.Cond.laysFinal "MangleLine" "MangleLine" "images" "[LMangleLine$Image;") ∈ mm_ws := mm_i1 (i := 238) rfl rfl
theorem mw_2_0 : (Jvm.Cond.laysFinal "MangleLine" "MangleLine" "sheets" "[LMangleLine$Sheet;") ∈ mm_ws := mm_i2 (i := 0) rfl rfl
theorem mw_2_2 : (Jvm.Cond.lays "MangleLine" "MangleLine" "readFault" "I") ∈ mm_ws := mm_i2 (i := 2) rfl rfl
theorem mw_2_5 : (Jvm.Cond.methodLink "MangleLineLaw" (13 : Nat) ({ cls := "MangleLine", name := "feed", desc := "(I)I" } : Jvm.MethodName)) ∈ mm_ws := mm_i2 (i := 5) rfl rfl
theorem mw_2_6 : (Jvm.Cond.instanceMethod ({ cls := "MangleLine", name := "feed", desc := "(I)I" } : Jvm.MethodName)) ∈ mm_ws := mm_i2 (i := 6) rfl rfl
theorem mw_2_7 : (Jvm.Cond.selects "MangleLine" ({ cls := "MangleLine", name := "feed", desc := "(I)I" } : Jvm.MethodName) ({ cls := "MangleLine", name := "feed", desc := "(I)I" } : Jvm.MethodName)) ∈ mm_ws := mm_i2 (i := 7) rfl rfl
theorem mw_2_8 : (Jvm.Cond.code ({ cls := "MangleLine", name := "feed", desc := "(I)I" } : Jvm.MethodName) prog_1_method_2_code (2 : Nat) (Option.some Jvm.ClassFile.FieldType.int)) ∈ mm_ws := mm_i2 (i := 8) rfl rfl
theorem mw_2_9 : (Jvm.Cond.methodLink "MangleLine" (71 : Nat) ({ cls := "MangleLine", name := "within", desc := "(III)Z" } : Jvm.MethodName)) ∈ mm_ws := mm_i2 (i := 9) rfl rfl
theorem mw_2_10 : (Jvm.Cond.static ({ cls := "MangleLine", name := "within", desc := "(III)Z" } : Jvm.MethodName)) ∈ mm_ws := mm_i2 (i := 10) rfl rfl
theorem mw_2_11 : (Jvm.Cond.code ({ cls := "MangleLine", name := "within", desc := "(III)Z" } : Jvm.MethodName) prog_1_method_42_code (3 : Nat) (Option.some Jvm.ClassFile.FieldType.boolean)) ∈ mm_ws := mm_i2 (i := 11) rfl rfl
theorem mw_2_14 : (Jvm.Cond.instanceMethod ({ cls := "MangleLine$Tape", name := "append", desc := "(I)Z" } : Jvm.MethodName)) ∈ mm_ws := mm_i2 (i := 14) rfl rfl
theorem mw_2_15 : (Jvm.Cond.code ({ cls := "MangleLine$Tape", name := "append", desc := "(I)Z" } : Jvm.MethodName) prog_8_method_2_code (2 : Nat) (Option.some Jvm.ClassFile.FieldType.boolean)) ∈ mm_ws := mm_i2 (i := 15) rfl rfl
theorem mw_2_16 : (Jvm.Cond.methodLink "MangleLineLaw" (18 : Nat) ({ cls := "MangleLine", name := "end", desc := "(I)I" } : Jvm.MethodName)) ∈ mm_ws := mm_i2 (i := 16) rfl rfl
theorem mw_2_17 : (Jvm.Cond.instanceMethod ({ cls := "MangleLine", name := "end", desc := "(I)I" } : Jvm.MethodName)) ∈ mm_ws := mm_i2 (i := 17) rfl rfl
theorem mw_2_18 : (Jvm.Cond.selects "MangleLine" ({ cls := "MangleLine", name := "end", desc := "(I)I" } : Jvm.MethodName) ({ cls := "MangleLine", name := "end", desc := "(I)I" } : Jvm.MethodName)) ∈ mm_ws := mm_i2 (i := 18) rfl rfl
theorem mw_2_19 : (Jvm.Cond.code ({ cls := "MangleLine", name := "end", desc := "(I)I" } : Jvm.MethodName) prog_1_method_3_code (3 : Nat) (Option.some Jvm.ClassFile.FieldType.int)) ∈ mm_ws := mm_i2 (i := 19) rfl rfl
theorem mw_2_20 : (Jvm.Cond.methodLink "MangleLineLaw" (22 : Nat) ({ cls := "MangleLine", name := "text", desc := "()I" } : Jvm.MethodName)) ∈ mm_ws := mm_i2 (i := 20) rfl rfl
theorem mw_2_21 : (Jvm.Cond.instanceMethod ({ cls := "MangleLine", name := "text", desc := "()I" } : Jvm.MethodName)) ∈ mm_ws := mm_i2 (i := 21) rfl rfl
theorem mw_2_22 : (Jvm.Cond.selects "MangleLine" ({ cls := "MangleLine", name := "text", desc := "()I" } : Jvm.MethodName) ({ cls := "MangleLine", name := "text", desc := "()I" } : Jvm.MethodName)) ∈ mm_ws := mm_i2 (i := 22) rfl rfl
theorem mw_2_23 : (Jvm.Cond.code ({ cls := "MangleLine", name := "text", desc := "()I" } : Jvm.MethodName) prog_1_method_4_code (3 : Nat) (Option.some Jvm.ClassFile.FieldType.int)) ∈ mm_ws := mm_i2 (i := 23) rfl rfl
theorem mw_2_26 : (Jvm.Cond.instanceMethod ({ cls := "MangleLine$Script", name := "tell", desc := "(LMangleLine$Laundry;)I" } : Jvm.MethodName)) ∈ mm_ws := mm_i2 (i := 26) rfl rfl
theorem mw_2_27 : (Jvm.Cond.code ({ cls := "MangleLine$Script", name := "tell", desc := "(LMangleLine$Laundry;)I" } : Jvm.MethodName) prog_5_method_2_code (4 : Nat) (Option.some Jvm.ClassFile.FieldType.int)) ∈ mm_ws := mm_i2 (i := 27) rfl rfl
theorem mw_2_31 : (Jvm.Cond.instanceMethod ({ cls := "MangleLine$Tape", name := "rewind", desc := "()V" } : Jvm.MethodName)) ∈ mm_ws := mm_i2 (i := 31) rfl rfl
theorem mw_2_32 : (Jvm.Cond.code ({ cls := "MangleLine$Tape", name := "rewind", desc := "()V" } : Jvm.MethodName) prog_8_method_3_code (1 : Nat) (Option.none : Option Jvm.ClassFile.FieldType)) ∈ mm_ws := mm_i2 (i := 32) rfl rfl
theorem mw_2_33 : (Jvm.Cond.methodLink "MangleLine$Script" (32 : Nat) ({ cls := "MangleLine$Script", name := "takeToken", desc := "()Z" } : Jvm.MethodName)) ∈ mm_ws := mm_i2 (i := 33) rfl rfl
theorem mw_2_35 : (Jvm.Cond.instanceMethod ({ cls := "MangleLine$Script", name := "takeToken", desc := "()Z" } : Jvm.MethodName)) ∈ mm_ws := mm_i2 (i := 35) rfl rfl
theorem mw_2_36 : (Jvm.Cond.code ({ cls := "MangleLine$Script", name := "takeToken", desc := "()Z" } : Jvm.MethodName) prog_5_method_4_code (1 : Nat) (Option.some Jvm.ClassFile.FieldType.boolean)) ∈ mm_ws := mm_i2 (i := 36) rfl rfl
theorem mw_2_39 : (Jvm.Cond.instanceMethod ({ cls := "MangleLine$Tape", name := "readToken", desc := "()V" } : Jvm.MethodName)) ∈ mm_ws := mm_i2 (i := 39) rfl rfl
theorem mw_2_40 : (Jvm.Cond.code ({ cls := "MangleLine$Tape", name := "readToken", desc := "()V" } : Jvm.MethodName) prog_8_method_4_code (1 : Nat) (Option.none : Option Jvm.ClassFile.FieldType)) ∈ mm_ws := mm_i2 (i := 40) rfl rfl
theorem mw_2_41 : (Jvm.Cond.methodLink "MangleLine$Tape" (25 : Nat) ({ cls := "MangleLine$Tape", name := "tokenWith", desc := "(I)I" } : Jvm.MethodName)) ∈ mm_ws := mm_i2 (i := 41) rfl rfl
theorem mw_2_42 : (Jvm.Cond.static ({ cls := "MangleLine$Tape", name := "tokenWith", desc := "(I)I" } : Jvm.MethodName)) ∈ mm_ws := mm_i2 (i := 42) rfl rfl
theorem mw_2_43 : (Jvm.Cond.code ({ cls := "MangleLine$Tape", name := "tokenWith", desc := "(I)I" } : Jvm.MethodName) prog_8_method_6_code (1 : Nat) (Option.some Jvm.ClassFile.FieldType.int)) ∈ mm_ws := mm_i2 (i := 43) rfl rfl
theorem mw_2_44 : (Jvm.Cond.methodLink "MangleLine$Tape" (32 : Nat) ({ cls := "MangleLine$Tape", name := "readFigures", desc := "()V" } : Jvm.MethodName)) ∈ mm_ws := mm_i2 (i := 44) rfl rfl
theorem mw_2_46 : (Jvm.Cond.instanceMethod ({ cls := "MangleLine$Tape", name := "readFigures", desc := "()V" } : Jvm.MethodName)) ∈ mm_ws := mm_i2 (i := 46) rfl rfl
theorem mw_2_47 : (Jvm.Cond.code ({ cls := "MangleLine$Tape", name := "readFigures", desc := "()V" } : Jvm.MethodName) prog_8_method_5_code (2 : Nat) (Option.none : Option Jvm.ClassFile.FieldType)) ∈ mm_ws := mm_i2 (i := 47) rfl rfl
theorem mw_2_48 : (Jvm.Cond.methodLink "MangleLine$Script" (52 : Nat) ({ cls := "MangleLine$Script", name := "blame", desc := "(I)Z" } : Jvm.MethodName)) ∈ mm_ws := mm_i2 (i := 48) rfl rfl
theorem mw_2_50 : (Jvm.Cond.instanceMethod ({ cls := "MangleLine$Script", name := "blame", desc := "(I)Z" } : Jvm.MethodName)) ∈ mm_ws := mm_i2 (i := 50) rfl rfl
theorem mw_2_51 : (Jvm.Cond.code ({ cls := "MangleLine$Script", name := "blame", desc := "(I)Z" } : Jvm.MethodName) prog_5_method_3_code (2 : Nat) (Option.some Jvm.ClassFile.FieldType.boolean)) ∈ mm_ws := mm_i2 (i := 51) rfl rfl
theorem mw_2_52 : (Jvm.Cond.methodLink "MangleLine$Script" (39 : Nat) ({ cls := "MangleLine$Script", name := "tellLine", desc := "(LMangleLine$Laundry;)Z" } : Jvm.MethodName)) ∈ mm_ws := mm_i2 (i := 52) rfl rfl
theorem mw_2_54 : (Jvm.Cond.instanceMethod ({ cls := "MangleLine$Script", name := "tellLine", desc := "(LMangleLine$Laundry;)Z" } : Jvm.MethodName)) ∈ mm_ws := mm_i2 (i := 54) rfl rfl
theorem mw_2_55 : (Jvm.Cond.code ({ cls := "MangleLine$Script", name := "tellLine", desc := "(LMangleLine$Laundry;)Z" } : Jvm.MethodName) prog_5_method_5_code (3 : Nat) (Option.some Jvm.ClassFile.FieldType.boolean)) ∈ mm_ws := mm_i2 (i := 55) rfl rfl
theorem mw_2_58 : (Jvm.Cond.instanceMethod ({ cls := "MangleLine$Tape", name := "word", desc := "()I" } : Jvm.MethodName)) ∈ mm_ws := mm_i2 (i := 58) rfl rfl
theorem mw_2_59 : (Jvm.Cond.code ({ cls := "MangleLine$Tape", name := "word", desc := "()I" } : Jvm.MethodName) prog_8_method_7_code (2 : Nat) (Option.some Jvm.ClassFile.FieldType.int)) ∈ mm_ws := mm_i2 (i := 59) rfl rfl
theorem mw_2_60 : (Jvm.Cond.methodLink "MangleLine$Tape" (38 : Nat) ({ cls := "MangleLine$Tape", name := "wordOf", desc := "(I)Ljava/lang/String;" } : Jvm.MethodName)) ∈ mm_ws := mm_i2 (i := 60) rfl rfl
theorem mw_2_61 : (Jvm.Cond.static ({ cls := "MangleLine$Tape", name := "wordOf", desc := "(I)Ljava/lang/String;" } : Jvm.MethodName)) ∈ mm_ws := mm_i2 (i := 61) rfl rfl
theorem mw_2_62 : (Jvm.Cond.code ({ cls := "MangleLine$Tape", name := "wordOf", desc := "(I)Ljava/lang/String;" } : Jvm.MethodName) prog_8_method_8_code (1 : Nat) (Option.some (Jvm.ClassFile.FieldType.object "java/lang/String"))) ∈ mm_ws := mm_i2 (i := 62) rfl rfl
theorem mw_2_73 : (Jvm.Cond.methodLink "MangleLine$Tape" (42 : Nat) ({ cls := "MangleLine$Tape", name := "isSpelt", desc := "(Ljava/lang/String;)Z" } : Jvm.MethodName)) ∈ mm_ws := mm_i2 (i := 73) rfl rfl
theorem mw_2_75 : (Jvm.Cond.instanceMethod ({ cls := "MangleLine$Tape", name := "isSpelt", desc := "(Ljava/lang/String;)Z" } : Jvm.MethodName)) ∈ mm_ws := mm_i2 (i := 75) rfl rfl
theorem mw_2_76 : (Jvm.Cond.code ({ cls := "MangleLine$Tape", name := "isSpelt", desc := "(Ljava/lang/String;)Z" } : Jvm.MethodName) prog_8_method_9_code (3 : Nat) (Option.some Jvm.ClassFile.FieldType.boolean)) ∈ mm_ws := mm_i2 (i := 76) rfl rfl
theorem mw_2_77 : (Jvm.Cond.methodLink "MangleLine$Tape" (66 : Nat) ({ cls := "java/lang/String", name := "length", desc := "()I" } : Jvm.MethodName)) ∈ mm_ws := mm_i2 (i := 77) rfl rfl
theorem mw_2_78 : (Jvm.Cond.instanceMethod ({ cls := "java/lang/String", name := "length", desc := "()I" } : Jvm.MethodName)) ∈ mm_ws := mm_i2 (i := 78) rfl rfl
theorem mw_2_79 : (Jvm.Cond.selects "java/lang/String" ({ cls := "java/lang/String", name := "length", desc := "()I" } : Jvm.MethodName) ({ cls := "java/lang/String", name := "length", desc := "()I" } : Jvm.MethodName)) ∈ mm_ws := mm_i2 (i := 79) rfl rfl
theorem mw_2_80 : (Jvm.Cond.code ({ cls := "java/lang/String", name := "length", desc := "()I" } : Jvm.MethodName) prog_13_method_54_code (1 : Nat) (Option.some Jvm.ClassFile.FieldType.int)) ∈ mm_ws := mm_i2 (i := 80) rfl rfl
theorem mw_2_81 : (Jvm.Cond.methodLink "java/lang/String" (335 : Nat) ({ cls := "java/lang/String", name := "coder", desc := "()B" } : Jvm.MethodName)) ∈ mm_ws := mm_i2 (i := 81) rfl rfl
theorem mw_2_82 : (Jvm.Cond.instanceMethod ({ cls := "java/lang/String", name := "coder", desc := "()B" } : Jvm.MethodName)) ∈ mm_ws := mm_i2 (i := 82) rfl rfl
theorem mw_2_83 : (Jvm.Cond.selects "java/lang/String" ({ cls := "java/lang/String", name := "coder", desc := "()B" } : Jvm.MethodName) ({ cls := "java/lang/String", name := "coder", desc := "()B" } : Jvm.MethodName)) ∈ mm_ws := mm_i2 (i := 83) rfl rfl
theorem mw_2_84 : (Jvm.Cond.code ({ cls := "java/lang/String", name := "coder", desc := "()B" } : Jvm.MethodName) prog_13_method_152_code (1 : Nat) (Option.some Jvm.ClassFile.FieldType.byte)) ∈ mm_ws := mm_i2 (i := 84) rfl rfl
theorem mw_2_85 : (Jvm.Cond.fieldLink "java/lang/String" (38 : Nat) "java/lang/String" "COMPACT_STRINGS" "Z") ∈ mm_ws := mm_i2 (i := 85) rfl rfl
theorem mw_2_87 : (Jvm.Cond.methodLink "MangleLine$Tape" (71 : Nat) ({ cls := "java/lang/String", name := "charAt", desc := "(I)C" } : Jvm.MethodName)) ∈ mm_ws := mm_i2 (i := 87) rfl rfl
theorem mw_2_88 : (Jvm.Cond.instanceMethod ({ cls := "java/lang/String", name := "charAt", desc := "(I)C" } : Jvm.MethodName)) ∈ mm_ws := mm_i2 (i := 88) rfl rfl
theorem mw_2_89 : (Jvm.Cond.selects "java/lang/String" ({ cls := "java/lang/String", name := "charAt", desc := "(I)C" } : Jvm.MethodName) ({ cls := "java/lang/String", name := "charAt", desc := "(I)C" } : Jvm.MethodName)) ∈ mm_ws := mm_i2 (i := 89) rfl rfl
theorem mw_2_90 : (Jvm.Cond.code ({ cls := "java/lang/String", name := "charAt", desc := "(I)C" } : Jvm.MethodName) prog_13_method_56_code (2 : Nat) (Option.some Jvm.ClassFile.FieldType.char)) ∈ mm_ws := mm_i2 (i := 90) rfl rfl
theorem mw_2_91 : (Jvm.Cond.methodLink "java/lang/String" (492 : Nat) ({ cls := "java/lang/String", name := "isLatin1", desc := "()Z" } : Jvm.MethodName)) ∈ mm_ws := mm_i2 (i := 91) rfl rfl
theorem mw_2_92 : (Jvm.Cond.instanceMethod ({ cls := "java/lang/String", name := "isLatin1", desc := "()Z" } : Jvm.MethodName)) ∈ mm_ws := mm_i2 (i := 92) rfl rfl
theorem mw_2_93 : (Jvm.Cond.selects "java/lang/String" ({ cls := "java/lang/String", name := "isLatin1", desc := "()Z" } : Jvm.MethodName) ({ cls := "java/lang/String", name := "isLatin1", desc := "()Z" } : Jvm.MethodName)) ∈ mm_ws := mm_i2 (i := 93) rfl rfl
theorem mw_2_94 : (Jvm.Cond.code ({ cls := "java/lang/String", name := "isLatin1", desc := "()Z" } : Jvm.MethodName) prog_13_method_154_code (1 : Nat) (Option.some Jvm.ClassFile.FieldType.boolean)) ∈ mm_ws := mm_i2 (i := 94) rfl rfl
theorem mw_2_95 : (Jvm.Cond.methodLink "java/lang/String" (495 : Nat) ({ cls := "java/lang/StringLatin1", name := "charAt", desc := "([BI)C" } : Jvm.MethodName)) ∈ mm_ws := mm_i2 (i := 95) rfl rfl
theorem mw_2_96 : (Jvm.Cond.static ({ cls := "java/lang/StringLatin1", name := "charAt", desc := "([BI)C" } : Jvm.MethodName)) ∈ mm_ws := mm_i2 (i := 96) rfl rfl
theorem mw_2_97 : (Jvm.Cond.code ({ cls := "java/lang/StringLatin1", name := "charAt", desc := "([BI)C" } : Jvm.MethodName) prog_14_method_2_code (2 : Nat) (Option.some Jvm.ClassFile.FieldType.char)) ∈ mm_ws := mm_i2 (i := 97) rfl rfl
theorem mw_2_98 : (Jvm.Cond.methodLink "java/lang/StringLatin1" (9 : Nat) ({ cls := "java/lang/String", name := "checkIndex", desc := "(II)V" } : Jvm.MethodName)) ∈ mm_ws := mm_i2 (i := 98) rfl rfl
theorem mw_2_99 : (Jvm.Cond.static ({ cls := "java/lang/String", name := "checkIndex", desc := "(II)V" } : Jvm.MethodName)) ∈ mm_ws := mm_i2 (i := 99) rfl rfl
theorem mw_2_100 : (Jvm.Cond.code ({ cls := "java/lang/String", name := "checkIndex", desc := "(II)V" } : Jvm.MethodName) prog_13_method_155_code (2 : Nat) (Option.none : Option Jvm.ClassFile.FieldType)) ∈ mm_ws := mm_i2 (i := 100) rfl rfl
theorem mw_2_101 : (Jvm.Cond.fieldLink "java/lang/String" (1053 : Nat) "jdk/internal/util/Preconditions" "SIOOBE_FORMATTER" "Ljava/util/function/BiFunction;") ∈ mm_ws := mm_i2 (i := 101) rfl rfl
theorem mw_2_103 : (Jvm.Cond.methodLink "java/lang/String" (1059 : Nat) ({ cls := "jdk/internal/util/Preconditions", name := "checkIndex", desc := "(IILjava/util/function/BiFunction;)I" } : Jvm.MethodName)) ∈ mm_ws := mm_i2 (i := 103) rfl rfl
theorem mw_2_104 : (Jvm.Cond.static ({ cls := "jdk/internal/util/Preconditions", name := "checkIndex", desc := "(IILjava/util/function/BiFunction;)I" } : Jvm.MethodName)) ∈ mm_ws := mm_i2 (i := 104) rfl rfl
theorem mw_2_105 : (Jvm.Cond.code ({ cls := "jdk/internal/util/Preconditions", name := "checkIndex", desc := "(IILjava/util/function/BiFunction;)I" } : Jvm.MethodName) prog_18_method_11_code (3 : Nat) (Option.some Jvm.ClassFile.FieldType.int)) ∈ mm_ws := mm_i2 (i := 105) rfl rfl
theorem mw_2_106 : (Jvm.Cond.methodLink "java/lang/String" (498 : Nat) ({ cls := "java/lang/StringUTF16", name := "charAt", desc := "([BI)C" } : Jvm.MethodName)) ∈ mm_ws := mm_i2 (i := 106) rfl rfl
theorem mw_2_107 : (Jvm.Cond.static ({ cls := "java/lang/StringUTF16", name := "charAt", desc := "([BI)C" } : Jvm.MethodName)) ∈ mm_ws := mm_i2 (i := 107) rfl rfl
theorem mw_2_108 : (Jvm.Cond.code ({ cls := "java/lang/StringUTF16", name := "charAt", desc := "([BI)C" } : Jvm.MethodName) prog_15_method_83_code (2 : Nat) (Option.some Jvm.ClassFile.FieldType.char)) ∈ mm_ws := mm_i2 (i := 108) rfl rfl
theorem mw_2_109 : (Jvm.Cond.methodLink "java/lang/StringUTF16" (67 : Nat) ({ cls := "java/lang/StringUTF16", name := "checkIndex", desc := "(I[B)V" } : Jvm.MethodName)) ∈ mm_ws := mm_i2 (i := 109) rfl rfl
theorem mw_2_110 : (Jvm.Cond.static ({ cls := "java/lang/StringUTF16", name := "checkIndex", desc := "(I[B)V" } : Jvm.MethodName)) ∈ mm_ws := mm_i2 (i := 110) rfl rfl
theorem mw_2_111 : (Jvm.Cond.code ({ cls := "java/lang/StringUTF16", name := "checkIndex", desc := "(I[B)V" } : Jvm.MethodName) prog_15_method_91_code (2 : Nat) (Option.none : Option Jvm.ClassFile.FieldType)) ∈ mm_ws := mm_i2 (i := 111) rfl rfl
theorem mw_2_112 : (Jvm.Cond.methodLink "java/lang/StringUTF16" (48 : Nat) ({ cls := "java/lang/StringUTF16", name := "length", desc := "([B)I" } : Jvm.MethodName)) ∈ mm_ws := mm_i2 (i := 112) rfl rfl
theorem mw_2_113 : (Jvm.Cond.static ({ cls := "java/lang/StringUTF16", name := "length", desc := "([B)I" } : Jvm.MethodName)) ∈ mm_ws := mm_i2 (i := 113) rfl rfl
theorem mw_2_114 : (Jvm.Cond.code ({ cls := "java/lang/StringUTF16", name := "length", desc := "([B)I" } : Jvm.MethodName) prog_15_method_6_code (1 : Nat) (Option.some Jvm.ClassFile.FieldType.int)) ∈ mm_ws := mm_i2 (i := 114) rfl rfl
theorem mw_2_115 : (Jvm.Cond.methodLink "java/lang/StringUTF16" (414 : Nat) ({ cls := "java/lang/String", name := "checkIndex", desc := "(II)V" } : Jvm.MethodName)) ∈ mm_ws := mm_i2 (i := 115) rfl rfl
theorem mw_2_116 : (Jvm.Cond.methodLink "java/lang/StringUTF16" (71 : Nat) ({ cls := "java/lang/StringUTF16", name := "getChar", desc := "([BI)C" } : Jvm.MethodName)) ∈ mm_ws := mm_i2 (i := 116) rfl rfl
theorem mw_2_117 : (Jvm.Cond.static ({ cls := "java/lang/StringUTF16", name := "getChar", desc := "([BI)C" } : Jvm.MethodName)) ∈ mm_ws := mm_i2 (i := 117) rfl rfl
theorem mw_2_118 : (Jvm.Cond.code ({ cls := "java/lang/StringUTF16", name := "getChar", desc := "([BI)C" } : Jvm.MethodName) prog_15_method_5_code (2 : Nat) (Option.some Jvm.ClassFile.FieldType.char)) ∈ mm_ws := mm_i2 (i := 118) rfl rfl
theorem mw_2_119 : (Jvm.Cond.fieldLink "java/lang/StringUTF16" (44 : Nat) "java/lang/StringUTF16" "$assertionsDisabled" "Z") ∈ mm_ws := mm_i2 (i := 119) rfl rfl
theorem mw_2_121 : (Jvm.Cond.fieldLink "java/lang/StringUTF16" (59 : Nat) "java/lang/StringUTF16" "HI_BYTE_SHIFT" "I") ∈ mm_ws := mm_i2 (i := 121) rfl rfl
theorem mw_2_123 : (Jvm.Cond.fieldLink "java/lang/StringUTF16" (63 : Nat) "java/lang/StringUTF16" "LO_BYTE_SHIFT" "I") ∈ mm_ws := mm_i2 (i := 123) rfl rfl
theorem mw_2_125 : (Jvm.Cond.methodLink "MangleLine$Script" (60 : Nat) ({ cls := "MangleLine$Script", name := "tellOne", desc := "(LMangleLine$Laundry;I)Z" } : Jvm.MethodName)) ∈ mm_ws := mm_i2 (i := 125) rfl rfl
theorem mw_2_127 : (Jvm.Cond.instanceMethod ({ cls := "MangleLine$Script", name := "tellOne", desc := "(LMangleLine$Laundry;I)Z" } : Jvm.MethodName)) ∈ mm_ws := mm_i2 (i := 127) rfl rfl
theorem mw_2_128 : (Jvm.Cond.code ({ cls := "MangleLine$Script", name := "tellOne", desc := "(LMangleLine$Laundry;I)Z" } : Jvm.MethodName) prog_5_method_6_code (3 : Nat) (Option.some Jvm.ClassFile.FieldType.boolean)) ∈ mm_ws := mm_i2 (i := 128) rfl rfl
theorem mw_2_129 : (Jvm.Cond.methodLink "MangleLine$Script" (73 : Nat) ({ cls := "MangleLine$Script", name := "isNumber", desc := "(II)Z" } : Jvm.MethodName)) ∈ mm_ws := mm_i2 (i := 129) rfl rfl
theorem mw_2_131 : (Jvm.Cond.instanceMethod ({ cls := "MangleLine$Script", name := "isNumber", desc := "(II)Z" } : Jvm.MethodName)) ∈ mm_ws := mm_i2 (i := 131) rfl rfl
theorem mw_2_132 : (Jvm.Cond.code ({ cls := "MangleLine$Script", name := "isNumber", desc := "(II)Z" } : Jvm.MethodName) prog_5_method_9_code (3 : Nat) (Option.some Jvm.ClassFile.FieldType.boolean)) ∈ mm_ws := mm_i2 (i := 132) rfl rfl
theorem mw_2_136 : (Jvm.Cond.instanceMethod ({ cls := "MangleLine$Laundry", name := ny_nm, desc := "(II)I" } : Jvm.MethodName)) ∈ mm_ws := mm_i2 (i := 136) rfl rfl
theorem mw_2_137 : (Jvm.Cond.code ({ cls := "MangleLine$Laundry", name := ny_nm, desc := "(II)I" } : Jvm.MethodName) prog_4_method_4_code (3 : Nat) (Option.some Jvm.ClassFile.FieldType.int)) ∈ mm_ws := mm_i2 (i := 137) rfl rfl
theorem mw_2_139 : (Jvm.Cond.methodLink "MangleLine$Script" (84 : Nat) ({ cls := "MangleLine$Script", name := "isStop", desc := "()Z" } : Jvm.MethodName)) ∈ mm_ws := mm_i2 (i := 139) rfl rfl
theorem mw_2_141 : (Jvm.Cond.instanceMethod ({ cls := "MangleLine$Script", name := "isStop", desc := "()Z" } : Jvm.MethodName)) ∈ mm_ws := mm_i2 (i := 141) rfl rfl
theorem mw_2_142 : (Jvm.Cond.code ({ cls := "MangleLine$Script", name := "isStop", desc := "()Z" } : Jvm.MethodName) prog_5_method_10_code (1 : Nat) (Option.some Jvm.ClassFile.FieldType.boolean)) ∈ mm_ws := mm_i2 (i := 142) rfl rfl
theorem mw_2_143 : (Jvm.Cond.methodLink "MangleLine$Script" (64 : Nat) ({ cls := "MangleLine$Script", name := "tellSuns", desc := "(LMangleLine$Laundry;)Z" } : Jvm.MethodName)) ∈ mm_ws := mm_i2 (i := 143) rfl rfl
theorem mw_2_145 : (Jvm.Cond.instanceMethod ({ cls := "MangleLine$Script", name := "tellSuns", desc := "(LMangleLine$Laundry;)Z" } : Jvm.MethodName)) ∈ mm_ws := mm_i2 (i := 145) rfl rfl
theorem mw_2_146 : (Jvm.Cond.code ({ cls := "MangleLine$Script", name := "tellSuns", desc := "(LMangleLine$Laundry;)Z" } : Jvm.MethodName) prog_5_method_8_code (3 : Nat) (Option.some Jvm.ClassFile.FieldType.boolean)) ∈ mm_ws := mm_i2 (i := 146) rfl rfl
theorem mw_2_147 : (Jvm.Cond.methodLink "MangleLine$Script" (67 : Nat) ({ cls := "MangleLine$Script", name := "tellRule", desc := "(LMangleLine$Laundry;I)Z" } : Jvm.MethodName)) ∈ mm_ws := mm_i2 (i := 147) rfl rfl
theorem mw_2_149 : (Jvm.Cond.instanceMethod ({ cls := "MangleLine$Script", name := "tellRule", desc := "(LMangleLine$Laundry;I)Z" } : Jvm.MethodName)) ∈ mm_ws := mm_i2 (i := 149) rfl rfl
theorem mw_2_150 : (Jvm.Cond.code ({ cls := "MangleLine$Script", name := "tellRule", desc := "(LMangleLine$Laundry;I)Z" } : Jvm.MethodName) prog_5_method_7_code (3 : Nat) (Option.some Jvm.ClassFile.FieldType.boolean)) ∈ mm_ws := mm_i2 (i := 150) rfl rfl
theorem mw_2_157 : (Jvm.Cond.instanceMethod ({ cls := "MangleLine$Laundry", name := "become", desc := "(LMangleLine$Laundry;)V" } : Jvm.MethodName)) ∈ mm_ws := mm_i2 (i := 157) rfl rfl
theorem mw_2_158 : (Jvm.Cond.code ({ cls := "MangleLine$Laundry", name := "become", desc := "(LMangleLine$Laundry;)V" } : Jvm.MethodName) prog_4_method_3_code (2 : Nat) (Option.none : Option Jvm.ClassFile.FieldType)) ∈ mm_ws := mm_i2 (i := 158) rfl rfl
theorem mw_2_159 : (Jvm.Cond.arrayClass Jvm.ClassFile.FieldType.byte) ∈ mm_ws := mm_i2 (i := 159) rfl rfl
theorem mw_2_160 : (Jvm.Cond.methodLink "MangleLineLaw" (27 : Nat) ({ cls := "MangleLine", name := "fault", desc := "()I" } : Jvm.MethodName)) ∈ mm_ws := mm_i2 (i := 160) rfl rfl
theorem mw_2_161 : (Jvm.Cond.instanceMethod ({ cls := "MangleLine", name := "fault", desc := "()I" } : Jvm.MethodName)) ∈ mm_ws := mm_i2 (i := 161) rfl rfl
theorem mw_2_162 : (Jvm.Cond.selects "MangleLine" ({ cls := "MangleLine", name := "fault", desc := "()I" } : Jvm.MethodName) ({ cls := "MangleLine", name := "fault", desc := "()I" } : Jvm.MethodName)) ∈ mm_ws := mm_i2 (i := 162) rfl rfl
theorem mw_2_163 : (Jvm.Cond.code ({ cls := "MangleLine", name := "fault", desc := "()I" } : Jvm.MethodName) prog_1_method_5_code (1 : Nat) (Option.some Jvm.ClassFile.FieldType.int)) ∈ mm_ws := mm_i2 (i := 163) rfl rfl
theorem mw_2_164 : (Jvm.Cond.methodLink "MangleLineLaw" (31 : Nat) ({ cls := "MangleLine", name := "rule", desc := "(I)I" } : Jvm.MethodName)) ∈ mm_ws := mm_i2 (i := 164) rfl rfl
theorem mw_2_165 : (Jvm.Cond.instanceMethod ({ cls := "MangleLine", name := "rule", desc := "(I)I" } : Jvm.MethodName)) ∈ mm_ws := mm_i2 (i := 165) rfl rfl
theorem mw_2_166 : (Jvm.Cond.selects "MangleLine" ({ cls := "MangleLine", name := "rule", desc := "(I)I" } : Jvm.MethodName) ({ cls := "MangleLine", name := "rule", desc := "(I)I" } : Jvm.MethodName)) ∈ mm_ws := mm_i2 (i := 166) rfl rfl
theorem mw_2_167 : (Jvm.Cond.code ({ cls := "MangleLine", name := "rule", desc := "(I)I" } : Jvm.MethodName) prog_1_method_6_code (2 : Nat) (Option.some Jvm.ClassFile.FieldType.int)) ∈ mm_ws := mm_i2 (i := 167) rfl rfl
theorem mw_2_170 : (Jvm.Cond.instanceMethod ({ cls := "MangleLine$Laundry", name := "whoIsAt", desc := "(I)I" } : Jvm.MethodName)) ∈ mm_ws := mm_i2 (i := 170) rfl rfl
theorem mw_2_171 : (Jvm.Cond.code ({ cls := "MangleLine$Laundry", name := "whoIsAt", desc := "(I)I" } : Jvm.MethodName) prog_4_method_17_code (4 : Nat) (Option.some Jvm.ClassFile.FieldType.int)) ∈ mm_ws := mm_i2 (i := 171) rfl rfl
theorem mw_2_174 : (Jvm.Cond.instanceMethod ({ cls := "MangleLine$Laundry", name := "greyOfAll", desc := "()I" } : Jvm.MethodName)) ∈ mm_ws := mm_i2 (i := 174) rfl rfl
theorem mw_2_175 : (Jvm.Cond.code ({ cls := "MangleLine$Laundry", name := "greyOfAll", desc := "()I" } : Jvm.MethodName) prog_4_method_19_code (1 : Nat) (Option.some Jvm.ClassFile.FieldType.int)) ∈ mm_ws := mm_i2 (i := 175) rfl rfl
theorem mw_2_176 : (Jvm.Cond.methodLink "MangleLine$Laundry" (107 : Nat) ({ cls := "MangleLine$Laundry", name := "sumOf", desc := "([II)I" } : Jvm.MethodName)) ∈ mm_ws := mm_i2 (i := 176) rfl rfl
theorem mw_2_177 : (Jvm.Cond.static ({ cls := "MangleLine$Laundry", name := "sumOf", desc := "([II)I" } : Jvm.MethodName)) ∈ mm_ws := mm_i2 (i := 177) rfl rfl
theorem mw_2_178 : (Jvm.Cond.code ({ cls := "MangleLine$Laundry", name := "sumOf", desc := "([II)I" } : Jvm.MethodName) prog_4_method_22_code (4 : Nat) (Option.some Jvm.ClassFile.FieldType.int)) ∈ mm_ws := mm_i2 (i := 178) rfl rfl
theorem mw_2_181 : (Jvm.Cond.instanceMethod ({ cls := "MangleLine$Laundry", name := "sunToday", desc := "()I" } : Jvm.MethodName)) ∈ mm_ws := mm_i2 (i := 181) rfl rfl
theorem mw_2_182 : (Jvm.Cond.code ({ cls := "MangleLine$Laundry", name := "sunToday", desc := "()I" } : Jvm.MethodName) prog_4_method_10_code (1 : Nat) (Option.some Jvm.ClassFile.FieldType.int)) ∈ mm_ws := mm_i2 (i := 182) rfl rfl
theorem mw_2_183 : (Jvm.Cond.methodLink "MangleLineLaw" (35 : Nat) ({ cls := "MangleLine", name := "told", desc := "(I)I" } : Jvm.MethodName)) ∈ mm_ws := mm_i2 (i := 183) rfl rfl
theorem mw_2_184 : (Jvm.Cond.instanceMethod ({ cls := "MangleLine", name := "told", desc := "(I)I" } : Jvm.MethodName)) ∈ mm_ws := mm_i2 (i := 184) rfl rfl
theorem mw_2_185 : (Jvm.Cond.selects "MangleLine" ({ cls := "MangleLine", name := "told", desc := "(I)I" } : Jvm.MethodName) ({ cls := "MangleLine", name := "told", desc := "(I)I" } : Jvm.MethodName)) ∈ mm_ws := mm_i2 (i := 185) rfl rfl
theorem mw_2_186 : (Jvm.Cond.code ({ cls := "MangleLine", name := "told", desc := "(I)I" } : Jvm.MethodName) prog_1_method_7_code (2 : Nat) (Option.some Jvm.ClassFile.FieldType.int)) ∈ mm_ws := mm_i2 (i := 186) rfl rfl
theorem mw_2_187 : (Jvm.Cond.methodLink "MangleLineLaw" (39 : Nat) ({ cls := "MangleLine", name := "one", desc := "(II)I" } : Jvm.MethodName)) ∈ mm_ws := mm_i2 (i := 187) rfl rfl
theorem mw_2_188 : (Jvm.Cond.instanceMethod ({ cls := "MangleLine", name := "one", desc := "(II)I" } : Jvm.MethodName)) ∈ mm_ws := mm_i2 (i := 188) rfl rfl
theorem mw_2_189 : (Jvm.Cond.selects "MangleLine" ({ cls := "MangleLine", name := "one", desc := "(II)I" } : Jvm.MethodName) ({ cls := "MangleLine", name := "one", desc := "(II)I" } : Jvm.MethodName)) ∈ mm_ws := mm_i2 (i := 189) rfl rfl
theorem mw_2_190 : (Jvm.Cond.code ({ cls := "MangleLine", name := "one", desc := "(II)I" } : Jvm.MethodName) prog_1_method_8_code (3 : Nat) (Option.some Jvm.ClassFile.FieldType.int)) ∈ mm_ws := mm_i2 (i := 190) rfl rfl
theorem mw_2_191 : (Jvm.Cond.methodLink "MangleLine" (119 : Nat) ({ cls := "MangleLine", name := "isOne", desc := "(I)Z" } : Jvm.MethodName)) ∈ mm_ws := mm_i2 (i := 191) rfl rfl
theorem mw_2_193 : (Jvm.Cond.instanceMethod ({ cls := "MangleLine", name := "isOne", desc := "(I)Z" } : Jvm.MethodName)) ∈ mm_ws := mm_i2 (i := 193) rfl rfl
theorem mw_2_194 : (Jvm.Cond.code ({ cls := "MangleLine", name := "isOne", desc := "(I)Z" } : Jvm.MethodName) prog_1_method_47_code (2 : Nat) (Option.some Jvm.ClassFile.FieldType.boolean)) ∈ mm_ws := mm_i2 (i := 194) rfl rfl
theorem mw_2_197 : (Jvm.Cond.instanceMethod ({ cls := "MangleLine$Laundry", name := "scrubs", desc := "(I)I" } : Jvm.MethodName)) ∈ mm_ws := mm_i2 (i := 197) rfl rfl
theorem mw_2_198 : (Jvm.Cond.code ({ cls := "MangleLine$Laundry", name := "scrubs", desc := "(I)I" } : Jvm.MethodName) prog_4_method_8_code (3 : Nat) (Option.some Jvm.ClassFile.FieldType.int)) ∈ mm_ws := mm_i2 (i := 198) rfl rfl
theorem mw_2_201 : (Jvm.Cond.instanceMethod ({ cls := "MangleLine$Laundry", name := "dries", desc := "(II)I" } : Jvm.MethodName)) ∈ mm_ws := mm_i2 (i := 201) rfl rfl
theorem mw_2_202 : (Jvm.Cond.code ({ cls := "MangleLine$Laundry", name := "dries", desc := "(II)I" } : Jvm.MethodName) prog_4_method_9_code (3 : Nat) (Option.some Jvm.ClassFile.FieldType.int)) ∈ mm_ws := mm_i2 (i := 202) rfl rfl
theorem mw_2_203 : (Jvm.Cond.methodLink "MangleLineLaw" (44 : Nat) ({ cls := "MangleLine", name := "sun", desc := "(I)I" } : Jvm.MethodName)) ∈ mm_ws := mm_i2 (i := 203) rfl rfl
theorem mw_2_204 : (Jvm.Cond.instanceMethod ({ cls := "MangleLine", name := "sun", desc := "(I)I" } : Jvm.MethodName)) ∈ mm_ws := mm_i2 (i := 204) rfl rfl
theorem mw_2_205 : (Jvm.Cond.selects "MangleLine" ({ cls := "MangleLine", name := "sun", desc := "(I)I" } : Jvm.MethodName) ({ cls := "MangleLine", name := "sun", desc := "(I)I" } : Jvm.MethodName)) ∈ mm_ws := mm_i2 (i := 205) rfl rfl
theorem mw_2_206 : (Jvm.Cond.code ({ cls := "MangleLine", name := "sun", desc := "(I)I" } : Jvm.MethodName) prog_1_method_9_code (2 : Nat) (Option.some Jvm.ClassFile.FieldType.int)) ∈ mm_ws := mm_i2 (i := 206) rfl rfl
theorem mw_2_207 : (Jvm.Cond.methodLink "MangleLine" (141 : Nat) ({ cls := "MangleLine", name := "isWeekday", desc := "(I)Z" } : Jvm.MethodName)) ∈ mm_ws := mm_i2 (i := 207) rfl rfl
theorem mw_2_208 : (Jvm.Cond.static ({ cls := "MangleLine", name := "isWeekday", desc := "(I)Z" } : Jvm.MethodName)) ∈ mm_ws := mm_i2 (i := 208) rfl rfl
theorem mw_2_209 : (Jvm.Cond.code ({ cls := "MangleLine", name := "isWeekday", desc := "(I)Z" } : Jvm.MethodName) prog_1_method_44_code (1 : Nat) (Option.some Jvm.ClassFile.FieldType.boolean)) ∈ mm_ws := mm_i2 (i := 209) rfl rfl
theorem mw_2_210 : (Jvm.Cond.methodLink "MangleLineLaw" (48 : Nat) ({ cls := "MangleLine", name := "alter", desc := "(III)I" } : Jvm.MethodName)) ∈ mm_ws := mm_i2 (i := 210) rfl rfl
theorem mw_2_211 : (Jvm.Cond.instanceMethod ({ cls := "MangleLine", name := "alter", desc := "(III)I" } : Jvm.MethodName)) ∈ mm_ws := mm_i2 (i := 211) rfl rfl
theorem mw_2_212 : (Jvm.Cond.selects "MangleLine" ({ cls := "MangleLine", name := "alter", desc := "(III)I" } : Jvm.MethodName) ({ cls := "MangleLine", name := "alter", desc := "(III)I" } : Jvm.MethodName)) ∈ mm_ws := mm_i2 (i := 212) rfl rfl
theorem mw_2_213 : (Jvm.Cond.code ({ cls := "MangleLine", name := "alter", desc := "(III)I" } : Jvm.MethodName) prog_1_method_10_code (4 : Nat) (Option.some Jvm.ClassFile.FieldType.int)) ∈ mm_ws := mm_i2 (i := 213) rfl rfl
theorem mw_2_214 : (Jvm.Cond.methodLink "MangleLine" (147 : Nat) ({ cls := "MangleLine", name := "replace", desc := "([IIII)I" } : Jvm.MethodName)) ∈ mm_ws := mm_i2 (i := 214) rfl rfl
theorem mw_2_215 : (Jvm.Cond.static ({ cls := "MangleLine", name := "replace", desc := "([IIII)I" } : Jvm.MethodName)) ∈ mm_ws := mm_i2 (i := 215) rfl rfl
theorem mw_2_216 : (Jvm.Cond.code ({ cls := "MangleLine", name := "replace", desc := "([IIII)I" } : Jvm.MethodName) prog_1_method_48_code (5 : Nat) (Option.some Jvm.ClassFile.FieldType.int)) ∈ mm_ws := mm_i2 (i := 216) rfl rfl
theorem mw_2_217 : (Jvm.Cond.methodLink "MangleLineLaw" (53 : Nat) ({ cls := "MangleLine", name := "set", desc := "(II)I" } : Jvm.MethodName)) ∈ mm_ws := mm_i2 (i := 217) rfl rfl
theorem mw_2_218 : (Jvm.Cond.instanceMethod ({ cls := "MangleLine", name := "set", desc := "(II)I" } : Jvm.MethodName)) ∈ mm_ws := mm_i2 (i := 218) rfl rfl
theorem mw_2_219 : (Jvm.Cond.selects "MangleLine" ({ cls := "MangleLine", name := "set", desc := "(II)I" } : Jvm.MethodName) ({ cls := "MangleLine", name := "set", desc := "(II)I" } : Jvm.MethodName)) ∈ mm_ws := mm_i2 (i := 219) rfl rfl
theorem mw_2_220 : (Jvm.Cond.code ({ cls := "MangleLine", name := "set", desc := "(II)I" } : Jvm.MethodName) prog_1_method_11_code (3 : Nat) (Option.some Jvm.ClassFile.FieldType.int)) ∈ mm_ws := mm_i2 (i := 220) rfl rfl
theorem mw_2_221 : (Jvm.Cond.fieldLink "MangleLine" (151 : Nat) "MangleLine" "RULE_LEAST" "[I") ∈ mm_ws := mm_i2 (i := 221) rfl rfl
theorem mw_2_222 : (Jvm.Cond.fieldLink "MangleLine" (154 : Nat) "MangleLine" "RULE_MOST" "[I") ∈ mm_ws := mm_i2 (i := 222) rfl rfl
theorem mw_2_223 : (Jvm.Cond.methodLink "MangleLineLaw" (57 : Nat) ({ cls := "MangleLine", name := "shine", desc := "(II)I" } : Jvm.MethodName)) ∈ mm_ws := mm_i2 (i := 223) rfl rfl
theorem mw_2_224 : (Jvm.Cond.instanceMethod ({ cls := "MangleLine", name := "shine", desc := "(II)I" } : Jvm.MethodName)) ∈ mm_ws := mm_i2 (i := 224) rfl rfl
theorem mw_2_225 : (Jvm.Cond.selects "MangleLine" ({ cls := "MangleLine", name := "shine", desc := "(II)I" } : Jvm.MethodName) ({ cls := "MangleLine", name := "shine", desc := "(II)I" } : Jvm.MethodName)) ∈ mm_ws := mm_i2 (i := 225) rfl rfl
theorem mw_2_226 : (Jvm.Cond.code ({ cls := "MangleLine", name := "shine", desc := "(II)I" } : Jvm.MethodName) prog_1_method_12_code (3 : Nat) (Option.some Jvm.ClassFile.FieldType.int)) ∈ mm_ws := mm_i2 (i := 226) rfl rfl
theorem mw_2_227 : (Jvm.Cond.methodLink "MangleLineLaw" (61 : Nat) ({ cls := "MangleLine", name := "bring", desc := "(II)I" } : Jvm.MethodName)) ∈ mm_ws := mm_i2 (i := 227) rfl rfl
theorem mw_2_228 : (Jvm.Cond.instanceMethod ({ cls := "MangleLine", name := "bring", desc := "(II)I" } : Jvm.MethodName)) ∈ mm_ws := mm_i2 (i := 228) rfl rfl
theorem mw_2_229 : (Jvm.Cond.selects "MangleLine" ({ cls := "MangleLine", name := "bring", desc := "(II)I" } : Jvm.MethodName) ({ cls := "MangleLine", name := "bring", desc := "(II)I" } : Jvm.MethodName)) ∈ mm_ws := mm_i2 (i := 229) rfl rfl
theorem mw_2_230 : (Jvm.Cond.code ({ cls := "MangleLine", name := "bring", desc := "(II)I" } : Jvm.MethodName) prog_1_method_13_code (3 : Nat) (Option.some Jvm.ClassFile.FieldType.int)) ∈ mm_ws := mm_i2 (i := 230) rfl rfl
theorem mw_2_232 : (Jvm.Cond.methodLink "MangleLineLaw" (65 : Nat) ({ cls := "MangleLine", name := "fetch", desc := "(I)I" } : Jvm.MethodName)) ∈ mm_ws := mm_i2 (i := 232) rfl rfl
theorem mw_2_233 : (Jvm.Cond.instanceMethod ({ cls := "MangleLine", name := "fetch", desc := "(I)I" } : Jvm.MethodName)) ∈ mm_ws := mm_i2 (i := 233) rfl rfl
theorem mw_2_234 : (Jvm.Cond.selects "MangleLine" ({ cls := "MangleLine", name := "fetch", desc := "(I)I" } : Jvm.MethodName) ({ cls := "MangleLine", name := "fetch", desc := "(I)I" } : Jvm.MethodName)) ∈ mm_ws := mm_i2 (i := 234) rfl rfl
theorem mw_2_235 : (Jvm.Cond.code ({ cls := "MangleLine", name := "fetch", desc := "(I)I" } : Jvm.MethodName) prog_1_method_14_code (3 : Nat) (Option.some Jvm.ClassFile.FieldType.int)) ∈ mm_ws := mm_i2 (i := 235) rfl rfl
theorem mw_2_236 : (Jvm.Cond.methodLink "MangleLineLaw" (69 : Nat) ({ cls := "MangleLine", name := "days", desc := "(I)I" } : Jvm.MethodName)) ∈ mm_ws := mm_i2 (i := 236) rfl rfl
theorem mw_2_237 : (Jvm.Cond.instanceMethod ({ cls := "MangleLine", name := "days", desc := "(I)I" } : Jvm.MethodName)) ∈ mm_ws := mm_i2 (i := 237) rfl rfl
theorem mw_2_238 : (Jvm.Cond.selects "MangleLine" ({ cls := "MangleLine", name := "days", desc := "(I)I" } : Jvm.MethodName) ({ cls := "MangleLine", name := "days", desc := "(I)I" } : Jvm.MethodName)) ∈ mm_ws := mm_i2 (i := 238) rfl rfl
theorem mw_2_239 : (Jvm.Cond.code ({ cls := "MangleLine", name := "days", desc := "(I)I" } : Jvm.MethodName) prog_1_method_15_code (2 : Nat) (Option.some Jvm.ClassFile.FieldType.int)) ∈ mm_ws := mm_i2 (i := 239) rfl rfl
theorem mw_3_2 : (Jvm.Cond.instanceMethod ({ cls := "MangleLine$Laundry", name := "passDays", desc := "(I)I" } : Jvm.MethodName)) ∈ mm_ws := mm_i3 (i := 2) rfl rfl
theorem mw_3_3 : (Jvm.Cond.code ({ cls := "MangleLine$Laundry", name := "passDays", desc := "(I)I" } : Jvm.MethodName) prog_4_method_11_code (4 : Nat) (Option.some Jvm.ClassFile.FieldType.int)) ∈ mm_ws := mm_i3 (i := 3) rfl rfl
theorem mw_3_4 : (Jvm.Cond.methodLink "MangleLine$Laundry" (69 : Nat) ({ cls := "MangleLine$Laundry", name := "sunToday", desc := "()I" } : Jvm.MethodName)) ∈ mm_ws := mm_i3 (i := 4) rfl rfl
theorem mw_3_5 : (Jvm.Cond.methodLink "MangleLine$Laundry" (73 : Nat) ({ cls := "MangleLine$Laundry", name := "passDay", desc := "(I)I" } : Jvm.MethodName)) ∈ mm_ws := mm_i3 (i := 5) rfl rfl
theorem mw_3_7 : (Jvm.Cond.instanceMethod ({ cls := "MangleLine$Laundry", name := "passDay", desc := "(I)I" } : Jvm.MethodName)) ∈ mm_ws := mm_i3 (i := 7) rfl rfl
theorem mw_3_8 : (Jvm.Cond.code ({ cls := "MangleLine$Laundry", name := "passDay", desc := "(I)I" } : Jvm.MethodName) prog_4_method_14_code (3 : Nat) (Option.some Jvm.ClassFile.FieldType.int)) ∈ mm_ws := mm_i3 (i := 8) rfl rfl
theorem mw_3_9 : (Jvm.Cond.methodLink "MangleLine$Laundry" (81 : Nat) ({ cls := "MangleLine$Laundry", name := "boilBatch", desc := "()V" } : Jvm.MethodName)) ∈ mm_ws := mm_i3 (i := 9) rfl rfl
theorem mw_3_11 : (Jvm.Cond.instanceMethod ({ cls := "MangleLine$Laundry", name := "boilBatch", desc := "()V" } : Jvm.MethodName)) ∈ mm_ws := mm_i3 (i := 11) rfl rfl
theorem mw_3_12 : (Jvm.Cond.code ({ cls := "MangleLine$Laundry", name := "boilBatch", desc := "()V" } : Jvm.MethodName) prog_4_method_15_code (3 : Nat) (Option.none : Option Jvm.ClassFile.FieldType)) ∈ mm_ws := mm_i3 (i := 12) rfl rfl
theorem mw_3_13 : (Jvm.Cond.methodLink "MangleLine$Laundry" (87 : Nat) ({ cls := "MangleLine$Laundry", name := "whoIsAt", desc := "(I)I" } : Jvm.MethodName)) ∈ mm_ws := mm_i3 (i := 13) rfl rfl
theorem mw_3_14 : (Jvm.Cond.methodLink "MangleLine$Laundry" (90 : Nat) ({ cls := "java/lang/Integer", name := "bitCount", desc := "(I)I" } : Jvm.MethodName)) ∈ mm_ws := mm_i3 (i := 14) rfl rfl
theorem mw_3_15 : (Jvm.Cond.static ({ cls := "java/lang/Integer", name := "bitCount", desc := "(I)I" } : Jvm.MethodName)) ∈ mm_ws := mm_i3 (i := 15) rfl rfl
theorem mw_3_16 : (Jvm.Cond.code ({ cls := "java/lang/Integer", name := "bitCount", desc := "(I)I" } : Jvm.MethodName) prog_11_method_49_code (1 : Nat) (Option.some Jvm.ClassFile.FieldType.int)) ∈ mm_ws := mm_i3 (i := 16) rfl rfl
theorem mw_3_17 : (Jvm.Cond.constant "java/lang/Integer" (265 : Nat) (1431655765 : Int32)) ∈ mm_ws := mm_i3 (i := 17) rfl rfl
theorem mw_3_18 : (Jvm.Cond.constant "java/lang/Integer" (266 : Nat) (858993459 : Int32)) ∈ mm_ws := mm_i3 (i := 18) rfl rfl
theorem mw_3_19 : (Jvm.Cond.constant "java/lang/Integer" (267 : Nat) (252645135 : Int32)) ∈ mm_ws := mm_i3 (i := 19) rfl rfl
theorem mw_3_20 : (Jvm.Cond.methodLink "MangleLine$Laundry" (98 : Nat) ({ cls := "MangleLine$Laundry", name := "scrubs", desc := "(I)I" } : Jvm.MethodName)) ∈ mm_ws := mm_i3 (i := 20) rfl rfl
theorem mw_3_21 : (Jvm.Cond.methodLink "MangleLine$Laundry" (101 : Nat) ({ cls := "java/lang/Math", name := "max", desc := "(II)I" } : Jvm.MethodName)) ∈ mm_ws := mm_i3 (i := 21) rfl rfl
theorem mw_3_22 : (Jvm.Cond.static ({ cls := "java/lang/Math", name := "max", desc := "(II)I" } : Jvm.MethodName)) ∈ mm_ws := mm_i3 (i := 22) rfl rfl
theorem mw_3_23 : (Jvm.Cond.code ({ cls := "java/lang/Math", name := "max", desc := "(II)I" } : Jvm.MethodName) prog_12_method_65_code (2 : Nat) (Option.some Jvm.ClassFile.FieldType.int)) ∈ mm_ws := mm_i3 (i := 23) rfl rfl
theorem mw_3_24 : (Jvm.Cond.methodLink "MangleLine$Laundry" (84 : Nat) ({ cls := "MangleLine$Laundry", name := "dryLine", desc := "(I)I" } : Jvm.MethodName)) ∈ mm_ws := mm_i3 (i := 24) rfl rfl
theorem mw_3_26 : (Jvm.Cond.instanceMethod ({ cls := "MangleLine$Laundry", name := "dryLine", desc := "(I)I" } : Jvm.MethodName)) ∈ mm_ws := mm_i3 (i := 26) rfl rfl
theorem mw_3_27 : (Jvm.Cond.code ({ cls := "MangleLine$Laundry", name := "dryLine", desc := "(I)I" } : Jvm.MethodName) prog_4_method_16_code (6 : Nat) (Option.some Jvm.ClassFile.FieldType.int)) ∈ mm_ws := mm_i3 (i := 27) rfl rfl
theorem mw_3_28 : (Jvm.Cond.methodLink "MangleLine$Laundry" (104 : Nat) ({ cls := "MangleLine$Laundry", name := "dries", desc := "(II)I" } : Jvm.MethodName)) ∈ mm_ws := mm_i3 (i := 28) rfl rfl
theorem mw_3_29 : (Jvm.Cond.methodLink "MangleLineLaw" (73 : Nat) ({ cls := "MangleLine", name := "runs", desc := "(II)I" } : Jvm.MethodName)) ∈ mm_ws := mm_i3 (i := 29) rfl rfl
theorem mw_3_30 : (Jvm.Cond.instanceMethod ({ cls := "MangleLine", name := "runs", desc := "(II)I" } : Jvm.MethodName)) ∈ mm_ws := mm_i3 (i := 30) rfl rfl
theorem mw_3_31 : (Jvm.Cond.selects "MangleLine" ({ cls := "MangleLine", name := "runs", desc := "(II)I" } : Jvm.MethodName) ({ cls := "MangleLine", name := "runs", desc := "(II)I" } : Jvm.MethodName)) ∈ mm_ws := mm_i3 (i := 31) rfl rfl
theorem mw_3_32 : (Jvm.Cond.code ({ cls := "MangleLine", name := "runs", desc := "(II)I" } : Jvm.MethodName) prog_1_method_16_code (6 : Nat) (Option.some Jvm.ClassFile.FieldType.int)) ∈ mm_ws := mm_i3 (i := 32) rfl rfl
theorem mw_3_34 : (Jvm.Cond.methodLink "MangleLine" (169 : Nat) ({ cls := "java/lang/Integer", name := "bitCount", desc := "(I)I" } : Jvm.MethodName)) ∈ mm_ws := mm_i3 (i := 34) rfl rfl
theorem mw_3_35 : (Jvm.Cond.methodLink "MangleLineLaw" (77 : Nat) ({ cls := "MangleLine", name := "ahead", desc := "(III)I" } : Jvm.MethodName)) ∈ mm_ws := mm_i3 (i := 35) rfl rfl
theorem mw_3_36 : (Jvm.Cond.instanceMethod ({ cls := "MangleLine", name := "ahead", desc := "(III)I" } : Jvm.MethodName)) ∈ mm_ws := mm_i3 (i := 36) rfl rfl
theorem mw_3_37 : (Jvm.Cond.selects "MangleLine" ({ cls := "MangleLine", name := "ahead", desc := "(III)I" } : Jvm.MethodName) ({ cls := "MangleLine", name := "ahead", desc := "(III)I" } : Jvm.MethodName)) ∈ mm_ws := mm_i3 (i := 37) rfl rfl
theorem mw_3_38 : (Jvm.Cond.code ({ cls := "MangleLine", name := "ahead", desc := "(III)I" } : Jvm.MethodName) prog_1_method_17_code (4 : Nat) (Option.some Jvm.ClassFile.FieldType.int)) ∈ mm_ws := mm_i3 (i := 38) rfl rfl
theorem mw_3_39 : (Jvm.Cond.methodLink "MangleLineLaw" (81 : Nat) ({ cls := "MangleLine", name := "home", desc := "(I)I" } : Jvm.MethodName)) ∈ mm_ws := mm_i3 (i := 39) rfl rfl
theorem mw_3_40 : (Jvm.Cond.instanceMethod ({ cls := "MangleLine", name := "home", desc := "(I)I" } : Jvm.MethodName)) ∈ mm_ws := mm_i3 (i := 40) rfl rfl
theorem mw_3_41 : (Jvm.Cond.selects "MangleLine" ({ cls := "MangleLine", name := "home", desc := "(I)I" } : Jvm.MethodName) ({ cls := "MangleLine", name := "home", desc := "(I)I" } : Jvm.MethodName)) ∈ mm_ws := mm_i3 (i := 41) rfl rfl
theorem mw_3_42 : (Jvm.Cond.code ({ cls := "MangleLine", name := "home", desc := "(I)I" } : Jvm.MethodName) prog_1_method_18_code (2 : Nat) (Option.some Jvm.ClassFile.FieldType.int)) ∈ mm_ws := mm_i3 (i := 42) rfl rfl
theorem mw_3_45 : (Jvm.Cond.instanceMethod ({ cls := "MangleLine$Laundry", name := "daysTillHome", desc := "(II)I" } : Jvm.MethodName)) ∈ mm_ws := mm_i3 (i := 45) rfl rfl
theorem mw_3_46 : (Jvm.Cond.code ({ cls := "MangleLine$Laundry", name := "daysTillHome", desc := "(II)I" } : Jvm.MethodName) prog_4_method_12_code (4 : Nat) (Option.some Jvm.ClassFile.FieldType.int)) ∈ mm_ws := mm_i3 (i := 46) rfl rfl
theorem mw_3_47 : (Jvm.Cond.methodLink "MangleLine" (177 : Nat) ({ cls := "MangleLine", name := "orNone", desc := "(I)I" } : Jvm.MethodName)) ∈ mm_ws := mm_i3 (i := 47) rfl rfl
theorem mw_3_48 : (Jvm.Cond.static ({ cls := "MangleLine", name := "orNone", desc := "(I)I" } : Jvm.MethodName)) ∈ mm_ws := mm_i3 (i := 48) rfl rfl
theorem mw_3_49 : (Jvm.Cond.code ({ cls := "MangleLine", name := "orNone", desc := "(I)I" } : Jvm.MethodName) prog_1_method_51_code (1 : Nat) (Option.some Jvm.ClassFile.FieldType.int)) ∈ mm_ws := mm_i3 (i := 49) rfl rfl
theorem mw_3_50 : (Jvm.Cond.methodLink "MangleLineLaw" (85 : Nat) ({ cls := "MangleLine", name := "done", desc := "()I" } : Jvm.MethodName)) ∈ mm_ws := mm_i3 (i := 50) rfl rfl
theorem mw_3_51 : (Jvm.Cond.instanceMethod ({ cls := "MangleLine", name := "done", desc := "()I" } : Jvm.MethodName)) ∈ mm_ws := mm_i3 (i := 51) rfl rfl
theorem mw_3_52 : (Jvm.Cond.selects "MangleLine" ({ cls := "MangleLine", name := "done", desc := "()I" } : Jvm.MethodName) ({ cls := "MangleLine", name := "done", desc := "()I" } : Jvm.MethodName)) ∈ mm_ws := mm_i3 (i := 52) rfl rfl
theorem mw_3_53 : (Jvm.Cond.code ({ cls := "MangleLine", name := "done", desc := "()I" } : Jvm.MethodName) prog_1_method_19_code (1 : Nat) (Option.some Jvm.ClassFile.FieldType.int)) ∈ mm_ws := mm_i3 (i := 53) rfl rfl
theorem mw_3_54 : (Jvm.Cond.methodLink "MangleLine" (180 : Nat) ({ cls := "MangleLine", name := "daysAsItIs", desc := "()I" } : Jvm.MethodName)) ∈ mm_ws := mm_i3 (i := 54) rfl rfl
theorem mw_3_56 : (Jvm.Cond.instanceMethod ({ cls := "MangleLine", name := "daysAsItIs", desc := "()I" } : Jvm.MethodName)) ∈ mm_ws := mm_i3 (i := 56) rfl rfl
theorem mw_3_57 : (Jvm.Cond.code ({ cls := "MangleLine", name := "daysAsItIs", desc := "()I" } : Jvm.MethodName) prog_1_method_50_code (1 : Nat) (Option.some Jvm.ClassFile.FieldType.int)) ∈ mm_ws := mm_i3 (i := 57) rfl rfl
theorem mw_3_60 : (Jvm.Cond.instanceMethod ({ cls := "MangleLine$Laundry", name := "daysTillDone", desc := "(I)I" } : Jvm.MethodName)) ∈ mm_ws := mm_i3 (i := 60) rfl rfl
theorem mw_3_61 : (Jvm.Cond.code ({ cls := "MangleLine$Laundry", name := "daysTillDone", desc := "(I)I" } : Jvm.MethodName) prog_4_method_13_code (3 : Nat) (Option.some Jvm.ClassFile.FieldType.int)) ∈ mm_ws := mm_i3 (i := 61) rfl rfl
theorem mw_3_62 : (Jvm.Cond.methodLink "MangleLine$Laundry" (77 : Nat) ({ cls := "MangleLine$Laundry", name := "allAreHome", desc := "()Z" } : Jvm.MethodName)) ∈ mm_ws := mm_i3 (i := 62) rfl rfl
theorem mw_3_64 : (Jvm.Cond.instanceMethod ({ cls := "MangleLine$Laundry", name := "allAreHome", desc := "()Z" } : Jvm.MethodName)) ∈ mm_ws := mm_i3 (i := 64) rfl rfl
theorem mw_3_65 : (Jvm.Cond.code ({ cls := "MangleLine$Laundry", name := "allAreHome", desc := "()Z" } : Jvm.MethodName) prog_4_method_18_code (2 : Nat) (Option.some Jvm.ClassFile.FieldType.boolean)) ∈ mm_ws := mm_i3 (i := 65) rfl rfl
theorem mw_3_66 : (Jvm.Cond.methodLink "MangleLineLaw" (89 : Nat) ({ cls := "MangleLine", name := "blue", desc := "(I)I" } : Jvm.MethodName)) ∈ mm_ws := mm_i3 (i := 66) rfl rfl
theorem mw_3_67 : (Jvm.Cond.instanceMethod ({ cls := "MangleLine", name := "blue", desc := "(I)I" } : Jvm.MethodName)) ∈ mm_ws := mm_i3 (i := 67) rfl rfl
theorem mw_3_68 : (Jvm.Cond.selects "MangleLine" ({ cls := "MangleLine", name := "blue", desc := "(I)I" } : Jvm.MethodName) ({ cls := "MangleLine", name := "blue", desc := "(I)I" } : Jvm.MethodName)) ∈ mm_ws := mm_i3 (i := 68) rfl rfl
theorem mw_3_69 : (Jvm.Cond.code ({ cls := "MangleLine", name := "blue", desc := "(I)I" } : Jvm.MethodName) prog_1_method_20_code (2 : Nat) (Option.some Jvm.ClassFile.FieldType.int)) ∈ mm_ws := mm_i3 (i := 69) rfl rfl
theorem mw_3_70 : (Jvm.Cond.methodLink "MangleLine" (183 : Nat) ({ cls := "MangleLine", name := "leastOfRule", desc := "(II)I" } : Jvm.MethodName)) ∈ mm_ws := mm_i3 (i := 70) rfl rfl
theorem mw_3_72 : (Jvm.Cond.instanceMethod ({ cls := "MangleLine", name := "leastOfRule", desc := "(II)I" } : Jvm.MethodName)) ∈ mm_ws := mm_i3 (i := 72) rfl rfl
theorem mw_3_73 : (Jvm.Cond.code ({ cls := "MangleLine", name := "leastOfRule", desc := "(II)I" } : Jvm.MethodName) prog_1_method_52_code (4 : Nat) (Option.some Jvm.ClassFile.FieldType.int)) ∈ mm_ws := mm_i3 (i := 73) rfl rfl
theorem mw_3_74 : (Jvm.Cond.methodLink "MangleLineLaw" (93 : Nat) ({ cls := "MangleLine", name := "pegs", desc := "(I)I" } : Jvm.MethodName)) ∈ mm_ws := mm_i3 (i := 74) rfl rfl
theorem mw_3_75 : (Jvm.Cond.instanceMethod ({ cls := "MangleLine", name := "pegs", desc := "(I)I" } : Jvm.MethodName)) ∈ mm_ws := mm_i3 (i := 75) rfl rfl
theorem mw_3_76 : (Jvm.Cond.selects "MangleLine" ({ cls := "MangleLine", name := "pegs", desc := "(I)I" } : Jvm.MethodName) ({ cls := "MangleLine", name := "pegs", desc := "(I)I" } : Jvm.MethodName)) ∈ mm_ws := mm_i3 (i := 76) rfl rfl
theorem mw_3_77 : (Jvm.Cond.code ({ cls := "MangleLine", name := "pegs", desc := "(I)I" } : Jvm.MethodName) prog_1_method_21_code (2 : Nat) (Option.some Jvm.ClassFile.FieldType.int)) ∈ mm_ws := mm_i3 (i := 77) rfl rfl
theorem mw_3_78 : (Jvm.Cond.methodLink "MangleLineLaw" (97 : Nat) ({ cls := "MangleLine", name := "batch", desc := "(I)I" } : Jvm.MethodName)) ∈ mm_ws := mm_i3 (i := 78) rfl rfl
theorem mw_3_79 : (Jvm.Cond.instanceMethod ({ cls := "MangleLine", name := "batch", desc := "(I)I" } : Jvm.MethodName)) ∈ mm_ws := mm_i3 (i := 79) rfl rfl
theorem mw_3_80 : (Jvm.Cond.selects "MangleLine" ({ cls := "MangleLine", name := "batch", desc := "(I)I" } : Jvm.MethodName) ({ cls := "MangleLine", name := "batch", desc := "(I)I" } : Jvm.MethodName)) ∈ mm_ws := mm_i3 (i := 80) rfl rfl
theorem mw_3_81 : (Jvm.Cond.code ({ cls := "MangleLine", name := "batch", desc := "(I)I" } : Jvm.MethodName) prog_1_method_22_code (3 : Nat) (Option.some Jvm.ClassFile.FieldType.int)) ∈ mm_ws := mm_i3 (i := 81) rfl rfl
theorem mw_3_82 : (Jvm.Cond.methodLink "MangleLine" (186 : Nat) ({ cls := "MangleLine", name := "isHalf", desc := "(I)Z" } : Jvm.MethodName)) ∈ mm_ws := mm_i3 (i := 82) rfl rfl
theorem mw_3_83 : (Jvm.Cond.static ({ cls := "MangleLine", name := "isHalf", desc := "(I)Z" } : Jvm.MethodName)) ∈ mm_ws := mm_i3 (i := 83) rfl rfl
theorem mw_3_84 : (Jvm.Cond.code ({ cls := "MangleLine", name := "isHalf", desc := "(I)Z" } : Jvm.MethodName) prog_1_method_43_code (1 : Nat) (Option.some Jvm.ClassFile.FieldType.boolean)) ∈ mm_ws := mm_i3 (i := 84) rfl rfl
theorem mw_3_87 : (Jvm.Cond.instanceMethod ({ cls := "MangleLine$Choice", name := "begin", desc := "(I)V" } : Jvm.MethodName)) ∈ mm_ws := mm_i3 (i := 87) rfl rfl
theorem mw_3_88 : (Jvm.Cond.code ({ cls := "MangleLine$Choice", name := "begin", desc := "(I)V" } : Jvm.MethodName) prog_2_method_2_code (2 : Nat) (Option.none : Option Jvm.ClassFile.FieldType)) ∈ mm_ws := mm_i3 (i := 88) rfl rfl
theorem mw_3_91 : (Jvm.Cond.instanceMethod ({ cls := "MangleLine$Choice", name := "offer", desc := "(II)V" } : Jvm.MethodName)) ∈ mm_ws := mm_i3 (i := 91) rfl rfl
theorem mw_3_92 : (Jvm.Cond.code ({ cls := "MangleLine$Choice", name := "offer", desc := "(II)V" } : Jvm.MethodName) prog_2_method_3_code (3 : Nat) (Option.none : Option Jvm.ClassFile.FieldType)) ∈ mm_ws := mm_i3 (i := 92) rfl rfl
theorem mw_3_95 : (Jvm.Cond.instanceMethod ({ cls := "MangleLine$Choice", name := "tell", desc := "(I)I" } : Jvm.MethodName)) ∈ mm_ws := mm_i3 (i := 95) rfl rfl
theorem mw_3_96 : (Jvm.Cond.code ({ cls := "MangleLine$Choice", name := "tell", desc := "(I)I" } : Jvm.MethodName) prog_2_method_4_code (2 : Nat) (Option.some Jvm.ClassFile.FieldType.int)) ∈ mm_ws := mm_i3 (i := 96) rfl rfl
theorem mw_3_97 : (Jvm.Cond.methodLink "MangleLineLaw" (101 : Nat) ({ cls := "MangleLine", name := "swap", desc := "(I)I" } : Jvm.MethodName)) ∈ mm_ws := mm_i3 (i := 97) rfl rfl
theorem mw_3_98 : (Jvm.Cond.instanceMethod ({ cls := "MangleLine", name := "swap", desc := "(I)I" } : Jvm.MethodName)) ∈ mm_ws := mm_i3 (i := 98) rfl rfl
theorem mw_3_99 : (Jvm.Cond.selects "MangleLine" ({ cls := "MangleLine", name := "swap", desc := "(I)I" } : Jvm.MethodName) ({ cls := "MangleLine", name := "swap", desc := "(I)I" } : Jvm.MethodName)) ∈ mm_ws := mm_i3 (i := 99) rfl rfl
theorem mw_3_100 : (Jvm.Cond.code ({ cls := "MangleLine", name := "swap", desc := "(I)I" } : Jvm.MethodName) prog_1_method_23_code (4 : Nat) (Option.some Jvm.ClassFile.FieldType.int)) ∈ mm_ws := mm_i3 (i := 100) rfl rfl
theorem mw_3_103 : (Jvm.Cond.instanceMethod ({ cls := "MangleLine$Laundry", name := "exchange", desc := "(II)V" } : Jvm.MethodName)) ∈ mm_ws := mm_i3 (i := 103) rfl rfl
theorem mw_3_104 : (Jvm.Cond.code ({ cls := "MangleLine$Laundry", name := "exchange", desc := "(II)V" } : Jvm.MethodName) prog_4_method_5_code (3 : Nat) (Option.none : Option Jvm.ClassFile.FieldType)) ∈ mm_ws := mm_i3 (i := 104) rfl rfl
theorem mw_3_105 : (Jvm.Cond.methodLink "MangleLine$Laundry" (59 : Nat) ({ cls := "MangleLine$Laundry", name := "exchangeIn", desc := "([III)V" } : Jvm.MethodName)) ∈ mm_ws := mm_i3 (i := 105) rfl rfl
theorem mw_3_106 : (Jvm.Cond.static ({ cls := "MangleLine$Laundry", name := "exchangeIn", desc := "([III)V" } : Jvm.MethodName)) ∈ mm_ws := mm_i3 (i := 106) rfl rfl
theorem mw_3_107 : (Jvm.Cond.code ({ cls := "MangleLine$Laundry", name := "exchangeIn", desc := "([III)V" } : Jvm.MethodName) prog_4_method_6_code (4 : Nat) (Option.none : Option Jvm.ClassFile.FieldType)) ∈ mm_ws := mm_i3 (i := 107) rfl rfl
theorem mw_3_108 : (Jvm.Cond.methodLink "MangleLineLaw" (105 : Nat) ({ cls := "MangleLine", name := "fair", desc := "(I)I" } : Jvm.MethodName)) ∈ mm_ws := mm_i3 (i := 108) rfl rfl
theorem mw_3_109 : (Jvm.Cond.instanceMethod ({ cls := "MangleLine", name := "fair", desc := "(I)I" } : Jvm.MethodName)) ∈ mm_ws := mm_i3 (i := 109) rfl rfl
theorem mw_3_110 : (Jvm.Cond.selects "MangleLine" ({ cls := "MangleLine", name := "fair", desc := "(I)I" } : Jvm.MethodName) ({ cls := "MangleLine", name := "fair", desc := "(I)I" } : Jvm.MethodName)) ∈ mm_ws := mm_i3 (i := 110) rfl rfl
theorem mw_3_111 : (Jvm.Cond.code ({ cls := "MangleLine", name := "fair", desc := "(I)I" } : Jvm.MethodName) prog_1_method_24_code (3 : Nat) (Option.some Jvm.ClassFile.FieldType.int)) ∈ mm_ws := mm_i3 (i := 111) rfl rfl
theorem mw_3_112 : (Jvm.Cond.methodLink "MangleLineLaw" (109 : Nat) ({ cls := "MangleLine", name := "stain", desc := "(II)I" } : Jvm.MethodName)) ∈ mm_ws := mm_i3 (i := 112) rfl rfl
theorem mw_3_113 : (Jvm.Cond.instanceMethod ({ cls := "MangleLine", name := "stain", desc := "(II)I" } : Jvm.MethodName)) ∈ mm_ws := mm_i3 (i := 113) rfl rfl
theorem mw_3_114 : (Jvm.Cond.selects "MangleLine" ({ cls := "MangleLine", name := "stain", desc := "(II)I" } : Jvm.MethodName) ({ cls := "MangleLine", name := "stain", desc := "(II)I" } : Jvm.MethodName)) ∈ mm_ws := mm_i3 (i := 114) rfl rfl
theorem mw_3_115 : (Jvm.Cond.code ({ cls := "MangleLine", name := "stain", desc := "(II)I" } : Jvm.MethodName) prog_1_method_25_code (4 : Nat) (Option.some Jvm.ClassFile.FieldType.int)) ∈ mm_ws := mm_i3 (i := 115) rfl rfl
theorem mw_3_116 : (Jvm.Cond.methodLink "MangleLineLaw" (113 : Nat) ({ cls := "MangleLine", name := "kind", desc := "(II)I" } : Jvm.MethodName)) ∈ mm_ws := mm_i3 (i := 116) rfl rfl
theorem mw_3_117 : (Jvm.Cond.instanceMethod ({ cls := "MangleLine", name := "kind", desc := "(II)I" } : Jvm.MethodName)) ∈ mm_ws := mm_i3 (i := 117) rfl rfl
theorem mw_3_118 : (Jvm.Cond.selects "MangleLine" ({ cls := "MangleLine", name := "kind", desc := "(II)I" } : Jvm.MethodName) ({ cls := "MangleLine", name := "kind", desc := "(II)I" } : Jvm.MethodName)) ∈ mm_ws := mm_i3 (i := 118) rfl rfl
theorem mw_3_119 : (Jvm.Cond.code ({ cls := "MangleLine", name := "kind", desc := "(II)I" } : Jvm.MethodName) prog_1_method_26_code (4 : Nat) (Option.some Jvm.ClassFile.FieldType.int)) ∈ mm_ws := mm_i3 (i := 119) rfl rfl
theorem mw_3_120 : (Jvm.Cond.methodLink "MangleLineLaw" (117 : Nat) ({ cls := "MangleLine", name := "luck", desc := "(IIII)J" } : Jvm.MethodName)) ∈ mm_ws := mm_i3 (i := 120) rfl rfl
theorem mw_3_121 : (Jvm.Cond.instanceMethod ({ cls := "MangleLine", name := "luck", desc := "(IIII)J" } : Jvm.MethodName)) ∈ mm_ws := mm_i3 (i := 121) rfl rfl
theorem mw_3_122 : (Jvm.Cond.selects "MangleLine" ({ cls := "MangleLine", name := "luck", desc := "(IIII)J" } : Jvm.MethodName) ({ cls := "MangleLine", name := "luck", desc := "(IIII)J" } : Jvm.MethodName)) ∈ mm_ws := mm_i3 (i := 122) rfl rfl
theorem mw_3_123 : (Jvm.Cond.code ({ cls := "MangleLine", name := "luck", desc := "(IIII)J" } : Jvm.MethodName) prog_1_method_27_code (5 : Nat) (Option.some Jvm.ClassFile.FieldType.long)) ∈ mm_ws := mm_i3 (i := 123) rfl rfl
theorem mw_3_124 : (Jvm.Cond.constantLong "MangleLine" (205 : Nat) (-1 : Int64)) ∈ mm_ws := mm_i3 (i := 124) rfl rfl
theorem mw_3_125 : (Jvm.Cond.methodLink "MangleLine" (207 : Nat) ({ cls := "MangleLine", name := "rainFraction", desc := "(IIII)J" } : Jvm.MethodName)) ∈ mm_ws := mm_i3 (i := 125) rfl rfl
theorem mw_3_127 : (Jvm.Cond.instanceMethod ({ cls := "MangleLine", name := "rainFraction", desc := "(IIII)J" } : Jvm.MethodName)) ∈ mm_ws := mm_i3 (i := 127) rfl rfl
theorem mw_3_128 : (Jvm.Cond.code ({ cls := "MangleLine", name := "rainFraction", desc := "(IIII)J" } : Jvm.MethodName) prog_1_method_53_code (10 : Nat) (Option.some Jvm.ClassFile.FieldType.long)) ∈ mm_ws := mm_i3 (i := 128) rfl rfl
theorem mw_3_129 : (Jvm.Cond.methodLink "MangleLine" (281 : Nat) ({ cls := "MangleLine", name := "weigh", desc := "(IIII)J" } : Jvm.MethodName)) ∈ mm_ws := mm_i3 (i := 129) rfl rfl
theorem mw_3_131 : (Jvm.Cond.instanceMethod ({ cls := "MangleLine", name := "weigh", desc := "(IIII)J" } : Jvm.MethodName)) ∈ mm_ws := mm_i3 (i := 131) rfl rfl
theorem mw_3_132 : (Jvm.Cond.code ({ cls := "MangleLine", name := "weigh", desc := "(IIII)J" } : Jvm.MethodName) prog_1_method_54_code (7 : Nat) (Option.some Jvm.ClassFile.FieldType.long)) ∈ mm_ws := mm_i3 (i := 132) rfl rfl
theorem mw_3_133 : (Jvm.Cond.methodLink "MangleLine" (290 : Nat) ({ cls := "MangleLine", name := "worth", desc := "(LMangleLine$Laundry;I)J" } : Jvm.MethodName)) ∈ mm_ws := mm_i3 (i := 133) rfl rfl
theorem mw_3_134 : (Jvm.Cond.static ({ cls := "MangleLine", name := "worth", desc := "(LMangleLine$Laundry;I)J" } : Jvm.MethodName)) ∈ mm_ws := mm_i3 (i := 134) rfl rfl
theorem mw_3_135 : (Jvm.Cond.code ({ cls := "MangleLine", name := "worth", desc := "(LMangleLine$Laundry;I)J" } : Jvm.MethodName) prog_1_method_56_code (2 : Nat) (Option.some Jvm.ClassFile.FieldType.long)) ∈ mm_ws := mm_i3 (i := 135) rfl rfl
theorem mw_3_136 : (Jvm.Cond.methodLink "MangleLine" (294 : Nat) ({ cls := "MangleLine", name := "weighUnder", desc := "(IIIII)J" } : Jvm.MethodName)) ∈ mm_ws := mm_i3 (i := 136) rfl rfl
theorem mw_3_138 : (Jvm.Cond.instanceMethod ({ cls := "MangleLine", name := "weighUnder", desc := "(IIIII)J" } : Jvm.MethodName)) ∈ mm_ws := mm_i3 (i := 138) rfl rfl
theorem mw_3_139 : (Jvm.Cond.code ({ cls := "MangleLine", name := "weighUnder", desc := "(IIIII)J" } : Jvm.MethodName) prog_1_method_55_code (7 : Nat) (Option.some Jvm.ClassFile.FieldType.long)) ∈ mm_ws := mm_i3 (i := 139) rfl rfl
theorem mw_3_140 : (Jvm.Cond.constantLong "MangleLine" (284 : Nat) (10 : Int64)) ∈ mm_ws := mm_i3 (i := 140) rfl rfl
theorem mw_3_141 : (Jvm.Cond.methodLink "MangleLine" (286 : Nat) ({ cls := "MangleLine", name := "inLowestTerms", desc := "(JJII)J" } : Jvm.MethodName)) ∈ mm_ws := mm_i3 (i := 141) rfl rfl
theorem mw_3_142 : (Jvm.Cond.static ({ cls := "MangleLine", name := "inLowestTerms", desc := "(JJII)J" } : Jvm.MethodName)) ∈ mm_ws := mm_i3 (i := 142) rfl rfl
theorem mw_3_143 : (Jvm.Cond.code ({ cls := "MangleLine", name := "inLowestTerms", desc := "(JJII)J" } : Jvm.MethodName) prog_1_method_57_code (7 : Nat) (Option.some Jvm.ClassFile.FieldType.long)) ∈ mm_ws := mm_i3 (i := 143) rfl rfl
theorem mw_3_144 : (Jvm.Cond.constantLong "MangleLine" (298 : Nat) (2 : Int64)) ∈ mm_ws := mm_i3 (i := 144) rfl rfl
theorem mw_3_145 : (Jvm.Cond.constantLong "MangleLine" (300 : Nat) (5 : Int64)) ∈ mm_ws := mm_i3 (i := 145) rfl rfl
theorem mw_3_146 : (Jvm.Cond.methodLink "MangleLineLaw" (122 : Nat) ({ cls := "MangleLine", name := "mean", desc := "(III)J" } : Jvm.MethodName)) ∈ mm_ws := mm_i3 (i := 146) rfl rfl
theorem mw_3_147 : (Jvm.Cond.instanceMethod ({ cls := "MangleLine", name := "mean", desc := "(III)J" } : Jvm.MethodName)) ∈ mm_ws := mm_i3 (i := 147) rfl rfl
theorem mw_3_148 : (Jvm.Cond.selects "MangleLine" ({ cls := "MangleLine", name := "mean", desc := "(III)J" } : Jvm.MethodName) ({ cls := "MangleLine", name := "mean", desc := "(III)J" } : Jvm.MethodName)) ∈ mm_ws := mm_i3 (i := 148) rfl rfl
theorem mw_3_149 : (Jvm.Cond.code ({ cls := "MangleLine", name := "mean", desc := "(III)J" } : Jvm.MethodName) prog_1_method_28_code (4 : Nat) (Option.some Jvm.ClassFile.FieldType.long)) ∈ mm_ws := mm_i3 (i := 149) rfl rfl
theorem mw_3_150 : (Jvm.Cond.methodLink "MangleLineLaw" (127 : Nat) ({ cls := "MangleLine", name := "see", desc := "(III)I" } : Jvm.MethodName)) ∈ mm_ws := mm_i3 (i := 150) rfl rfl
theorem mw_3_151 : (Jvm.Cond.instanceMethod ({ cls := "MangleLine", name := "see", desc := "(III)I" } : Jvm.MethodName)) ∈ mm_ws := mm_i3 (i := 151) rfl rfl
theorem mw_3_152 : (Jvm.Cond.selects "MangleLine" ({ cls := "MangleLine", name := "see", desc := "(III)I" } : Jvm.MethodName) ({ cls := "MangleLine", name := "see", desc := "(III)I" } : Jvm.MethodName)) ∈ mm_ws := mm_i3 (i := 152) rfl rfl
theorem mw_3_153 : (Jvm.Cond.code ({ cls := "MangleLine", name := "see", desc := "(III)I" } : Jvm.MethodName) prog_1_method_29_code (4 : Nat) (Option.some Jvm.ClassFile.FieldType.int)) ∈ mm_ws := mm_i3 (i := 153) rfl rfl
theorem mw_3_156 : (Jvm.Cond.instanceMethod ({ cls := "MangleLine$Sightings", name := "note", desc := "(III)Z" } : Jvm.MethodName)) ∈ mm_ws := mm_i3 (i := 156) rfl rfl
theorem mw_3_157 : (Jvm.Cond.code ({ cls := "MangleLine$Sightings", name := "note", desc := "(III)Z" } : Jvm.MethodName) prog_7_method_2_code (4 : Nat) (Option.some Jvm.ClassFile.FieldType.boolean)) ∈ mm_ws := mm_i3 (i := 157) rfl rfl
theorem mw_3_158 : (Jvm.Cond.methodLink "MangleLineLaw" (131 : Nat) ({ cls := "MangleLine", name := "forget", desc := "(I)I" } : Jvm.MethodName)) ∈ mm_ws := mm_i3 (i := 158) rfl rfl
theorem mw_3_159 : (Jvm.Cond.instanceMethod ({ cls := "MangleLine", name := "forget", desc := "(I)I" } : Jvm.MethodName)) ∈ mm_ws := mm_i3 (i := 159) rfl rfl
theorem mw_3_160 : (Jvm.Cond.selects "MangleLine" ({ cls := "MangleLine", name := "forget", desc := "(I)I" } : Jvm.MethodName) ({ cls := "MangleLine", name := "forget", desc := "(I)I" } : Jvm.MethodName)) ∈ mm_ws := mm_i3 (i := 160) rfl rfl
theorem mw_3_161 : (Jvm.Cond.code ({ cls := "MangleLine", name := "forget", desc := "(I)I" } : Jvm.MethodName) prog_1_method_30_code (3 : Nat) (Option.some Jvm.ClassFile.FieldType.int)) ∈ mm_ws := mm_i3 (i := 161) rfl rfl
theorem mw_3_162 : (Jvm.Cond.methodLink "MangleLineLaw" (135 : Nat) ({ cls := "MangleLine", name := "kinds", desc := "(I)I" } : Jvm.MethodName)) ∈ mm_ws := mm_i3 (i := 162) rfl rfl
theorem mw_3_163 : (Jvm.Cond.instanceMethod ({ cls := "MangleLine", name := "kinds", desc := "(I)I" } : Jvm.MethodName)) ∈ mm_ws := mm_i3 (i := 163) rfl rfl
theorem mw_3_164 : (Jvm.Cond.selects "MangleLine" ({ cls := "MangleLine", name := "kinds", desc := "(I)I" } : Jvm.MethodName) ({ cls := "MangleLine", name := "kinds", desc := "(I)I" } : Jvm.MethodName)) ∈ mm_ws := mm_i3 (i := 164) rfl rfl
theorem mw_3_165 : (Jvm.Cond.code ({ cls := "MangleLine", name := "kinds", desc := "(I)I" } : Jvm.MethodName) prog_1_method_31_code (4 : Nat) (Option.some Jvm.ClassFile.FieldType.int)) ∈ mm_ws := mm_i3 (i := 165) rfl rfl
theorem mw_3_168 : (Jvm.Cond.instanceMethod ({ cls := "MangleLine$Sightings", name := "agreeWith", desc := "(LMangleLine$Laundry;)Z" } : Jvm.MethodName)) ∈ mm_ws := mm_i3 (i := 168) rfl rfl
theorem mw_3_169 : (Jvm.Cond.code ({ cls := "MangleLine$Sightings", name := "agreeWith", desc := "(LMangleLine$Laundry;)Z" } : Jvm.MethodName) prog_7_method_4_code (4 : Nat) (Option.some Jvm.ClassFile.FieldType.boolean)) ∈ mm_ws := mm_i3 (i := 169) rfl rfl
theorem mw_3_170 : (Jvm.Cond.methodLink "MangleLine$Sightings" (31 : Nat) ({ cls := "MangleLine$Sightings", name := "lastLook", desc := "()I" } : Jvm.MethodName)) ∈ mm_ws := mm_i3 (i := 170) rfl rfl
theorem mw_3_172 : (Jvm.Cond.instanceMethod ({ cls := "MangleLine$Sightings", name := "lastLook", desc := "()I" } : Jvm.MethodName)) ∈ mm_ws := mm_i3 (i := 172) rfl rfl
theorem mw_3_173 : (Jvm.Cond.code ({ cls := "MangleLine$Sightings", name := "lastLook", desc := "()I" } : Jvm.MethodName) prog_7_method_5_code (3 : Nat) (Option.some Jvm.ClassFile.FieldType.int)) ∈ mm_ws := mm_i3 (i := 173) rfl rfl
theorem mw_3_174 : (Jvm.Cond.methodLink "MangleLine$Sightings" (48 : Nat) ({ cls := "java/lang/Math", name := "max", desc := "(II)I" } : Jvm.MethodName)) ∈ mm_ws := mm_i3 (i := 174) rfl rfl
theorem mw_3_175 : (Jvm.Cond.methodLink "MangleLine$Sightings" (35 : Nat) ({ cls := "MangleLine$Sightings", name := "agreeOn", desc := "(ILMangleLine$Laundry;)Z" } : Jvm.MethodName)) ∈ mm_ws := mm_i3 (i := 175) rfl rfl
theorem mw_3_177 : (Jvm.Cond.instanceMethod ({ cls := "MangleLine$Sightings", name := "agreeOn", desc := "(ILMangleLine$Laundry;)Z" } : Jvm.MethodName)) ∈ mm_ws := mm_i3 (i := 177) rfl rfl
theorem mw_3_178 : (Jvm.Cond.code ({ cls := "MangleLine$Sightings", name := "agreeOn", desc := "(ILMangleLine$Laundry;)Z" } : Jvm.MethodName) prog_7_method_6_code (4 : Nat) (Option.some Jvm.ClassFile.FieldType.boolean)) ∈ mm_ws := mm_i3 (i := 178) rfl rfl
theorem mw_3_181 : (Jvm.Cond.methodLink "MangleLineLaw" (139 : Nat) ({ cls := "MangleLine", name := "greys", desc := "(I)I" } : Jvm.MethodName)) ∈ mm_ws := mm_i3 (i := 181) rfl rfl
theorem mw_3_182 : (Jvm.Cond.instanceMethod ({ cls := "MangleLine", name := "greys", desc := "(I)I" } : Jvm.MethodName)) ∈ mm_ws := mm_i3 (i := 182) rfl rfl
theorem mw_3_183 : (Jvm.Cond.selects "MangleLine" ({ cls := "MangleLine", name := "greys", desc := "(I)I" } : Jvm.MethodName) ({ cls := "MangleLine", name := "greys", desc := "(I)I" } : Jvm.MethodName)) ∈ mm_ws := mm_i3 (i := 183) rfl rfl
theorem mw_3_184 : (Jvm.Cond.code ({ cls := "MangleLine", name := "greys", desc := "(I)I" } : Jvm.MethodName) prog_1_method_32_code (2 : Nat) (Option.some Jvm.ClassFile.FieldType.int)) ∈ mm_ws := mm_i3 (i := 184) rfl rfl
theorem mw_3_185 : (Jvm.Cond.methodLink "MangleLine" (218 : Nat) ({ cls := "MangleLine", name := "greysAsSeen", desc := "(I)I" } : Jvm.MethodName)) ∈ mm_ws := mm_i3 (i := 185) rfl rfl
theorem mw_3_187 : (Jvm.Cond.instanceMethod ({ cls := "MangleLine", name := "greysAsSeen", desc := "(I)I" } : Jvm.MethodName)) ∈ mm_ws := mm_i3 (i := 187) rfl rfl
theorem mw_3_188 : (Jvm.Cond.code ({ cls := "MangleLine", name := "greysAsSeen", desc := "(I)I" } : Jvm.MethodName) prog_1_method_58_code (4 : Nat) (Option.some Jvm.ClassFile.FieldType.int)) ∈ mm_ws := mm_i3 (i := 188) rfl rfl
theorem mw_3_189 : (Jvm.Cond.methodLink "MangleLineLaw" (143 : Nat) ({ cls := "MangleLine", name := "ask", desc := "(II)I" } : Jvm.MethodName)) ∈ mm_ws := mm_i3 (i := 189) rfl rfl
theorem mw_3_190 : (Jvm.Cond.instanceMethod ({ cls := "MangleLine", name := "ask", desc := "(II)I" } : Jvm.MethodName)) ∈ mm_ws := mm_i3 (i := 190) rfl rfl
theorem mw_3_191 : (Jvm.Cond.selects "MangleLine" ({ cls := "MangleLine", name := "ask", desc := "(II)I" } : Jvm.MethodName) ({ cls := "MangleLine", name := "ask", desc := "(II)I" } : Jvm.MethodName)) ∈ mm_ws := mm_i3 (i := 191) rfl rfl
theorem mw_3_192 : (Jvm.Cond.code ({ cls := "MangleLine", name := "ask", desc := "(II)I" } : Jvm.MethodName) prog_1_method_33_code (6 : Nat) (Option.some Jvm.ClassFile.FieldType.int)) ∈ mm_ws := mm_i3 (i := 192) rfl rfl
theorem mw_3_193 : (Jvm.Cond.methodLink "MangleLine" (221 : Nat) ({ cls := "MangleLine", name := "tallyPlaces", desc := "(II)V" } : Jvm.MethodName)) ∈ mm_ws := mm_i3 (i := 193) rfl rfl
theorem mw_3_195 : (Jvm.Cond.instanceMethod ({ cls := "MangleLine", name := "tallyPlaces", desc := "(II)V" } : Jvm.MethodName)) ∈ mm_ws := mm_i3 (i := 195) rfl rfl
theorem mw_3_196 : (Jvm.Cond.code ({ cls := "MangleLine", name := "tallyPlaces", desc := "(II)V" } : Jvm.MethodName) prog_1_method_59_code (6 : Nat) (Option.none : Option Jvm.ClassFile.FieldType)) ∈ mm_ws := mm_i3 (i := 196) rfl rfl
theorem mw_3_197 : (Jvm.Cond.methodLink "MangleLine" (302 : Nat) ({ cls := "java/util/Arrays", name := "fill", desc := "([II)V" } : Jvm.MethodName)) ∈ mm_ws := mm_i3 (i := 197) rfl rfl
theorem mw_3_198 : (Jvm.Cond.methodLink "MangleLine" (308 : Nat) ({ cls := "MangleLine", name := "tallyAt", desc := "(II)I" } : Jvm.MethodName)) ∈ mm_ws := mm_i3 (i := 198) rfl rfl
theorem mw_3_199 : (Jvm.Cond.static ({ cls := "MangleLine", name := "tallyAt", desc := "(II)I" } : Jvm.MethodName)) ∈ mm_ws := mm_i3 (i := 199) rfl rfl
theorem mw_3_200 : (Jvm.Cond.code ({ cls := "MangleLine", name := "tallyAt", desc := "(II)I" } : Jvm.MethodName) prog_1_method_60_code (2 : Nat) (Option.some Jvm.ClassFile.FieldType.int)) ∈ mm_ws := mm_i3 (i := 200) rfl rfl
theorem mw_3_201 : (Jvm.Cond.methodLink "MangleLine" (224 : Nat) ({ cls := "MangleLine", name := "mostLeft", desc := "(II)I" } : Jvm.MethodName)) ∈ mm_ws := mm_i3 (i := 201) rfl rfl
theorem mw_3_203 : (Jvm.Cond.instanceMethod ({ cls := "MangleLine", name := "mostLeft", desc := "(II)I" } : Jvm.MethodName)) ∈ mm_ws := mm_i3 (i := 203) rfl rfl
theorem mw_3_204 : (Jvm.Cond.code ({ cls := "MangleLine", name := "mostLeft", desc := "(II)I" } : Jvm.MethodName) prog_1_method_61_code (4 : Nat) (Option.some Jvm.ClassFile.FieldType.int)) ∈ mm_ws := mm_i3 (i := 204) rfl rfl
theorem mw_3_205 : (Jvm.Cond.methodLink "MangleLine" (311 : Nat) ({ cls := "java/lang/Math", name := "max", desc := "(II)I" } : Jvm.MethodName)) ∈ mm_ws := mm_i3 (i := 205) rfl rfl
theorem mw_3_206 : (Jvm.Cond.methodLink "MangleLineLaw" (147 : Nat) ({ cls := "MangleLine", name := "drift", desc := "(III)I" } : Jvm.MethodName)) ∈ mm_ws := mm_i3 (i := 206) rfl rfl
theorem mw_3_207 : (Jvm.Cond.instanceMethod ({ cls := "MangleLine", name := "drift", desc := "(III)I" } : Jvm.MethodName)) ∈ mm_ws := mm_i3 (i := 207) rfl rfl
theorem mw_3_208 : (Jvm.Cond.selects "MangleLine" ({ cls := "MangleLine", name := "drift", desc := "(III)I" } : Jvm.MethodName) ({ cls := "MangleLine", name := "drift", desc := "(III)I" } : Jvm.MethodName)) ∈ mm_ws := mm_i3 (i := 208) rfl rfl
theorem mw_3_209 : (Jvm.Cond.code ({ cls := "MangleLine", name := "drift", desc := "(III)I" } : Jvm.MethodName) prog_1_method_34_code (7 : Nat) (Option.some Jvm.ClassFile.FieldType.int)) ∈ mm_ws := mm_i3 (i := 209) rfl rfl
theorem mw_3_210 : (Jvm.Cond.constant "MangleLine" (227 : Nat) (1103515245 : Int32)) ∈ mm_ws := mm_i3 (i := 210) rfl rfl
theorem mw_3_213 : (Jvm.Cond.instanceMethod ({ cls := "MangleLine$Laundry", name := "soil", desc := "(II)V" } : Jvm.MethodName)) ∈ mm_ws := mm_i3 (i := 213) rfl rfl
theorem mw_3_214 : (Jvm.Cond.code ({ cls := "MangleLine$Laundry", name := "soil", desc := "(II)V" } : Jvm.MethodName) prog_4_method_7_code (3 : Nat) (Option.none : Option Jvm.ClassFile.FieldType)) ∈ mm_ws := mm_i3 (i := 214) rfl rfl
theorem mw_3_215 : (Jvm.Cond.methodLink "MangleLine$Laundry" (63 : Nat) ({ cls := "java/lang/Math", name := "min", desc := "(II)I" } : Jvm.MethodName)) ∈ mm_ws := mm_i3 (i := 215) rfl rfl
theorem mw_3_216 : (Jvm.Cond.static ({ cls := "java/lang/Math", name := "min", desc := "(II)I" } : Jvm.MethodName)) ∈ mm_ws := mm_i3 (i := 216) rfl rfl
theorem mw_3_217 : (Jvm.Cond.code ({ cls := "java/lang/Math", name := "min", desc := "(II)I" } : Jvm.MethodName) prog_12_method_69_code (2 : Nat) (Option.some Jvm.ClassFile.FieldType.int)) ∈ mm_ws := mm_i3 (i := 217) rfl rfl
theorem mw_3_218 : (Jvm.Cond.methodLink "MangleLineLaw" (151 : Nat) ({ cls := "MangleLine", name := "keep", desc := "(I)I" } : Jvm.MethodName)) ∈ mm_ws := mm_i3 (i := 218) rfl rfl
theorem mw_3_219 : (Jvm.Cond.instanceMethod ({ cls := "MangleLine", name := "keep", desc := "(I)I" } : Jvm.MethodName)) ∈ mm_ws := mm_i3 (i := 219) rfl rfl
theorem mw_3_220 : (Jvm.Cond.selects "MangleLine" ({ cls := "MangleLine", name := "keep", desc := "(I)I" } : Jvm.MethodName) ({ cls := "MangleLine", name := "keep", desc := "(I)I" } : Jvm.MethodName)) ∈ mm_ws := mm_i3 (i := 220) rfl rfl
theorem mw_3_221 : (Jvm.Cond.code ({ cls := "MangleLine", name := "keep", desc := "(I)I" } : Jvm.MethodName) prog_1_method_35_code (4 : Nat) (Option.some Jvm.ClassFile.FieldType.int)) ∈ mm_ws := mm_i3 (i := 221) rfl rfl
theorem mw_3_224 : (Jvm.Cond.instanceMethod ({ cls := "MangleLine$Sightings", name := "become", desc := "(LMangleLine$Sightings;)V" } : Jvm.MethodName)) ∈ mm_ws := mm_i3 (i := 224) rfl rfl
theorem mw_3_225 : (Jvm.Cond.code ({ cls := "MangleLine$Sightings", name := "become", desc := "(LMangleLine$Sightings;)V" } : Jvm.MethodName) prog_7_method_3_code (2 : Nat) (Option.none : Option Jvm.ClassFile.FieldType)) ∈ mm_ws := mm_i3 (i := 225) rfl rfl
theorem mw_3_226 : (Jvm.Cond.methodLink "MangleLine$Sightings" (25 : Nat) ({ cls := "java/lang/System", name := "arraycopy", desc := "(Ljava/lang/Object;ILjava/lang/Object;II)V" } : Jvm.MethodName)) ∈ mm_ws := mm_i3 (i := 226) rfl rfl
theorem mw_3_227 : (Jvm.Cond.methodLink "MangleLineLaw" (155 : Nat) ({ cls := "MangleLine", name := "back", desc := "(I)I" } : Jvm.MethodName)) ∈ mm_ws := mm_i3 (i := 227) rfl rfl
theorem mw_3_228 : (Jvm.Cond.instanceMethod ({ cls := "MangleLine", name := "back", desc := "(I)I" } : Jvm.MethodName)) ∈ mm_ws := mm_i3 (i := 228) rfl rfl
theorem mw_3_229 : (Jvm.Cond.selects "MangleLine" ({ cls := "MangleLine", name := "back", desc := "(I)I" } : Jvm.MethodName) ({ cls := "MangleLine", name := "back", desc := "(I)I" } : Jvm.MethodName)) ∈ mm_ws := mm_i3 (i := 229) rfl rfl
theorem mw_3_230 : (Jvm.Cond.code ({ cls := "MangleLine", name := "back", desc := "(I)I" } : Jvm.MethodName) prog_1_method_36_code (3 : Nat) (Option.some Jvm.ClassFile.FieldType.int)) ∈ mm_ws := mm_i3 (i := 230) rfl rfl
theorem mw_3_231 : (Jvm.Cond.methodLink "MangleLineLaw" (159 : Nat) ({ cls := "MangleLine", name := "sheet", desc := "(III)I" } : Jvm.MethodName)) ∈ mm_ws := mm_i3 (i := 231) rfl rfl
theorem mw_3_232 : (Jvm.Cond.instanceMethod ({ cls := "MangleLine", name := "sheet", desc := "(III)I" } : Jvm.MethodName)) ∈ mm_ws := mm_i3 (i := 232) rfl rfl
theorem mw_3_233 : (Jvm.Cond.selects "MangleLine" ({ cls := "MangleLine", name := "sheet", desc := "(III)I" } : Jvm.MethodName) ({ cls := "MangleLine", name := "sheet", desc := "(III)I" } : Jvm.MethodName)) ∈ mm_ws := mm_i3 (i := 233) rfl rfl
theorem mw_3_234 : (Jvm.Cond.code ({ cls := "MangleLine", name := "sheet", desc := "(III)I" } : Jvm.MethodName) prog_1_method_37_code (4 : Nat) (Option.some Jvm.ClassFile.FieldType.int)) ∈ mm_ws := mm_i3 (i := 234) rfl rfl
theorem mw_3_235 : (Jvm.Cond.methodLink "MangleLine" (238 : Nat) ({ cls := "MangleLine", name := "isSheet", desc := "(I)Z" } : Jvm.MethodName)) ∈ mm_ws := mm_i3 (i := 235) rfl rfl
theorem mw_3_236 : (Jvm.Cond.static ({ cls := "MangleLine", name := "isSheet", desc := "(I)Z" } : Jvm.MethodName)) ∈ mm_ws := mm_i3 (i := 236) rfl rfl
theorem mw_3_237 : (Jvm.Cond.code ({ cls := "MangleLine", name := "isSheet", desc := "(I)Z" } : Jvm.MethodName) prog_1_method_45_code (1 : Nat) (Option.some Jvm.ClassFile.FieldType.boolean)) ∈ mm_ws := mm_i3 (i := 237) rfl rfl
theorem mw_3_238 : (Jvm.Cond.methodLink "MangleLine" (241 : Nat) ({ cls := "MangleLine", name := "isLane", desc := "(I)Z" } : Jvm.MethodName)) ∈ mm_ws := mm_i3 (i := 238) rfl rfl
theorem mw_3_239 : (Jvm.Cond.static ({ cls := "MangleLine", name := "isLane", desc := "(I)Z" } : Jvm.MethodName)) ∈ mm_ws := mm_i3 (i := 239) rfl rfl
theorem mw_4_0 : (Jvm.Cond.code ({ cls := "MangleLine", name := "isLane", desc := "(I)Z" } : Jvm.MethodName) prog_1_method_46_code (1 : Nat) (Option.some Jvm.ClassFile.FieldType.boolean)) ∈ mm_ws := mm_i4 (i := 0) rfl rfl
theorem mw_4_3 : (Jvm.Cond.instanceMethod ({ cls := "MangleLine$Sheet", name := "renew", desc := "(II)V" } : Jvm.MethodName)) ∈ mm_ws := mm_i4 (i := 3) rfl rfl
theorem mw_4_4 : (Jvm.Cond.code ({ cls := "MangleLine$Sheet", name := "renew", desc := "(II)V" } : Jvm.MethodName) prog_6_method_2_code (3 : Nat) (Option.none : Option Jvm.ClassFile.FieldType)) ∈ mm_ws := mm_i4 (i := 4) rfl rfl
theorem mw_4_5 : (Jvm.Cond.methodLink "MangleLine$Sheet" (22 : Nat) ({ cls := "java/util/Arrays", name := "fill", desc := "([II)V" } : Jvm.MethodName)) ∈ mm_ws := mm_i4 (i := 5) rfl rfl
theorem mw_4_6 : (Jvm.Cond.methodLink "MangleLineLaw" (163 : Nat) ({ cls := "MangleLine", name := "lay", desc := "(III)I" } : Jvm.MethodName)) ∈ mm_ws := mm_i4 (i := 6) rfl rfl
theorem mw_4_7 : (Jvm.Cond.instanceMethod ({ cls := "MangleLine", name := "lay", desc := "(III)I" } : Jvm.MethodName)) ∈ mm_ws := mm_i4 (i := 7) rfl rfl
theorem mw_4_8 : (Jvm.Cond.selects "MangleLine" ({ cls := "MangleLine", name := "lay", desc := "(III)I" } : Jvm.MethodName) ({ cls := "MangleLine", name := "lay", desc := "(III)I" } : Jvm.MethodName)) ∈ mm_ws := mm_i4 (i := 8) rfl rfl
theorem mw_4_9 : (Jvm.Cond.code ({ cls := "MangleLine", name := "lay", desc := "(III)I" } : Jvm.MethodName) prog_1_method_38_code (5 : Nat) (Option.some Jvm.ClassFile.FieldType.int)) ∈ mm_ws := mm_i4 (i := 9) rfl rfl
theorem mw_4_12 : (Jvm.Cond.instanceMethod ({ cls := "MangleLine$Sheet", name := "isNothing", desc := "()Z" } : Jvm.MethodName)) ∈ mm_ws := mm_i4 (i := 12) rfl rfl
theorem mw_4_13 : (Jvm.Cond.code ({ cls := "MangleLine$Sheet", name := "isNothing", desc := "()Z" } : Jvm.MethodName) prog_6_method_3_code (1 : Nat) (Option.some Jvm.ClassFile.FieldType.boolean)) ∈ mm_ws := mm_i4 (i := 13) rfl rfl
theorem mw_4_16 : (Jvm.Cond.instanceMethod ({ cls := "MangleLine$Sheet", name := "hasCell", desc := "(I)Z" } : Jvm.MethodName)) ∈ mm_ws := mm_i4 (i := 16) rfl rfl
theorem mw_4_17 : (Jvm.Cond.code ({ cls := "MangleLine$Sheet", name := "hasCell", desc := "(I)Z" } : Jvm.MethodName) prog_6_method_4_code (2 : Nat) (Option.some Jvm.ClassFile.FieldType.boolean)) ∈ mm_ws := mm_i4 (i := 17) rfl rfl
theorem mw_4_21 : (Jvm.Cond.instanceMethod ({ cls := "MangleLine$Sheet", name := "write", desc := "(II)V" } : Jvm.MethodName)) ∈ mm_ws := mm_i4 (i := 21) rfl rfl
theorem mw_4_22 : (Jvm.Cond.code ({ cls := "MangleLine$Sheet", name := "write", desc := "(II)V" } : Jvm.MethodName) prog_6_method_5_code (3 : Nat) (Option.none : Option Jvm.ClassFile.FieldType)) ∈ mm_ws := mm_i4 (i := 22) rfl rfl
theorem mw_4_23 : (Jvm.Cond.methodLink "MangleLineLaw" (167 : Nat) ({ cls := "MangleLine", name := "read", desc := "(IIII)I" } : Jvm.MethodName)) ∈ mm_ws := mm_i4 (i := 23) rfl rfl
theorem mw_4_24 : (Jvm.Cond.instanceMethod ({ cls := "MangleLine", name := "read", desc := "(IIII)I" } : Jvm.MethodName)) ∈ mm_ws := mm_i4 (i := 24) rfl rfl
theorem mw_4_25 : (Jvm.Cond.selects "MangleLine" ({ cls := "MangleLine", name := "read", desc := "(IIII)I" } : Jvm.MethodName) ({ cls := "MangleLine", name := "read", desc := "(IIII)I" } : Jvm.MethodName)) ∈ mm_ws := mm_i4 (i := 25) rfl rfl
theorem mw_4_26 : (Jvm.Cond.code ({ cls := "MangleLine", name := "read", desc := "(IIII)I" } : Jvm.MethodName) prog_1_method_39_code (10 : Nat) (Option.some Jvm.ClassFile.FieldType.int)) ∈ mm_ws := mm_i4 (i := 26) rfl rfl
theorem mw_4_29 : (Jvm.Cond.instanceMethod ({ cls := "MangleLine$Sheet", name := "wholePairs", desc := "(III)I" } : Jvm.MethodName)) ∈ mm_ws := mm_i4 (i := 29) rfl rfl
theorem mw_4_30 : (Jvm.Cond.code ({ cls := "MangleLine$Sheet", name := "wholePairs", desc := "(III)I" } : Jvm.MethodName) prog_6_method_7_code (4 : Nat) (Option.some Jvm.ClassFile.FieldType.int)) ∈ mm_ws := mm_i4 (i := 30) rfl rfl
theorem mw_4_31 : (Jvm.Cond.methodLink "MangleLine$Sheet" (32 : Nat) ({ cls := "MangleLine$Sheet", name := "isNothing", desc := "()Z" } : Jvm.MethodName)) ∈ mm_ws := mm_i4 (i := 31) rfl rfl
theorem mw_4_32 : (Jvm.Cond.methodLink "MangleLine$Sheet" (36 : Nat) ({ cls := "MangleLine$Sheet", name := "isAnotherLane", desc := "(I)Z" } : Jvm.MethodName)) ∈ mm_ws := mm_i4 (i := 32) rfl rfl
theorem mw_4_34 : (Jvm.Cond.instanceMethod ({ cls := "MangleLine$Sheet", name := "isAnotherLane", desc := "(I)Z" } : Jvm.MethodName)) ∈ mm_ws := mm_i4 (i := 34) rfl rfl
theorem mw_4_35 : (Jvm.Cond.code ({ cls := "MangleLine$Sheet", name := "isAnotherLane", desc := "(I)Z" } : Jvm.MethodName) prog_6_method_6_code (2 : Nat) (Option.some Jvm.ClassFile.FieldType.boolean)) ∈ mm_ws := mm_i4 (i := 35) rfl rfl
theorem mw_4_36 : (Jvm.Cond.methodLink "MangleLine$Sheet" (40 : Nat) ({ cls := "MangleLine$Sheet", name := "hasCell", desc := "(I)Z" } : Jvm.MethodName)) ∈ mm_ws := mm_i4 (i := 36) rfl rfl
theorem mw_4_37 : (Jvm.Cond.methodLink "MangleLine$Sheet" (43 : Nat) ({ cls := "java/lang/Math", name := "min", desc := "(II)I" } : Jvm.MethodName)) ∈ mm_ws := mm_i4 (i := 37) rfl rfl
theorem mw_4_40 : (Jvm.Cond.instanceMethod ({ cls := "MangleLine$Sheet", name := "faultOfReading", desc := "(IZ)I" } : Jvm.MethodName)) ∈ mm_ws := mm_i4 (i := 40) rfl rfl
theorem mw_4_41 : (Jvm.Cond.code ({ cls := "MangleLine$Sheet", name := "faultOfReading", desc := "(IZ)I" } : Jvm.MethodName) prog_6_method_8_code (3 : Nat) (Option.some Jvm.ClassFile.FieldType.int)) ∈ mm_ws := mm_i4 (i := 41) rfl rfl
theorem mw_4_42 : (Jvm.Cond.methodLink "MangleLineLaw" (172 : Nat) ({ cls := "MangleLine", name := "torn", desc := "()I" } : Jvm.MethodName)) ∈ mm_ws := mm_i4 (i := 42) rfl rfl
theorem mw_4_43 : (Jvm.Cond.instanceMethod ({ cls := "MangleLine", name := "torn", desc := "()I" } : Jvm.MethodName)) ∈ mm_ws := mm_i4 (i := 43) rfl rfl
theorem mw_4_44 : (Jvm.Cond.selects "MangleLine" ({ cls := "MangleLine", name := "torn", desc := "()I" } : Jvm.MethodName) ({ cls := "MangleLine", name := "torn", desc := "()I" } : Jvm.MethodName)) ∈ mm_ws := mm_i4 (i := 44) rfl rfl
theorem mw_4_45 : (Jvm.Cond.code ({ cls := "MangleLine", name := "torn", desc := "()I" } : Jvm.MethodName) prog_1_method_40_code (1 : Nat) (Option.some Jvm.ClassFile.FieldType.int)) ∈ mm_ws := mm_i4 (i := 45) rfl rfl
theorem mw_4_46 : (Jvm.Cond.methodLink "MangleLineLaw" (176 : Nat) ({ cls := "MangleLine", name := "count", desc := "(I)I" } : Jvm.MethodName)) ∈ mm_ws := mm_i4 (i := 46) rfl rfl
theorem mw_4_47 : (Jvm.Cond.instanceMethod ({ cls := "MangleLine", name := "count", desc := "(I)I" } : Jvm.MethodName)) ∈ mm_ws := mm_i4 (i := 47) rfl rfl
theorem mw_4_48 : (Jvm.Cond.selects "MangleLine" ({ cls := "MangleLine", name := "count", desc := "(I)I" } : Jvm.MethodName) ({ cls := "MangleLine", name := "count", desc := "(I)I" } : Jvm.MethodName)) ∈ mm_ws := mm_i4 (i := 48) rfl rfl
theorem mw_4_49 : (Jvm.Cond.code ({ cls := "MangleLine", name := "count", desc := "(I)I" } : Jvm.MethodName) prog_1_method_41_code (2 : Nat) (Option.some Jvm.ClassFile.FieldType.int)) ∈ mm_ws := mm_i4 (i := 49) rfl rfl
theorem mw_4_50 : (Jvm.Cond.methodLink "MangleLine" (271 : Nat) ({ cls := "MangleLine", name := "imagesKept", desc := "()I" } : Jvm.MethodName)) ∈ mm_ws := mm_i4 (i := 50) rfl rfl
theorem mw_4_52 : (Jvm.Cond.instanceMethod ({ cls := "MangleLine", name := "imagesKept", desc := "()I" } : Jvm.MethodName)) ∈ mm_ws := mm_i4 (i := 52) rfl rfl
theorem mw_4_53 : (Jvm.Cond.code ({ cls := "MangleLine", name := "imagesKept", desc := "()I" } : Jvm.MethodName) prog_1_method_49_code (3 : Nat) (Option.some Jvm.ClassFile.FieldType.int)) ∈ mm_ws := mm_i4 (i := 53) rfl rfl
theorem mw_4_56 : (Jvm.Cond.instanceMethod ({ cls := "MangleLine$Laundry", name := "wetOfAll", desc := "()I" } : Jvm.MethodName)) ∈ mm_ws := mm_i4 (i := 56) rfl rfl
theorem mw_4_57 : (Jvm.Cond.code ({ cls := "MangleLine$Laundry", name := "wetOfAll", desc := "()I" } : Jvm.MethodName) prog_4_method_20_code (1 : Nat) (Option.some Jvm.ClassFile.FieldType.int)) ∈ mm_ws := mm_i4 (i := 57) rfl rfl
theorem mw_4_60 : (Jvm.Cond.instanceMethod ({ cls := "MangleLine$Laundry", name := "sunOfAll", desc := "()I" } : Jvm.MethodName)) ∈ mm_ws := mm_i4 (i := 60) rfl rfl
theorem mw_4_61 : (Jvm.Cond.code ({ cls := "MangleLine$Laundry", name := "sunOfAll", desc := "()I" } : Jvm.MethodName) prog_4_method_21_code (1 : Nat) (Option.some Jvm.ClassFile.FieldType.int)) ∈ mm_ws := mm_i4 (i := 61) rfl rfl
theorem mw_4_62 : (Jvm.Cond.classLink "MangleLineLaw" (10 : Nat) "MangleLineModel") ∈ mm_ws := mm_i4 (i := 62) rfl rfl
theorem mw_4_63 : (Jvm.Cond.instantiable "MangleLineModel" (28 : Nat)) ∈ mm_ws := mm_i4 (i := 63) rfl rfl
theorem mw_4_64 : (Jvm.Cond.methodLink "MangleLineLaw" (12 : Nat) ({ cls := "MangleLineModel", name := "<init>", desc := "()V" } : Jvm.MethodName)) ∈ mm_ws := mm_i4 (i := 64) rfl rfl
theorem mw_4_65 : (Jvm.Cond.instanceMethod ({ cls := "MangleLineModel", name := "<init>", desc := "()V" } : Jvm.MethodName)) ∈ mm_ws := mm_i4 (i := 65) rfl rfl
theorem mw_4_66 : (Jvm.Cond.code ({ cls := "MangleLineModel", name := "<init>", desc := "()V" } : Jvm.MethodName) prog_10_method_1_code (2 : Nat) (Option.none : Option Jvm.ClassFile.FieldType)) ∈ mm_ws := mm_i4 (i := 66) rfl rfl
theorem mw_4_67 : (Jvm.Cond.methodLink "MangleLineModel" (1 : Nat) ({ cls := "java/lang/Object", name := "<init>", desc := "()V" } : Jvm.MethodName)) ∈ mm_ws := mm_i4 (i := 67) rfl rfl
theorem mw_4_68 : (Jvm.Cond.methodLink "MangleLineModel" (44 : Nat) ({ cls := "MangleLineModel", name := "firstDraft", desc := "()V" } : Jvm.MethodName)) ∈ mm_ws := mm_i4 (i := 68) rfl rfl
theorem mw_4_70 : (Jvm.Cond.instanceMethod ({ cls := "MangleLineModel", name := "firstDraft", desc := "()V" } : Jvm.MethodName)) ∈ mm_ws := mm_i4 (i := 70) rfl rfl
theorem mw_4_71 : (Jvm.Cond.code ({ cls := "MangleLineModel", name := "firstDraft", desc := "()V" } : Jvm.MethodName) prog_10_method_7_code (2 : Nat) (Option.none : Option Jvm.ClassFile.FieldType)) ∈ mm_ws := mm_i4 (i := 71) rfl rfl
theorem mw_4_72 : (Jvm.Cond.methodLink "MangleLineModel" (47 : Nat) ({ cls := "MangleLineModel", name := "keepDraft", desc := "()V" } : Jvm.MethodName)) ∈ mm_ws := mm_i4 (i := 72) rfl rfl
theorem mw_4_74 : (Jvm.Cond.instanceMethod ({ cls := "MangleLineModel", name := "keepDraft", desc := "()V" } : Jvm.MethodName)) ∈ mm_ws := mm_i4 (i := 74) rfl rfl
theorem mw_4_75 : (Jvm.Cond.code ({ cls := "MangleLineModel", name := "keepDraft", desc := "()V" } : Jvm.MethodName) prog_10_method_8_code (2 : Nat) (Option.none : Option Jvm.ClassFile.FieldType)) ∈ mm_ws := mm_i4 (i := 75) rfl rfl
theorem mw_4_76 : (Jvm.Cond.fieldLink "MangleLineModel" (7 : Nat) "MangleLineModel" "st" "[I") ∈ mm_ws := mm_i4 (i := 76) rfl rfl
theorem mw_4_77 : (Jvm.Cond.fieldLink "MangleLineModel" (13 : Nat) "MangleLineModel" "now" "[I") ∈ mm_ws := mm_i4 (i := 77) rfl rfl
theorem mw_4_78 : (Jvm.Cond.fieldLink "MangleLineModel" (16 : Nat) "MangleLineModel" "isKept" "[Z") ∈ mm_ws := mm_i4 (i := 78) rfl rfl
theorem mw_4_79 : (Jvm.Cond.fieldLink "MangleLineModel" (20 : Nat) "MangleLineModel" "draft" "[I") ∈ mm_ws := mm_i4 (i := 79) rfl rfl
theorem mw_4_80 : (Jvm.Cond.fieldLink "MangleLineModel" (50 : Nat) "MangleLineModel" "toldRules" "I") ∈ mm_ws := mm_i4 (i := 80) rfl rfl
theorem mw_4_81 : (Jvm.Cond.fieldLink "MangleLineModel" (54 : Nat) "MangleLineModel" "suns" "I") ∈ mm_ws := mm_i4 (i := 81) rfl rfl
theorem mw_4_82 : (Jvm.Cond.fieldLink "MangleLineModel" (23 : Nat) "MangleLineModel" "tape" "[I") ∈ mm_ws := mm_i4 (i := 82) rfl rfl
theorem mw_4_83 : (Jvm.Cond.fieldLink "MangleLineModel" (63 : Nat) "MangleLineModel" "taped" "I") ∈ mm_ws := mm_i4 (i := 83) rfl rfl
theorem mw_4_84 : (Jvm.Cond.fieldLink "MangleLineModel" (75 : Nat) "MangleLineModel" "pos" "I") ∈ mm_ws := mm_i4 (i := 84) rfl rfl
theorem mw_4_85 : (Jvm.Cond.fieldLink "MangleLineModel" (69 : Nat) "MangleLineModel" "begun" "I") ∈ mm_ws := mm_i4 (i := 85) rfl rfl
theorem mw_4_86 : (Jvm.Cond.fieldLink "MangleLineModel" (94 : Nat) "MangleLineModel" "sort" "I") ∈ mm_ws := mm_i4 (i := 86) rfl rfl
theorem mw_4_87 : (Jvm.Cond.fieldLink "MangleLineModel" (105 : Nat) "MangleLineModel" "value" "I") ∈ mm_ws := mm_i4 (i := 87) rfl rfl
theorem mw_4_88 : (Jvm.Cond.fieldLink "MangleLineModel" (66 : Nat) "MangleLineModel" "fault" "I") ∈ mm_ws := mm_i4 (i := 88) rfl rfl
theorem mw_4_89 : (Jvm.Cond.fieldLink "MangleLineModel" (72 : Nat) "MangleLineModel" "wrongAt" "I") ∈ mm_ws := mm_i4 (i := 89) rfl rfl
theorem mw_4_90 : (Jvm.Cond.fieldLink "MangleLineModel" (138 : Nat) "MangleLineModel" "boilings" "I") ∈ mm_ws := mm_i4 (i := 90) rfl rfl
theorem mw_4_91 : (Jvm.Cond.fieldLink "MangleLineModel" (141 : Nat) "MangleLineModel" "homings" "I") ∈ mm_ws := mm_i4 (i := 91) rfl rfl
theorem mw_4_92 : (Jvm.Cond.fieldLink "MangleLineModel" (231 : Nat) "MangleLineModel" "bestCode" "I") ∈ mm_ws := mm_i4 (i := 92) rfl rfl
theorem mw_4_93 : (Jvm.Cond.fieldLink "MangleLineModel" (235 : Nat) "MangleLineModel" "bestMuch" "I") ∈ mm_ws := mm_i4 (i := 93) rfl rfl
theorem mw_4_94 : (Jvm.Cond.fieldLink "MangleLineModel" (254 : Nat) "MangleLineModel" "homeSum" "J") ∈ mm_ws := mm_i4 (i := 94) rfl rfl
theorem mw_4_95 : (Jvm.Cond.fieldLink "MangleLineModel" (258 : Nat) "MangleLineModel" "greySum" "J") ∈ mm_ws := mm_i4 (i := 95) rfl rfl
theorem mw_4_96 : (Jvm.Cond.fieldLink "MangleLineModel" (261 : Nat) "MangleLineModel" "allWays" "J") ∈ mm_ws := mm_i4 (i := 96) rfl rfl
theorem mw_4_97 : (Jvm.Cond.fieldLink "MangleLineModel" (26 : Nat) "MangleLineModel" "were" "[I") ∈ mm_ws := mm_i4 (i := 97) rfl rfl
theorem mw_4_98 : (Jvm.Cond.fieldLink "MangleLineModel" (29 : Nat) "MangleLineModel" "byWhere" "[I") ∈ mm_ws := mm_i4 (i := 98) rfl rfl
theorem mw_4_99 : (Jvm.Cond.fieldLink "MangleLineModel" (32 : Nat) "MangleLineModel" "lanes" "[I") ∈ mm_ws := mm_i4 (i := 99) rfl rfl
theorem mw_4_100 : (Jvm.Cond.fieldLink "MangleLineModel" (35 : Nat) "MangleLineModel" "sizes" "[I") ∈ mm_ws := mm_i4 (i := 100) rfl rfl
theorem mw_4_101 : (Jvm.Cond.fieldLink "MangleLineModel" (38 : Nat) "MangleLineModel" "cells" "[I") ∈ mm_ws := mm_i4 (i := 101) rfl rfl
theorem mw_4_102 : (Jvm.Cond.fieldLink "MangleLineModel" (297 : Nat) "MangleLineModel" "torn" "I") ∈ mm_ws := mm_i4 (i := 102) rfl rfl
theorem mw_4_103 : (Jvm.Cond.fieldLink "MangleLineModel" (41 : Nat) "MangleLineModel" "before" "[I") ∈ mm_ws := mm_i4 (i := 103) rfl rfl
theorem mw_4_104 : (Jvm.Cond.laysFinal "MangleLineModel" "MangleLineModel" "st" "[I") ∈ mm_ws := mm_i4 (i := 104) rfl rfl
theorem mw_4_106 : (Jvm.Cond.laysFinal "MangleLineModel" "MangleLineModel" "now" "[I") ∈ mm_ws := mm_i4 (i := 106) rfl rfl
theorem mw_4_108 : (Jvm.Cond.laysFinal "MangleLineModel" "MangleLineModel" "isKept" "[Z") ∈ mm_ws := mm_i4 (i := 108) rfl rfl
theorem mw_4_110 : (Jvm.Cond.laysFinal "MangleLineModel" "MangleLineModel" "draft" "[I") ∈ mm_ws := mm_i4 (i := 110) rfl rfl
theorem mw_4_112 : (Jvm.Cond.lays "MangleLineModel" "MangleLineModel" "toldRules" "I") ∈ mm_ws := mm_i4 (i := 112) rfl rfl
theorem mw_4_114 : (Jvm.Cond.lays "MangleLineModel" "MangleLineModel" "suns" "I") ∈ mm_ws := mm_i4 (i := 114) rfl rfl
theorem mw_4_116 : (Jvm.Cond.laysFinal "MangleLineModel" "MangleLineModel" "tape" "[I") ∈ mm_ws := mm_i4 (i := 116) rfl rfl
theorem mw_4_118 : (Jvm.Cond.lays "MangleLineModel" "MangleLineModel" "taped" "I") ∈ mm_ws := mm_i4 (i := 118) rfl rfl
theorem mw_4_120 : (Jvm.Cond.lays "MangleLineModel" "MangleLineModel" "pos" "I") ∈ mm_ws := mm_i4 (i := 120) rfl rfl
theorem mw_4_122 : (Jvm.Cond.lays "MangleLineModel" "MangleLineModel" "begun" "I") ∈ mm_ws := mm_i4 (i := 122) rfl rfl
theorem mw_4_124 : (Jvm.Cond.lays "MangleLineModel" "MangleLineModel" "sort" "I") ∈ mm_ws := mm_i4 (i := 124) rfl rfl
theorem mw_4_126 : (Jvm.Cond.lays "MangleLineModel" "MangleLineModel" "value" "I") ∈ mm_ws := mm_i4 (i := 126) rfl rfl
theorem mw_4_128 : (Jvm.Cond.lays "MangleLineModel" "MangleLineModel" "fault" "I") ∈ mm_ws := mm_i4 (i := 128) rfl rfl
theorem mw_4_130 : (Jvm.Cond.lays "MangleLineModel" "MangleLineModel" "wrongAt" "I") ∈ mm_ws := mm_i4 (i := 130) rfl rfl
theorem mw_4_132 : (Jvm.Cond.lays "MangleLineModel" "MangleLineModel" "boilings" "I") ∈ mm_ws := mm_i4 (i := 132) rfl rfl
theorem mw_4_134 : (Jvm.Cond.lays "MangleLineModel" "MangleLineModel" "homings" "I") ∈ mm_ws := mm_i4 (i := 134) rfl rfl
theorem mw_4_136 : (Jvm.Cond.lays "MangleLineModel" "MangleLineModel" "bestCode" "I") ∈ mm_ws := mm_i4 (i := 136) rfl rfl
theorem mw_4_138 : (Jvm.Cond.lays "MangleLineModel" "MangleLineModel" "bestMuch" "I") ∈ mm_ws := mm_i4 (i := 138) rfl rfl
theorem mw_4_140 : (Jvm.Cond.lays "MangleLineModel" "MangleLineModel" "homeSum" "J") ∈ mm_ws := mm_i4 (i := 140) rfl rfl
theorem mw_4_142 : (Jvm.Cond.lays "MangleLineModel" "MangleLineModel" "greySum" "J") ∈ mm_ws := mm_i4 (i := 142) rfl rfl
theorem mw_4_144 : (Jvm.Cond.lays "MangleLineModel" "MangleLineModel" "allWays" "J") ∈ mm_ws := mm_i4 (i := 144) rfl rfl
theorem mw_4_146 : (Jvm.Cond.laysFinal "MangleLineModel" "MangleLineModel" "were" "[I") ∈ mm_ws := mm_i4 (i := 146) rfl rfl
theorem mw_4_148 : (Jvm.Cond.laysFinal "MangleLineModel" "MangleLineModel" "byWhere" "[I") ∈ mm_ws := mm_i4 (i := 148) rfl rfl
theorem mw_4_150 : (Jvm.Cond.laysFinal "MangleLineModel" "MangleLineModel" "lanes" "[I") ∈ mm_ws := mm_i4 (i := 150) rfl rfl
theorem mw_4_152 : (Jvm.Cond.laysFinal "MangleLineModel" "MangleLineModel" "sizes" "[I") ∈ mm_ws := mm_i4 (i := 152) rfl rfl
theorem mw_4_154 : (Jvm.Cond.laysFinal "MangleLineModel" "MangleLineModel" "cells" "[I") ∈ mm_ws := mm_i4 (i := 154) rfl rfl
theorem mw_4_156 : (Jvm.Cond.lays "MangleLineModel" "MangleLineModel" "torn" "I") ∈ mm_ws := mm_i4 (i := 156) rfl rfl
theorem mw_4_158 : (Jvm.Cond.laysFinal "MangleLineModel" "MangleLineModel" "before" "[I") ∈ mm_ws := mm_i4 (i := 158) rfl rfl
theorem mw_4_161 : (Jvm.Cond.arrayClass Jvm.ClassFile.FieldType.boolean) ∈ mm_ws := mm_i4 (i := 161) rfl rfl
theorem mw_4_162 : (Jvm.Cond.methodLink "MangleLineLaw" (17 : Nat) ({ cls := "MangleLineModel", name := "feed", desc := "(I)I" } : Jvm.MethodName)) ∈ mm_ws := mm_i4 (i := 162) rfl rfl
theorem mw_4_163 : (Jvm.Cond.instanceMethod ({ cls := "MangleLineModel", name := "feed", desc := "(I)I" } : Jvm.MethodName)) ∈ mm_ws := mm_i4 (i := 163) rfl rfl
theorem mw_4_164 : (Jvm.Cond.selects "MangleLineModel" ({ cls := "MangleLineModel", name := "feed", desc := "(I)I" } : Jvm.MethodName) ({ cls := "MangleLineModel", name := "feed", desc := "(I)I" } : Jvm.MethodName)) ∈ mm_ws := mm_i4 (i := 164) rfl rfl
theorem mw_4_165 : (Jvm.Cond.code ({ cls := "MangleLineModel", name := "feed", desc := "(I)I" } : Jvm.MethodName) prog_10_method_9_code (2 : Nat) (Option.some Jvm.ClassFile.FieldType.int)) ∈ mm_ws := mm_i4 (i := 165) rfl rfl
theorem mw_4_166 : (Jvm.Cond.constantLong "MangleLineModel" (57 : Nat) (127 : Int64)) ∈ mm_ws := mm_i4 (i := 166) rfl rfl
theorem mw_4_167 : (Jvm.Cond.methodLink "MangleLineModel" (59 : Nat) ({ cls := "MangleLineModel", name := "in", desc := "(JJJ)Z" } : Jvm.MethodName)) ∈ mm_ws := mm_i4 (i := 167) rfl rfl
theorem mw_4_168 : (Jvm.Cond.static ({ cls := "MangleLineModel", name := "in", desc := "(JJJ)Z" } : Jvm.MethodName)) ∈ mm_ws := mm_i4 (i := 168) rfl rfl
theorem mw_4_169 : (Jvm.Cond.code ({ cls := "MangleLineModel", name := "in", desc := "(JJJ)Z" } : Jvm.MethodName) prog_10_method_3_code (6 : Nat) (Option.some Jvm.ClassFile.FieldType.boolean)) ∈ mm_ws := mm_i4 (i := 169) rfl rfl
theorem mw_4_170 : (Jvm.Cond.methodLink "MangleLineLaw" (21 : Nat) ({ cls := "MangleLineModel", name := "end", desc := "(I)I" } : Jvm.MethodName)) ∈ mm_ws := mm_i4 (i := 170) rfl rfl
theorem mw_4_171 : (Jvm.Cond.instanceMethod ({ cls := "MangleLineModel", name := "end", desc := "(I)I" } : Jvm.MethodName)) ∈ mm_ws := mm_i4 (i := 171) rfl rfl
theorem mw_4_172 : (Jvm.Cond.selects "MangleLineModel" ({ cls := "MangleLineModel", name := "end", desc := "(I)I" } : Jvm.MethodName) ({ cls := "MangleLineModel", name := "end", desc := "(I)I" } : Jvm.MethodName)) ∈ mm_ws := mm_i4 (i := 172) rfl rfl
theorem mw_4_173 : (Jvm.Cond.code ({ cls := "MangleLineModel", name := "end", desc := "(I)I" } : Jvm.MethodName) prog_10_method_10_code (3 : Nat) (Option.some Jvm.ClassFile.FieldType.int)) ∈ mm_ws := mm_i4 (i := 173) rfl rfl
theorem mw_4_174 : (Jvm.Cond.methodLink "MangleLineLaw" (26 : Nat) ({ cls := "MangleLineModel", name := "text", desc := "()I" } : Jvm.MethodName)) ∈ mm_ws := mm_i4 (i := 174) rfl rfl
theorem mw_4_175 : (Jvm.Cond.instanceMethod ({ cls := "MangleLineModel", name := "text", desc := "()I" } : Jvm.MethodName)) ∈ mm_ws := mm_i4 (i := 175) rfl rfl
theorem mw_4_176 : (Jvm.Cond.selects "MangleLineModel" ({ cls := "MangleLineModel", name := "text", desc := "()I" } : Jvm.MethodName) ({ cls := "MangleLineModel", name := "text", desc := "()I" } : Jvm.MethodName)) ∈ mm_ws := mm_i4 (i := 176) rfl rfl
theorem mw_4_177 : (Jvm.Cond.code ({ cls := "MangleLineModel", name := "text", desc := "()I" } : Jvm.MethodName) prog_10_method_24_code (2 : Nat) (Option.some Jvm.ClassFile.FieldType.int)) ∈ mm_ws := mm_i4 (i := 177) rfl rfl
theorem mw_4_178 : (Jvm.Cond.methodLink "MangleLineModel" (112 : Nat) ({ cls := "MangleLineModel", name := "reads", desc := "()V" } : Jvm.MethodName)) ∈ mm_ws := mm_i4 (i := 178) rfl rfl
theorem mw_4_180 : (Jvm.Cond.instanceMethod ({ cls := "MangleLineModel", name := "reads", desc := "()V" } : Jvm.MethodName)) ∈ mm_ws := mm_i4 (i := 180) rfl rfl
theorem mw_4_181 : (Jvm.Cond.code ({ cls := "MangleLineModel", name := "reads", desc := "()V" } : Jvm.MethodName) prog_10_method_17_code (2 : Nat) (Option.none : Option Jvm.ClassFile.FieldType)) ∈ mm_ws := mm_i4 (i := 181) rfl rfl
theorem mw_4_182 : (Jvm.Cond.methodLink "MangleLineModel" (78 : Nat) ({ cls := "MangleLineModel", name := "byteAt", desc := "(I)I" } : Jvm.MethodName)) ∈ mm_ws := mm_i4 (i := 182) rfl rfl
theorem mw_4_184 : (Jvm.Cond.instanceMethod ({ cls := "MangleLineModel", name := "byteAt", desc := "(I)I" } : Jvm.MethodName)) ∈ mm_ws := mm_i4 (i := 184) rfl rfl
theorem mw_4_185 : (Jvm.Cond.code ({ cls := "MangleLineModel", name := "byteAt", desc := "(I)I" } : Jvm.MethodName) prog_10_method_12_code (2 : Nat) (Option.some Jvm.ClassFile.FieldType.int)) ∈ mm_ws := mm_i4 (i := 185) rfl rfl
theorem mw_4_186 : (Jvm.Cond.constantLong "MangleLineModel" (97 : Nat) (97 : Int64)) ∈ mm_ws := mm_i4 (i := 186) rfl rfl
theorem mw_4_187 : (Jvm.Cond.constantLong "MangleLineModel" (99 : Nat) (122 : Int64)) ∈ mm_ws := mm_i4 (i := 187) rfl rfl
theorem mw_4_188 : (Jvm.Cond.constantLong "MangleLineModel" (101 : Nat) (48 : Int64)) ∈ mm_ws := mm_i4 (i := 188) rfl rfl
theorem mw_4_189 : (Jvm.Cond.constantLong "MangleLineModel" (103 : Nat) (57 : Int64)) ∈ mm_ws := mm_i4 (i := 189) rfl rfl
theorem mw_4_190 : (Jvm.Cond.methodLink "MangleLineModel" (108 : Nat) ({ cls := "MangleLineModel", name := "requires", desc := "(ZI)V" } : Jvm.MethodName)) ∈ mm_ws := mm_i4 (i := 190) rfl rfl
theorem mw_4_192 : (Jvm.Cond.instanceMethod ({ cls := "MangleLineModel", name := "requires", desc := "(ZI)V" } : Jvm.MethodName)) ∈ mm_ws := mm_i4 (i := 192) rfl rfl
theorem mw_4_193 : (Jvm.Cond.code ({ cls := "MangleLineModel", name := "requires", desc := "(ZI)V" } : Jvm.MethodName) prog_10_method_11_code (3 : Nat) (Option.none : Option Jvm.ClassFile.FieldType)) ∈ mm_ws := mm_i4 (i := 193) rfl rfl
theorem mw_4_194 : (Jvm.Cond.methodLink "MangleLineModel" (135 : Nat) ({ cls := "MangleLineModel", name := "readLine", desc := "()V" } : Jvm.MethodName)) ∈ mm_ws := mm_i4 (i := 194) rfl rfl
theorem mw_4_196 : (Jvm.Cond.instanceMethod ({ cls := "MangleLineModel", name := "readLine", desc := "()V" } : Jvm.MethodName)) ∈ mm_ws := mm_i4 (i := 196) rfl rfl
theorem mw_4_197 : (Jvm.Cond.code ({ cls := "MangleLineModel", name := "readLine", desc := "()V" } : Jvm.MethodName) prog_10_method_23_code (2 : Nat) (Option.none : Option Jvm.ClassFile.FieldType)) ∈ mm_ws := mm_i4 (i := 197) rfl rfl
theorem mw_4_198 : (Jvm.Cond.methodLink "MangleLineModel" (128 : Nat) ({ cls := "MangleLineModel", name := "lineNow", desc := "()I" } : Jvm.MethodName)) ∈ mm_ws := mm_i4 (i := 198) rfl rfl
theorem mw_4_200 : (Jvm.Cond.instanceMethod ({ cls := "MangleLineModel", name := "lineNow", desc := "()I" } : Jvm.MethodName)) ∈ mm_ws := mm_i4 (i := 200) rfl rfl
theorem mw_4_201 : (Jvm.Cond.code ({ cls := "MangleLineModel", name := "lineNow", desc := "()I" } : Jvm.MethodName) prog_10_method_16_code (1 : Nat) (Option.some Jvm.ClassFile.FieldType.int)) ∈ mm_ws := mm_i4 (i := 201) rfl rfl
theorem mw_4_202 : (Jvm.Cond.methodLink "MangleLineModel" (82 : Nat) ({ cls := "MangleLineModel", name := "is", desc := "(IIII)Z" } : Jvm.MethodName)) ∈ mm_ws := mm_i4 (i := 202) rfl rfl
theorem mw_4_204 : (Jvm.Cond.instanceMethod ({ cls := "MangleLineModel", name := "is", desc := "(IIII)Z" } : Jvm.MethodName)) ∈ mm_ws := mm_i4 (i := 204) rfl rfl
theorem mw_4_205 : (Jvm.Cond.code ({ cls := "MangleLineModel", name := "is", desc := "(IIII)Z" } : Jvm.MethodName) prog_10_method_13_code (5 : Nat) (Option.some Jvm.ClassFile.FieldType.boolean)) ∈ mm_ws := mm_i4 (i := 205) rfl rfl
theorem mw_4_206 : (Jvm.Cond.methodLink "MangleLineModel" (86 : Nat) ({ cls := "MangleLineModel", name := "endsIn", desc := "(III)Z" } : Jvm.MethodName)) ∈ mm_ws := mm_i4 (i := 206) rfl rfl
theorem mw_4_208 : (Jvm.Cond.instanceMethod ({ cls := "MangleLineModel", name := "endsIn", desc := "(III)Z" } : Jvm.MethodName)) ∈ mm_ws := mm_i4 (i := 208) rfl rfl
theorem mw_4_209 : (Jvm.Cond.code ({ cls := "MangleLineModel", name := "endsIn", desc := "(III)Z" } : Jvm.MethodName) prog_10_method_14_code (4 : Nat) (Option.some Jvm.ClassFile.FieldType.boolean)) ∈ mm_ws := mm_i4 (i := 209) rfl rfl
theorem mw_4_210 : (Jvm.Cond.methodLink "MangleLineModel" (90 : Nat) ({ cls := "MangleLineModel", name := "ruleNow", desc := "()I" } : Jvm.MethodName)) ∈ mm_ws := mm_i4 (i := 210) rfl rfl
theorem mw_4_212 : (Jvm.Cond.instanceMethod ({ cls := "MangleLineModel", name := "ruleNow", desc := "()I" } : Jvm.MethodName)) ∈ mm_ws := mm_i4 (i := 212) rfl rfl
theorem mw_4_213 : (Jvm.Cond.code ({ cls := "MangleLineModel", name := "ruleNow", desc := "()I" } : Jvm.MethodName) prog_10_method_15_code (1 : Nat) (Option.some Jvm.ClassFile.FieldType.int)) ∈ mm_ws := mm_i4 (i := 213) rfl rfl
theorem mw_4_214 : (Jvm.Cond.methodLink "MangleLineModel" (131 : Nat) ({ cls := "MangleLineModel", name := "readLineOf", desc := "(I)V" } : Jvm.MethodName)) ∈ mm_ws := mm_i4 (i := 214) rfl rfl
theorem mw_4_216 : (Jvm.Cond.instanceMethod ({ cls := "MangleLineModel", name := "readLineOf", desc := "(I)V" } : Jvm.MethodName)) ∈ mm_ws := mm_i4 (i := 216) rfl rfl
theorem mw_4_217 : (Jvm.Cond.code ({ cls := "MangleLineModel", name := "readLineOf", desc := "(I)V" } : Jvm.MethodName) prog_10_method_22_code (2 : Nat) (Option.none : Option Jvm.ClassFile.FieldType)) ∈ mm_ws := mm_i4 (i := 217) rfl rfl
theorem mw_4_218 : (Jvm.Cond.methodLink "MangleLineModel" (115 : Nat) ({ cls := "MangleLineModel", name := "readNumber", desc := "(II)I" } : Jvm.MethodName)) ∈ mm_ws := mm_i4 (i := 218) rfl rfl
theorem mw_4_220 : (Jvm.Cond.instanceMethod ({ cls := "MangleLineModel", name := "readNumber", desc := "(II)I" } : Jvm.MethodName)) ∈ mm_ws := mm_i4 (i := 220) rfl rfl
theorem mw_4_221 : (Jvm.Cond.code ({ cls := "MangleLineModel", name := "readNumber", desc := "(II)I" } : Jvm.MethodName) prog_10_method_18_code (4 : Nat) (Option.some Jvm.ClassFile.FieldType.int)) ∈ mm_ws := mm_i4 (i := 221) rfl rfl
theorem mw_4_222 : (Jvm.Cond.methodLink "MangleLineModel" (119 : Nat) ({ cls := "MangleLineModel", name := "readSuns", desc := "()V" } : Jvm.MethodName)) ∈ mm_ws := mm_i4 (i := 222) rfl rfl
theorem mw_4_224 : (Jvm.Cond.instanceMethod ({ cls := "MangleLineModel", name := "readSuns", desc := "()V" } : Jvm.MethodName)) ∈ mm_ws := mm_i4 (i := 224) rfl rfl
theorem mw_4_225 : (Jvm.Cond.code ({ cls := "MangleLineModel", name := "readSuns", desc := "()V" } : Jvm.MethodName) prog_10_method_21_code (1 : Nat) (Option.none : Option Jvm.ClassFile.FieldType)) ∈ mm_ws := mm_i4 (i := 225) rfl rfl
theorem mw_4_226 : (Jvm.Cond.methodLink "MangleLineModel" (122 : Nat) ({ cls := "MangleLineModel", name := "lowOf", desc := "(I)I" } : Jvm.MethodName)) ∈ mm_ws := mm_i4 (i := 226) rfl rfl
theorem mw_4_227 : (Jvm.Cond.static ({ cls := "MangleLineModel", name := "lowOf", desc := "(I)I" } : Jvm.MethodName)) ∈ mm_ws := mm_i4 (i := 227) rfl rfl
theorem mw_4_228 : (Jvm.Cond.code ({ cls := "MangleLineModel", name := "lowOf", desc := "(I)I" } : Jvm.MethodName) prog_10_method_19_code (1 : Nat) (Option.some Jvm.ClassFile.FieldType.int)) ∈ mm_ws := mm_i4 (i := 228) rfl rfl
theorem mw_4_229 : (Jvm.Cond.methodLink "MangleLineModel" (125 : Nat) ({ cls := "MangleLineModel", name := "mostOf", desc := "(I)I" } : Jvm.MethodName)) ∈ mm_ws := mm_i4 (i := 229) rfl rfl
theorem mw_4_230 : (Jvm.Cond.static ({ cls := "MangleLineModel", name := "mostOf", desc := "(I)I" } : Jvm.MethodName)) ∈ mm_ws := mm_i4 (i := 230) rfl rfl
theorem mw_4_231 : (Jvm.Cond.code ({ cls := "MangleLineModel", name := "mostOf", desc := "(I)I" } : Jvm.MethodName) prog_10_method_20_code (1 : Nat) (Option.some Jvm.ClassFile.FieldType.int)) ∈ mm_ws := mm_i4 (i := 231) rfl rfl
theorem mw_4_232 : (Jvm.Cond.methodLink "MangleLineLaw" (30 : Nat) ({ cls := "MangleLineModel", name := "fault", desc := "()I" } : Jvm.MethodName)) ∈ mm_ws := mm_i4 (i := 232) rfl rfl
theorem mw_4_233 : (Jvm.Cond.instanceMethod ({ cls := "MangleLineModel", name := "fault", desc := "()I" } : Jvm.MethodName)) ∈ mm_ws := mm_i4 (i := 233) rfl rfl
theorem mw_4_234 : (Jvm.Cond.selects "MangleLineModel" ({ cls := "MangleLineModel", name := "fault", desc := "()I" } : Jvm.MethodName) ({ cls := "MangleLineModel", name := "fault", desc := "()I" } : Jvm.MethodName)) ∈ mm_ws := mm_i4 (i := 234) rfl rfl
theorem mw_4_235 : (Jvm.Cond.code ({ cls := "MangleLineModel", name := "fault", desc := "()I" } : Jvm.MethodName) prog_10_method_25_code (1 : Nat) (Option.some Jvm.ClassFile.FieldType.int)) ∈ mm_ws := mm_i4 (i := 235) rfl rfl
theorem mw_4_236 : (Jvm.Cond.methodLink "MangleLineLaw" (34 : Nat) ({ cls := "MangleLineModel", name := "rule", desc := "(I)I" } : Jvm.MethodName)) ∈ mm_ws := mm_i4 (i := 236) rfl rfl
theorem mw_4_237 : (Jvm.Cond.instanceMethod ({ cls := "MangleLineModel", name := "rule", desc := "(I)I" } : Jvm.MethodName)) ∈ mm_ws := mm_i4 (i := 237) rfl rfl
theorem mw_4_238 : (Jvm.Cond.selects "MangleLineModel" ({ cls := "MangleLineModel", name := "rule", desc := "(I)I" } : Jvm.MethodName) ({ cls := "MangleLineModel", name := "rule", desc := "(I)I" } : Jvm.MethodName)) ∈ mm_ws := mm_i4 (i := 238) rfl rfl
theorem mw_4_239 : (Jvm.Cond.code ({ cls := "MangleLineModel", name := "rule", desc := "(I)I" } : Jvm.MethodName) prog_10_method_43_code (2 : Nat) (Option.some Jvm.ClassFile.FieldType.int)) ∈ mm_ws := mm_i4 (i := 239) rfl rfl
theorem mw_5_0 : (Jvm.Cond.methodLink "MangleLineModel" (183 : Nat) ({ cls := "MangleLineModel", name := "starts", desc := "()V" } : Jvm.MethodName)) ∈ mm_ws := mm_i5 (i := 0) rfl rfl
theorem mw_5_2 : (Jvm.Cond.instanceMethod ({ cls := "MangleLineModel", name := "starts", desc := "()V" } : Jvm.MethodName)) ∈ mm_ws := mm_i5 (i := 2) rfl rfl
theorem mw_5_3 : (Jvm.Cond.code ({ cls := "MangleLineModel", name := "starts", desc := "()V" } : Jvm.MethodName) prog_10_method_28_code (2 : Nat) (Option.none : Option Jvm.ClassFile.FieldType)) ∈ mm_ws := mm_i5 (i := 3) rfl rfl
theorem mw_5_4 : (Jvm.Cond.methodLink "MangleLineModel" (154 : Nat) ({ cls := "MangleLineModel", name := "those", desc := "(I)I" } : Jvm.MethodName)) ∈ mm_ws := mm_i5 (i := 4) rfl rfl
theorem mw_5_6 : (Jvm.Cond.instanceMethod ({ cls := "MangleLineModel", name := "those", desc := "(I)I" } : Jvm.MethodName)) ∈ mm_ws := mm_i5 (i := 6) rfl rfl
theorem mw_5_7 : (Jvm.Cond.code ({ cls := "MangleLineModel", name := "those", desc := "(I)I" } : Jvm.MethodName) prog_10_method_32_code (4 : Nat) (Option.some Jvm.ClassFile.FieldType.int)) ∈ mm_ws := mm_i5 (i := 7) rfl rfl
theorem mw_5_8 : (Jvm.Cond.methodLink "MangleLineModel" (144 : Nat) ({ cls := "MangleLineModel", name := "of", desc := "(II)I" } : Jvm.MethodName)) ∈ mm_ws := mm_i5 (i := 8) rfl rfl
theorem mw_5_10 : (Jvm.Cond.instanceMethod ({ cls := "MangleLineModel", name := "of", desc := "(II)I" } : Jvm.MethodName)) ∈ mm_ws := mm_i5 (i := 10) rfl rfl
theorem mw_5_11 : (Jvm.Cond.code ({ cls := "MangleLineModel", name := "of", desc := "(II)I" } : Jvm.MethodName) prog_10_method_30_code (3 : Nat) (Option.some Jvm.ClassFile.FieldType.int)) ∈ mm_ws := mm_i5 (i := 11) rfl rfl
theorem mw_5_12 : (Jvm.Cond.methodLink "MangleLineModel" (147 : Nat) ({ cls := "MangleLineModel", name := "flag", desc := "(Z)I" } : Jvm.MethodName)) ∈ mm_ws := mm_i5 (i := 12) rfl rfl
theorem mw_5_13 : (Jvm.Cond.static ({ cls := "MangleLineModel", name := "flag", desc := "(Z)I" } : Jvm.MethodName)) ∈ mm_ws := mm_i5 (i := 13) rfl rfl
theorem mw_5_14 : (Jvm.Cond.code ({ cls := "MangleLineModel", name := "flag", desc := "(Z)I" } : Jvm.MethodName) prog_10_method_4_code (1 : Nat) (Option.some Jvm.ClassFile.FieldType.int)) ∈ mm_ws := mm_i5 (i := 14) rfl rfl
theorem mw_5_15 : (Jvm.Cond.methodLink "MangleLineModel" (186 : Nat) ({ cls := "MangleLineModel", name := "sumOf", desc := "(I)I" } : Jvm.MethodName)) ∈ mm_ws := mm_i5 (i := 15) rfl rfl
theorem mw_5_17 : (Jvm.Cond.instanceMethod ({ cls := "MangleLineModel", name := "sumOf", desc := "(I)I" } : Jvm.MethodName)) ∈ mm_ws := mm_i5 (i := 17) rfl rfl
theorem mw_5_18 : (Jvm.Cond.code ({ cls := "MangleLineModel", name := "sumOf", desc := "(I)I" } : Jvm.MethodName) prog_10_method_34_code (4 : Nat) (Option.some Jvm.ClassFile.FieldType.int)) ∈ mm_ws := mm_i5 (i := 18) rfl rfl
theorem mw_5_19 : (Jvm.Cond.methodLink "MangleLineModel" (177 : Nat) ({ cls := "MangleLineModel", name := "sunNow", desc := "()I" } : Jvm.MethodName)) ∈ mm_ws := mm_i5 (i := 19) rfl rfl
theorem mw_5_21 : (Jvm.Cond.instanceMethod ({ cls := "MangleLineModel", name := "sunNow", desc := "()I" } : Jvm.MethodName)) ∈ mm_ws := mm_i5 (i := 21) rfl rfl
theorem mw_5_22 : (Jvm.Cond.code ({ cls := "MangleLineModel", name := "sunNow", desc := "()I" } : Jvm.MethodName) prog_10_method_40_code (1 : Nat) (Option.some Jvm.ClassFile.FieldType.int)) ∈ mm_ws := mm_i5 (i := 22) rfl rfl
theorem mw_5_23 : (Jvm.Cond.methodLink "MangleLineLaw" (38 : Nat) ({ cls := "MangleLineModel", name := "told", desc := "(I)I" } : Jvm.MethodName)) ∈ mm_ws := mm_i5 (i := 23) rfl rfl
theorem mw_5_24 : (Jvm.Cond.instanceMethod ({ cls := "MangleLineModel", name := "told", desc := "(I)I" } : Jvm.MethodName)) ∈ mm_ws := mm_i5 (i := 24) rfl rfl
theorem mw_5_25 : (Jvm.Cond.selects "MangleLineModel" ({ cls := "MangleLineModel", name := "told", desc := "(I)I" } : Jvm.MethodName) ({ cls := "MangleLineModel", name := "told", desc := "(I)I" } : Jvm.MethodName)) ∈ mm_ws := mm_i5 (i := 25) rfl rfl
theorem mw_5_26 : (Jvm.Cond.code ({ cls := "MangleLineModel", name := "told", desc := "(I)I" } : Jvm.MethodName) prog_10_method_44_code (2 : Nat) (Option.some Jvm.ClassFile.FieldType.int)) ∈ mm_ws := mm_i5 (i := 26) rfl rfl
theorem mw_5_27 : (Jvm.Cond.constantLong "MangleLineModel" (189 : Nat) (4 : Int64)) ∈ mm_ws := mm_i5 (i := 27) rfl rfl
theorem mw_5_28 : (Jvm.Cond.methodLink "MangleLineLaw" (43 : Nat) ({ cls := "MangleLineModel", name := "one", desc := "(II)I" } : Jvm.MethodName)) ∈ mm_ws := mm_i5 (i := 28) rfl rfl
theorem mw_5_29 : (Jvm.Cond.instanceMethod ({ cls := "MangleLineModel", name := "one", desc := "(II)I" } : Jvm.MethodName)) ∈ mm_ws := mm_i5 (i := 29) rfl rfl
theorem mw_5_30 : (Jvm.Cond.selects "MangleLineModel" ({ cls := "MangleLineModel", name := "one", desc := "(II)I" } : Jvm.MethodName) ({ cls := "MangleLineModel", name := "one", desc := "(II)I" } : Jvm.MethodName)) ∈ mm_ws := mm_i5 (i := 30) rfl rfl
theorem mw_5_31 : (Jvm.Cond.code ({ cls := "MangleLineModel", name := "one", desc := "(II)I" } : Jvm.MethodName) prog_10_method_45_code (3 : Nat) (Option.some Jvm.ClassFile.FieldType.int)) ∈ mm_ws := mm_i5 (i := 31) rfl rfl
theorem mw_5_32 : (Jvm.Cond.methodLink "MangleLineModel" (191 : Nat) ({ cls := "MangleLineModel", name := "isOne", desc := "(I)Z" } : Jvm.MethodName)) ∈ mm_ws := mm_i5 (i := 32) rfl rfl
theorem mw_5_34 : (Jvm.Cond.instanceMethod ({ cls := "MangleLineModel", name := "isOne", desc := "(I)Z" } : Jvm.MethodName)) ∈ mm_ws := mm_i5 (i := 34) rfl rfl
theorem mw_5_35 : (Jvm.Cond.code ({ cls := "MangleLineModel", name := "isOne", desc := "(I)Z" } : Jvm.MethodName) prog_10_method_26_code (2 : Nat) (Option.some Jvm.ClassFile.FieldType.boolean)) ∈ mm_ws := mm_i5 (i := 35) rfl rfl
theorem mw_5_36 : (Jvm.Cond.methodLink "MangleLineModel" (157 : Nat) ({ cls := "MangleLineModel", name := "scrubs", desc := "(I)I" } : Jvm.MethodName)) ∈ mm_ws := mm_i5 (i := 36) rfl rfl
theorem mw_5_38 : (Jvm.Cond.instanceMethod ({ cls := "MangleLineModel", name := "scrubs", desc := "(I)I" } : Jvm.MethodName)) ∈ mm_ws := mm_i5 (i := 38) rfl rfl
theorem mw_5_39 : (Jvm.Cond.code ({ cls := "MangleLineModel", name := "scrubs", desc := "(I)I" } : Jvm.MethodName) prog_10_method_35_code (4 : Nat) (Option.some Jvm.ClassFile.FieldType.int)) ∈ mm_ws := mm_i5 (i := 39) rfl rfl
theorem mw_5_40 : (Jvm.Cond.methodLink "MangleLineModel" (151 : Nat) ({ cls := "MangleLineModel", name := "less", desc := "(II)I" } : Jvm.MethodName)) ∈ mm_ws := mm_i5 (i := 40) rfl rfl
theorem mw_5_41 : (Jvm.Cond.static ({ cls := "MangleLineModel", name := "less", desc := "(II)I" } : Jvm.MethodName)) ∈ mm_ws := mm_i5 (i := 41) rfl rfl
theorem mw_5_42 : (Jvm.Cond.code ({ cls := "MangleLineModel", name := "less", desc := "(II)I" } : Jvm.MethodName) prog_10_method_6_code (2 : Nat) (Option.some Jvm.ClassFile.FieldType.int)) ∈ mm_ws := mm_i5 (i := 42) rfl rfl
theorem mw_5_43 : (Jvm.Cond.methodLink "MangleLineModel" (167 : Nat) ({ cls := "MangleLineModel", name := "dries", desc := "(II)I" } : Jvm.MethodName)) ∈ mm_ws := mm_i5 (i := 43) rfl rfl
theorem mw_5_45 : (Jvm.Cond.instanceMethod ({ cls := "MangleLineModel", name := "dries", desc := "(II)I" } : Jvm.MethodName)) ∈ mm_ws := mm_i5 (i := 45) rfl rfl
theorem mw_5_46 : (Jvm.Cond.code ({ cls := "MangleLineModel", name := "dries", desc := "(II)I" } : Jvm.MethodName) prog_10_method_36_code (4 : Nat) (Option.some Jvm.ClassFile.FieldType.int)) ∈ mm_ws := mm_i5 (i := 46) rfl rfl
theorem mw_5_47 : (Jvm.Cond.methodLink "MangleLineLaw" (47 : Nat) ({ cls := "MangleLineModel", name := "sun", desc := "(I)I" } : Jvm.MethodName)) ∈ mm_ws := mm_i5 (i := 47) rfl rfl
theorem mw_5_48 : (Jvm.Cond.instanceMethod ({ cls := "MangleLineModel", name := "sun", desc := "(I)I" } : Jvm.MethodName)) ∈ mm_ws := mm_i5 (i := 48) rfl rfl
theorem mw_5_49 : (Jvm.Cond.selects "MangleLineModel" ({ cls := "MangleLineModel", name := "sun", desc := "(I)I" } : Jvm.MethodName) ({ cls := "MangleLineModel", name := "sun", desc := "(I)I" } : Jvm.MethodName)) ∈ mm_ws := mm_i5 (i := 49) rfl rfl
theorem mw_5_50 : (Jvm.Cond.code ({ cls := "MangleLineModel", name := "sun", desc := "(I)I" } : Jvm.MethodName) prog_10_method_46_code (2 : Nat) (Option.some Jvm.ClassFile.FieldType.int)) ∈ mm_ws := mm_i5 (i := 50) rfl rfl
theorem mw_5_51 : (Jvm.Cond.constantLong "MangleLineModel" (195 : Nat) (6 : Int64)) ∈ mm_ws := mm_i5 (i := 51) rfl rfl
theorem mw_5_52 : (Jvm.Cond.methodLink "MangleLineLaw" (52 : Nat) ({ cls := "MangleLineModel", name := "alter", desc := "(III)I" } : Jvm.MethodName)) ∈ mm_ws := mm_i5 (i := 52) rfl rfl
theorem mw_5_53 : (Jvm.Cond.instanceMethod ({ cls := "MangleLineModel", name := "alter", desc := "(III)I" } : Jvm.MethodName)) ∈ mm_ws := mm_i5 (i := 53) rfl rfl
theorem mw_5_54 : (Jvm.Cond.selects "MangleLineModel" ({ cls := "MangleLineModel", name := "alter", desc := "(III)I" } : Jvm.MethodName) ({ cls := "MangleLineModel", name := "alter", desc := "(III)I" } : Jvm.MethodName)) ∈ mm_ws := mm_i5 (i := 54) rfl rfl
theorem mw_5_55 : (Jvm.Cond.code ({ cls := "MangleLineModel", name := "alter", desc := "(III)I" } : Jvm.MethodName) prog_10_method_48_code (5 : Nat) (Option.some Jvm.ClassFile.FieldType.int)) ∈ mm_ws := mm_i5 (i := 55) rfl rfl
theorem mw_5_56 : (Jvm.Cond.constantLong "MangleLineModel" (197 : Nat) (3 : Int64)) ∈ mm_ws := mm_i5 (i := 56) rfl rfl
theorem mw_5_57 : (Jvm.Cond.constantLong "MangleLineModel" (199 : Nat) (60 : Int64)) ∈ mm_ws := mm_i5 (i := 57) rfl rfl
theorem mw_5_58 : (Jvm.Cond.constantLong "MangleLineModel" (201 : Nat) (20 : Int64)) ∈ mm_ws := mm_i5 (i := 58) rfl rfl
theorem mw_5_59 : (Jvm.Cond.methodLink "MangleLineModel" (203 : Nat) ({ cls := "MangleLineModel", name := "becomes", desc := "(II)I" } : Jvm.MethodName)) ∈ mm_ws := mm_i5 (i := 59) rfl rfl
theorem mw_5_61 : (Jvm.Cond.instanceMethod ({ cls := "MangleLineModel", name := "becomes", desc := "(II)I" } : Jvm.MethodName)) ∈ mm_ws := mm_i5 (i := 61) rfl rfl
theorem mw_5_62 : (Jvm.Cond.code ({ cls := "MangleLineModel", name := "becomes", desc := "(II)I" } : Jvm.MethodName) prog_10_method_47_code (4 : Nat) (Option.some Jvm.ClassFile.FieldType.int)) ∈ mm_ws := mm_i5 (i := 62) rfl rfl
theorem mw_5_63 : (Jvm.Cond.methodLink "MangleLineLaw" (56 : Nat) ({ cls := "MangleLineModel", name := "set", desc := "(II)I" } : Jvm.MethodName)) ∈ mm_ws := mm_i5 (i := 63) rfl rfl
theorem mw_5_64 : (Jvm.Cond.instanceMethod ({ cls := "MangleLineModel", name := "set", desc := "(II)I" } : Jvm.MethodName)) ∈ mm_ws := mm_i5 (i := 64) rfl rfl
theorem mw_5_65 : (Jvm.Cond.selects "MangleLineModel" ({ cls := "MangleLineModel", name := "set", desc := "(II)I" } : Jvm.MethodName) ({ cls := "MangleLineModel", name := "set", desc := "(II)I" } : Jvm.MethodName)) ∈ mm_ws := mm_i5 (i := 65) rfl rfl
theorem mw_5_66 : (Jvm.Cond.code ({ cls := "MangleLineModel", name := "set", desc := "(II)I" } : Jvm.MethodName) prog_10_method_49_code (3 : Nat) (Option.some Jvm.ClassFile.FieldType.int)) ∈ mm_ws := mm_i5 (i := 66) rfl rfl
theorem mw_5_67 : (Jvm.Cond.methodLink "MangleLineLaw" (60 : Nat) ({ cls := "MangleLineModel", name := "shine", desc := "(II)I" } : Jvm.MethodName)) ∈ mm_ws := mm_i5 (i := 67) rfl rfl
theorem mw_5_68 : (Jvm.Cond.instanceMethod ({ cls := "MangleLineModel", name := "shine", desc := "(II)I" } : Jvm.MethodName)) ∈ mm_ws := mm_i5 (i := 68) rfl rfl
theorem mw_5_69 : (Jvm.Cond.selects "MangleLineModel" ({ cls := "MangleLineModel", name := "shine", desc := "(II)I" } : Jvm.MethodName) ({ cls := "MangleLineModel", name := "shine", desc := "(II)I" } : Jvm.MethodName)) ∈ mm_ws := mm_i5 (i := 69) rfl rfl
theorem mw_5_70 : (Jvm.Cond.code ({ cls := "MangleLineModel", name := "shine", desc := "(II)I" } : Jvm.MethodName) prog_10_method_50_code (3 : Nat) (Option.some Jvm.ClassFile.FieldType.int)) ∈ mm_ws := mm_i5 (i := 70) rfl rfl
theorem mw_5_71 : (Jvm.Cond.constantLong "MangleLineModel" (206 : Nat) (9 : Int64)) ∈ mm_ws := mm_i5 (i := 71) rfl rfl
theorem mw_5_72 : (Jvm.Cond.methodLink "MangleLineLaw" (64 : Nat) ({ cls := "MangleLineModel", name := "bring", desc := "(II)I" } : Jvm.MethodName)) ∈ mm_ws := mm_i5 (i := 72) rfl rfl
theorem mw_5_73 : (Jvm.Cond.instanceMethod ({ cls := "MangleLineModel", name := "bring", desc := "(II)I" } : Jvm.MethodName)) ∈ mm_ws := mm_i5 (i := 73) rfl rfl
theorem mw_5_74 : (Jvm.Cond.selects "MangleLineModel" ({ cls := "MangleLineModel", name := "bring", desc := "(II)I" } : Jvm.MethodName) ({ cls := "MangleLineModel", name := "bring", desc := "(II)I" } : Jvm.MethodName)) ∈ mm_ws := mm_i5 (i := 74) rfl rfl
theorem mw_5_75 : (Jvm.Cond.code ({ cls := "MangleLineModel", name := "bring", desc := "(II)I" } : Jvm.MethodName) prog_10_method_51_code (4 : Nat) (Option.some Jvm.ClassFile.FieldType.int)) ∈ mm_ws := mm_i5 (i := 75) rfl rfl
theorem mw_5_76 : (Jvm.Cond.methodLink "MangleLineLaw" (68 : Nat) ({ cls := "MangleLineModel", name := "fetch", desc := "(I)I" } : Jvm.MethodName)) ∈ mm_ws := mm_i5 (i := 76) rfl rfl
theorem mw_5_77 : (Jvm.Cond.instanceMethod ({ cls := "MangleLineModel", name := "fetch", desc := "(I)I" } : Jvm.MethodName)) ∈ mm_ws := mm_i5 (i := 77) rfl rfl
theorem mw_5_78 : (Jvm.Cond.selects "MangleLineModel" ({ cls := "MangleLineModel", name := "fetch", desc := "(I)I" } : Jvm.MethodName) ({ cls := "MangleLineModel", name := "fetch", desc := "(I)I" } : Jvm.MethodName)) ∈ mm_ws := mm_i5 (i := 78) rfl rfl
theorem mw_5_79 : (Jvm.Cond.code ({ cls := "MangleLineModel", name := "fetch", desc := "(I)I" } : Jvm.MethodName) prog_10_method_52_code (3 : Nat) (Option.some Jvm.ClassFile.FieldType.int)) ∈ mm_ws := mm_i5 (i := 79) rfl rfl
theorem mw_5_80 : (Jvm.Cond.methodLink "MangleLineLaw" (72 : Nat) ({ cls := "MangleLineModel", name := "days", desc := "(I)I" } : Jvm.MethodName)) ∈ mm_ws := mm_i5 (i := 80) rfl rfl
theorem mw_5_81 : (Jvm.Cond.instanceMethod ({ cls := "MangleLineModel", name := "days", desc := "(I)I" } : Jvm.MethodName)) ∈ mm_ws := mm_i5 (i := 81) rfl rfl
theorem mw_5_82 : (Jvm.Cond.selects "MangleLineModel" ({ cls := "MangleLineModel", name := "days", desc := "(I)I" } : Jvm.MethodName) ({ cls := "MangleLineModel", name := "days", desc := "(I)I" } : Jvm.MethodName)) ∈ mm_ws := mm_i5 (i := 82) rfl rfl
theorem mw_5_83 : (Jvm.Cond.code ({ cls := "MangleLineModel", name := "days", desc := "(I)I" } : Jvm.MethodName) prog_10_method_53_code (2 : Nat) (Option.some Jvm.ClassFile.FieldType.int)) ∈ mm_ws := mm_i5 (i := 83) rfl rfl
theorem mw_5_84 : (Jvm.Cond.constantLong "MangleLineModel" (208 : Nat) (30 : Int64)) ∈ mm_ws := mm_i5 (i := 84) rfl rfl
theorem mw_5_85 : (Jvm.Cond.methodLink "MangleLineModel" (210 : Nat) ({ cls := "MangleLineModel", name := "daysGo", desc := "(I)V" } : Jvm.MethodName)) ∈ mm_ws := mm_i5 (i := 85) rfl rfl
theorem mw_5_87 : (Jvm.Cond.instanceMethod ({ cls := "MangleLineModel", name := "daysGo", desc := "(I)V" } : Jvm.MethodName)) ∈ mm_ws := mm_i5 (i := 87) rfl rfl
theorem mw_5_88 : (Jvm.Cond.code ({ cls := "MangleLineModel", name := "daysGo", desc := "(I)V" } : Jvm.MethodName) prog_10_method_41_code (3 : Nat) (Option.none : Option Jvm.ClassFile.FieldType)) ∈ mm_ws := mm_i5 (i := 88) rfl rfl
theorem mw_5_89 : (Jvm.Cond.methodLink "MangleLineModel" (180 : Nat) ({ cls := "MangleLineModel", name := "dayGoesBy", desc := "(I)V" } : Jvm.MethodName)) ∈ mm_ws := mm_i5 (i := 89) rfl rfl
theorem mw_5_91 : (Jvm.Cond.instanceMethod ({ cls := "MangleLineModel", name := "dayGoesBy", desc := "(I)V" } : Jvm.MethodName)) ∈ mm_ws := mm_i5 (i := 91) rfl rfl
theorem mw_5_92 : (Jvm.Cond.code ({ cls := "MangleLineModel", name := "dayGoesBy", desc := "(I)V" } : Jvm.MethodName) prog_10_method_39_code (3 : Nat) (Option.none : Option Jvm.ClassFile.FieldType)) ∈ mm_ws := mm_i5 (i := 92) rfl rfl
theorem mw_5_93 : (Jvm.Cond.methodLink "MangleLineModel" (170 : Nat) ({ cls := "MangleLineModel", name := "boils", desc := "()V" } : Jvm.MethodName)) ∈ mm_ws := mm_i5 (i := 93) rfl rfl
theorem mw_5_95 : (Jvm.Cond.instanceMethod ({ cls := "MangleLineModel", name := "boils", desc := "()V" } : Jvm.MethodName)) ∈ mm_ws := mm_i5 (i := 95) rfl rfl
theorem mw_5_96 : (Jvm.Cond.code ({ cls := "MangleLineModel", name := "boils", desc := "()V" } : Jvm.MethodName) prog_10_method_37_code (4 : Nat) (Option.none : Option Jvm.ClassFile.FieldType)) ∈ mm_ws := mm_i5 (i := 96) rfl rfl
theorem mw_5_97 : (Jvm.Cond.methodLink "MangleLineModel" (160 : Nat) ({ cls := "MangleLineModel", name := "becomesOf", desc := "(III)V" } : Jvm.MethodName)) ∈ mm_ws := mm_i5 (i := 97) rfl rfl
theorem mw_5_99 : (Jvm.Cond.instanceMethod ({ cls := "MangleLineModel", name := "becomesOf", desc := "(III)V" } : Jvm.MethodName)) ∈ mm_ws := mm_i5 (i := 99) rfl rfl
theorem mw_5_100 : (Jvm.Cond.code ({ cls := "MangleLineModel", name := "becomesOf", desc := "(III)V" } : Jvm.MethodName) prog_10_method_31_code (4 : Nat) (Option.none : Option Jvm.ClassFile.FieldType)) ∈ mm_ws := mm_i5 (i := 100) rfl rfl
theorem mw_5_101 : (Jvm.Cond.methodLink "MangleLineModel" (164 : Nat) ({ cls := "MangleLineModel", name := "manyAt", desc := "(I)I" } : Jvm.MethodName)) ∈ mm_ws := mm_i5 (i := 101) rfl rfl
theorem mw_5_103 : (Jvm.Cond.instanceMethod ({ cls := "MangleLineModel", name := "manyAt", desc := "(I)I" } : Jvm.MethodName)) ∈ mm_ws := mm_i5 (i := 103) rfl rfl
theorem mw_5_104 : (Jvm.Cond.code ({ cls := "MangleLineModel", name := "manyAt", desc := "(I)I" } : Jvm.MethodName) prog_10_method_33_code (4 : Nat) (Option.some Jvm.ClassFile.FieldType.int)) ∈ mm_ws := mm_i5 (i := 104) rfl rfl
theorem mw_5_105 : (Jvm.Cond.methodLink "MangleLineModel" (173 : Nat) ({ cls := "MangleLineModel", name := "hangs", desc := "(II)V" } : Jvm.MethodName)) ∈ mm_ws := mm_i5 (i := 105) rfl rfl
theorem mw_5_107 : (Jvm.Cond.instanceMethod ({ cls := "MangleLineModel", name := "hangs", desc := "(II)V" } : Jvm.MethodName)) ∈ mm_ws := mm_i5 (i := 107) rfl rfl
theorem mw_5_108 : (Jvm.Cond.code ({ cls := "MangleLineModel", name := "hangs", desc := "(II)V" } : Jvm.MethodName) prog_10_method_38_code (4 : Nat) (Option.none : Option Jvm.ClassFile.FieldType)) ∈ mm_ws := mm_i5 (i := 108) rfl rfl
theorem mw_5_109 : (Jvm.Cond.methodLink "MangleLineModel" (213 : Nat) ({ cls := "MangleLineModel", name := "settles", desc := "()V" } : Jvm.MethodName)) ∈ mm_ws := mm_i5 (i := 109) rfl rfl
theorem mw_5_111 : (Jvm.Cond.instanceMethod ({ cls := "MangleLineModel", name := "settles", desc := "()V" } : Jvm.MethodName)) ∈ mm_ws := mm_i5 (i := 111) rfl rfl
theorem mw_5_112 : (Jvm.Cond.code ({ cls := "MangleLineModel", name := "settles", desc := "()V" } : Jvm.MethodName) prog_10_method_29_code (2 : Nat) (Option.none : Option Jvm.ClassFile.FieldType)) ∈ mm_ws := mm_i5 (i := 112) rfl rfl
theorem mw_5_113 : (Jvm.Cond.methodLink "MangleLineLaw" (76 : Nat) ({ cls := "MangleLineModel", name := "runs", desc := "(II)I" } : Jvm.MethodName)) ∈ mm_ws := mm_i5 (i := 113) rfl rfl
theorem mw_5_114 : (Jvm.Cond.instanceMethod ({ cls := "MangleLineModel", name := "runs", desc := "(II)I" } : Jvm.MethodName)) ∈ mm_ws := mm_i5 (i := 114) rfl rfl
theorem mw_5_115 : (Jvm.Cond.selects "MangleLineModel" ({ cls := "MangleLineModel", name := "runs", desc := "(II)I" } : Jvm.MethodName) ({ cls := "MangleLineModel", name := "runs", desc := "(II)I" } : Jvm.MethodName)) ∈ mm_ws := mm_i5 (i := 115) rfl rfl
theorem mw_5_116 : (Jvm.Cond.code ({ cls := "MangleLineModel", name := "runs", desc := "(II)I" } : Jvm.MethodName) prog_10_method_55_code (6 : Nat) (Option.some Jvm.ClassFile.FieldType.int)) ∈ mm_ws := mm_i5 (i := 116) rfl rfl
theorem mw_5_117 : (Jvm.Cond.methodLink "MangleLineModel" (216 : Nat) ({ cls := "MangleLineModel", name := "isFar", desc := "(I)Z" } : Jvm.MethodName)) ∈ mm_ws := mm_i5 (i := 117) rfl rfl
theorem mw_5_118 : (Jvm.Cond.static ({ cls := "MangleLineModel", name := "isFar", desc := "(I)Z" } : Jvm.MethodName)) ∈ mm_ws := mm_i5 (i := 118) rfl rfl
theorem mw_5_119 : (Jvm.Cond.code ({ cls := "MangleLineModel", name := "isFar", desc := "(I)Z" } : Jvm.MethodName) prog_10_method_54_code (1 : Nat) (Option.some Jvm.ClassFile.FieldType.boolean)) ∈ mm_ws := mm_i5 (i := 119) rfl rfl
theorem mw_5_120 : (Jvm.Cond.methodLink "MangleLineLaw" (80 : Nat) ({ cls := "MangleLineModel", name := "ahead", desc := "(III)I" } : Jvm.MethodName)) ∈ mm_ws := mm_i5 (i := 120) rfl rfl
theorem mw_5_121 : (Jvm.Cond.instanceMethod ({ cls := "MangleLineModel", name := "ahead", desc := "(III)I" } : Jvm.MethodName)) ∈ mm_ws := mm_i5 (i := 121) rfl rfl
theorem mw_5_122 : (Jvm.Cond.selects "MangleLineModel" ({ cls := "MangleLineModel", name := "ahead", desc := "(III)I" } : Jvm.MethodName) ({ cls := "MangleLineModel", name := "ahead", desc := "(III)I" } : Jvm.MethodName)) ∈ mm_ws := mm_i5 (i := 122) rfl rfl
theorem mw_5_123 : (Jvm.Cond.code ({ cls := "MangleLineModel", name := "ahead", desc := "(III)I" } : Jvm.MethodName) prog_10_method_56_code (4 : Nat) (Option.some Jvm.ClassFile.FieldType.int)) ∈ mm_ws := mm_i5 (i := 123) rfl rfl
theorem mw_5_124 : (Jvm.Cond.constantLong "MangleLineModel" (219 : Nat) (2 : Int64)) ∈ mm_ws := mm_i5 (i := 124) rfl rfl
theorem mw_5_125 : (Jvm.Cond.methodLink "MangleLineLaw" (84 : Nat) ({ cls := "MangleLineModel", name := "home", desc := "(I)I" } : Jvm.MethodName)) ∈ mm_ws := mm_i5 (i := 125) rfl rfl
theorem mw_5_126 : (Jvm.Cond.instanceMethod ({ cls := "MangleLineModel", name := "home", desc := "(I)I" } : Jvm.MethodName)) ∈ mm_ws := mm_i5 (i := 126) rfl rfl
theorem mw_5_127 : (Jvm.Cond.selects "MangleLineModel" ({ cls := "MangleLineModel", name := "home", desc := "(I)I" } : Jvm.MethodName) ({ cls := "MangleLineModel", name := "home", desc := "(I)I" } : Jvm.MethodName)) ∈ mm_ws := mm_i5 (i := 127) rfl rfl
theorem mw_5_128 : (Jvm.Cond.code ({ cls := "MangleLineModel", name := "home", desc := "(I)I" } : Jvm.MethodName) prog_10_method_57_code (3 : Nat) (Option.some Jvm.ClassFile.FieldType.int)) ∈ mm_ws := mm_i5 (i := 128) rfl rfl
theorem mw_5_129 : (Jvm.Cond.methodLink "MangleLineLaw" (88 : Nat) ({ cls := "MangleLineModel", name := "done", desc := "()I" } : Jvm.MethodName)) ∈ mm_ws := mm_i5 (i := 129) rfl rfl
theorem mw_5_130 : (Jvm.Cond.instanceMethod ({ cls := "MangleLineModel", name := "done", desc := "()I" } : Jvm.MethodName)) ∈ mm_ws := mm_i5 (i := 130) rfl rfl
theorem mw_5_131 : (Jvm.Cond.selects "MangleLineModel" ({ cls := "MangleLineModel", name := "done", desc := "()I" } : Jvm.MethodName) ({ cls := "MangleLineModel", name := "done", desc := "()I" } : Jvm.MethodName)) ∈ mm_ws := mm_i5 (i := 131) rfl rfl
theorem mw_5_132 : (Jvm.Cond.code ({ cls := "MangleLineModel", name := "done", desc := "()I" } : Jvm.MethodName) prog_10_method_59_code (1 : Nat) (Option.some Jvm.ClassFile.FieldType.int)) ∈ mm_ws := mm_i5 (i := 132) rfl rfl
theorem mw_5_133 : (Jvm.Cond.methodLink "MangleLineModel" (225 : Nat) ({ cls := "MangleLineModel", name := "daysTo", desc := "()I" } : Jvm.MethodName)) ∈ mm_ws := mm_i5 (i := 133) rfl rfl
theorem mw_5_135 : (Jvm.Cond.instanceMethod ({ cls := "MangleLineModel", name := "daysTo", desc := "()I" } : Jvm.MethodName)) ∈ mm_ws := mm_i5 (i := 135) rfl rfl
theorem mw_5_136 : (Jvm.Cond.code ({ cls := "MangleLineModel", name := "daysTo", desc := "()I" } : Jvm.MethodName) prog_10_method_58_code (2 : Nat) (Option.some Jvm.ClassFile.FieldType.int)) ∈ mm_ws := mm_i5 (i := 136) rfl rfl
theorem mw_5_137 : (Jvm.Cond.methodLink "MangleLineModel" (221 : Nat) ({ cls := "MangleLineModel", name := "isDone", desc := "()Z" } : Jvm.MethodName)) ∈ mm_ws := mm_i5 (i := 137) rfl rfl
theorem mw_5_139 : (Jvm.Cond.instanceMethod ({ cls := "MangleLineModel", name := "isDone", desc := "()Z" } : Jvm.MethodName)) ∈ mm_ws := mm_i5 (i := 139) rfl rfl
theorem mw_5_140 : (Jvm.Cond.code ({ cls := "MangleLineModel", name := "isDone", desc := "()Z" } : Jvm.MethodName) prog_10_method_42_code (1 : Nat) (Option.some Jvm.ClassFile.FieldType.boolean)) ∈ mm_ws := mm_i5 (i := 140) rfl rfl
theorem mw_5_141 : (Jvm.Cond.methodLink "MangleLineLaw" (92 : Nat) ({ cls := "MangleLineModel", name := "blue", desc := "(I)I" } : Jvm.MethodName)) ∈ mm_ws := mm_i5 (i := 141) rfl rfl
theorem mw_5_142 : (Jvm.Cond.instanceMethod ({ cls := "MangleLineModel", name := "blue", desc := "(I)I" } : Jvm.MethodName)) ∈ mm_ws := mm_i5 (i := 142) rfl rfl
theorem mw_5_143 : (Jvm.Cond.selects "MangleLineModel" ({ cls := "MangleLineModel", name := "blue", desc := "(I)I" } : Jvm.MethodName) ({ cls := "MangleLineModel", name := "blue", desc := "(I)I" } : Jvm.MethodName)) ∈ mm_ws := mm_i5 (i := 143) rfl rfl
theorem mw_5_144 : (Jvm.Cond.code ({ cls := "MangleLineModel", name := "blue", desc := "(I)I" } : Jvm.MethodName) prog_10_method_61_code (2 : Nat) (Option.some Jvm.ClassFile.FieldType.int)) ∈ mm_ws := mm_i5 (i := 144) rfl rfl
theorem mw_5_145 : (Jvm.Cond.methodLink "MangleLineModel" (228 : Nat) ({ cls := "MangleLineModel", name := "leastRule", desc := "(II)I" } : Jvm.MethodName)) ∈ mm_ws := mm_i5 (i := 145) rfl rfl
theorem mw_5_147 : (Jvm.Cond.instanceMethod ({ cls := "MangleLineModel", name := "leastRule", desc := "(II)I" } : Jvm.MethodName)) ∈ mm_ws := mm_i5 (i := 147) rfl rfl
theorem mw_5_148 : (Jvm.Cond.code ({ cls := "MangleLineModel", name := "leastRule", desc := "(II)I" } : Jvm.MethodName) prog_10_method_60_code (4 : Nat) (Option.some Jvm.ClassFile.FieldType.int)) ∈ mm_ws := mm_i5 (i := 148) rfl rfl
theorem mw_5_149 : (Jvm.Cond.methodLink "MangleLineLaw" (96 : Nat) ({ cls := "MangleLineModel", name := "pegs", desc := "(I)I" } : Jvm.MethodName)) ∈ mm_ws := mm_i5 (i := 149) rfl rfl
theorem mw_5_150 : (Jvm.Cond.instanceMethod ({ cls := "MangleLineModel", name := "pegs", desc := "(I)I" } : Jvm.MethodName)) ∈ mm_ws := mm_i5 (i := 150) rfl rfl
theorem mw_5_151 : (Jvm.Cond.selects "MangleLineModel" ({ cls := "MangleLineModel", name := "pegs", desc := "(I)I" } : Jvm.MethodName) ({ cls := "MangleLineModel", name := "pegs", desc := "(I)I" } : Jvm.MethodName)) ∈ mm_ws := mm_i5 (i := 151) rfl rfl
theorem mw_5_152 : (Jvm.Cond.code ({ cls := "MangleLineModel", name := "pegs", desc := "(I)I" } : Jvm.MethodName) prog_10_method_62_code (2 : Nat) (Option.some Jvm.ClassFile.FieldType.int)) ∈ mm_ws := mm_i5 (i := 152) rfl rfl
theorem mw_5_153 : (Jvm.Cond.methodLink "MangleLineLaw" (100 : Nat) ({ cls := "MangleLineModel", name := "batch", desc := "(I)I" } : Jvm.MethodName)) ∈ mm_ws := mm_i5 (i := 153) rfl rfl
theorem mw_5_154 : (Jvm.Cond.instanceMethod ({ cls := "MangleLineModel", name := "batch", desc := "(I)I" } : Jvm.MethodName)) ∈ mm_ws := mm_i5 (i := 154) rfl rfl
theorem mw_5_155 : (Jvm.Cond.selects "MangleLineModel" ({ cls := "MangleLineModel", name := "batch", desc := "(I)I" } : Jvm.MethodName) ({ cls := "MangleLineModel", name := "batch", desc := "(I)I" } : Jvm.MethodName)) ∈ mm_ws := mm_i5 (i := 155) rfl rfl
theorem mw_5_156 : (Jvm.Cond.code ({ cls := "MangleLineModel", name := "batch", desc := "(I)I" } : Jvm.MethodName) prog_10_method_66_code (3 : Nat) (Option.some Jvm.ClassFile.FieldType.int)) ∈ mm_ws := mm_i5 (i := 156) rfl rfl
theorem mw_5_157 : (Jvm.Cond.methodLink "MangleLineModel" (238 : Nat) ({ cls := "MangleLineModel", name := "isPart", desc := "(I)Z" } : Jvm.MethodName)) ∈ mm_ws := mm_i5 (i := 157) rfl rfl
theorem mw_5_158 : (Jvm.Cond.static ({ cls := "MangleLineModel", name := "isPart", desc := "(I)Z" } : Jvm.MethodName)) ∈ mm_ws := mm_i5 (i := 158) rfl rfl
theorem mw_5_159 : (Jvm.Cond.code ({ cls := "MangleLineModel", name := "isPart", desc := "(I)Z" } : Jvm.MethodName) prog_10_method_27_code (1 : Nat) (Option.some Jvm.ClassFile.FieldType.boolean)) ∈ mm_ws := mm_i5 (i := 159) rfl rfl
theorem mw_5_160 : (Jvm.Cond.methodLink "MangleLineModel" (241 : Nat) ({ cls := "MangleLineModel", name := "startsJudging", desc := "(I)V" } : Jvm.MethodName)) ∈ mm_ws := mm_i5 (i := 160) rfl rfl
theorem mw_5_162 : (Jvm.Cond.instanceMethod ({ cls := "MangleLineModel", name := "startsJudging", desc := "(I)V" } : Jvm.MethodName)) ∈ mm_ws := mm_i5 (i := 162) rfl rfl
theorem mw_5_163 : (Jvm.Cond.code ({ cls := "MangleLineModel", name := "startsJudging", desc := "(I)V" } : Jvm.MethodName) prog_10_method_63_code (2 : Nat) (Option.none : Option Jvm.ClassFile.FieldType)) ∈ mm_ws := mm_i5 (i := 163) rfl rfl
theorem mw_5_164 : (Jvm.Cond.constant "MangleLineModel" (234 : Nat) (1000000 : Int32)) ∈ mm_ws := mm_i5 (i := 164) rfl rfl
theorem mw_5_165 : (Jvm.Cond.methodLink "MangleLineModel" (244 : Nat) ({ cls := "MangleLineModel", name := "judges", desc := "(II)V" } : Jvm.MethodName)) ∈ mm_ws := mm_i5 (i := 165) rfl rfl
theorem mw_5_167 : (Jvm.Cond.instanceMethod ({ cls := "MangleLineModel", name := "judges", desc := "(II)V" } : Jvm.MethodName)) ∈ mm_ws := mm_i5 (i := 167) rfl rfl
theorem mw_5_168 : (Jvm.Cond.code ({ cls := "MangleLineModel", name := "judges", desc := "(II)V" } : Jvm.MethodName) prog_10_method_64_code (3 : Nat) (Option.none : Option Jvm.ClassFile.FieldType)) ∈ mm_ws := mm_i5 (i := 168) rfl rfl
theorem mw_5_169 : (Jvm.Cond.methodLink "MangleLineModel" (247 : Nat) ({ cls := "MangleLineModel", name := "judged", desc := "(I)I" } : Jvm.MethodName)) ∈ mm_ws := mm_i5 (i := 169) rfl rfl
theorem mw_5_171 : (Jvm.Cond.instanceMethod ({ cls := "MangleLineModel", name := "judged", desc := "(I)I" } : Jvm.MethodName)) ∈ mm_ws := mm_i5 (i := 171) rfl rfl
theorem mw_5_172 : (Jvm.Cond.code ({ cls := "MangleLineModel", name := "judged", desc := "(I)I" } : Jvm.MethodName) prog_10_method_65_code (2 : Nat) (Option.some Jvm.ClassFile.FieldType.int)) ∈ mm_ws := mm_i5 (i := 172) rfl rfl
theorem mw_5_173 : (Jvm.Cond.methodLink "MangleLineLaw" (104 : Nat) ({ cls := "MangleLineModel", name := "swap", desc := "(I)I" } : Jvm.MethodName)) ∈ mm_ws := mm_i5 (i := 173) rfl rfl
theorem mw_5_174 : (Jvm.Cond.instanceMethod ({ cls := "MangleLineModel", name := "swap", desc := "(I)I" } : Jvm.MethodName)) ∈ mm_ws := mm_i5 (i := 174) rfl rfl
theorem mw_5_175 : (Jvm.Cond.selects "MangleLineModel" ({ cls := "MangleLineModel", name := "swap", desc := "(I)I" } : Jvm.MethodName) ({ cls := "MangleLineModel", name := "swap", desc := "(I)I" } : Jvm.MethodName)) ∈ mm_ws := mm_i5 (i := 175) rfl rfl
theorem mw_5_176 : (Jvm.Cond.code ({ cls := "MangleLineModel", name := "swap", desc := "(I)I" } : Jvm.MethodName) prog_10_method_67_code (5 : Nat) (Option.some Jvm.ClassFile.FieldType.int)) ∈ mm_ws := mm_i5 (i := 176) rfl rfl
theorem mw_5_177 : (Jvm.Cond.methodLink "MangleLineLaw" (108 : Nat) ({ cls := "MangleLineModel", name := "fair", desc := "(I)I" } : Jvm.MethodName)) ∈ mm_ws := mm_i5 (i := 177) rfl rfl
theorem mw_5_178 : (Jvm.Cond.instanceMethod ({ cls := "MangleLineModel", name := "fair", desc := "(I)I" } : Jvm.MethodName)) ∈ mm_ws := mm_i5 (i := 178) rfl rfl
theorem mw_5_179 : (Jvm.Cond.selects "MangleLineModel" ({ cls := "MangleLineModel", name := "fair", desc := "(I)I" } : Jvm.MethodName) ({ cls := "MangleLineModel", name := "fair", desc := "(I)I" } : Jvm.MethodName)) ∈ mm_ws := mm_i5 (i := 179) rfl rfl
theorem mw_5_180 : (Jvm.Cond.code ({ cls := "MangleLineModel", name := "fair", desc := "(I)I" } : Jvm.MethodName) prog_10_method_68_code (3 : Nat) (Option.some Jvm.ClassFile.FieldType.int)) ∈ mm_ws := mm_i5 (i := 180) rfl rfl
theorem mw_5_181 : (Jvm.Cond.methodLink "MangleLineLaw" (112 : Nat) ({ cls := "MangleLineModel", name := "stain", desc := "(II)I" } : Jvm.MethodName)) ∈ mm_ws := mm_i5 (i := 181) rfl rfl
theorem mw_5_182 : (Jvm.Cond.instanceMethod ({ cls := "MangleLineModel", name := "stain", desc := "(II)I" } : Jvm.MethodName)) ∈ mm_ws := mm_i5 (i := 182) rfl rfl
theorem mw_5_183 : (Jvm.Cond.selects "MangleLineModel" ({ cls := "MangleLineModel", name := "stain", desc := "(II)I" } : Jvm.MethodName) ({ cls := "MangleLineModel", name := "stain", desc := "(II)I" } : Jvm.MethodName)) ∈ mm_ws := mm_i5 (i := 183) rfl rfl
theorem mw_5_184 : (Jvm.Cond.code ({ cls := "MangleLineModel", name := "stain", desc := "(II)I" } : Jvm.MethodName) prog_10_method_69_code (4 : Nat) (Option.some Jvm.ClassFile.FieldType.int)) ∈ mm_ws := mm_i5 (i := 184) rfl rfl
theorem mw_5_185 : (Jvm.Cond.methodLink "MangleLineLaw" (116 : Nat) ({ cls := "MangleLineModel", name := "kind", desc := "(II)I" } : Jvm.MethodName)) ∈ mm_ws := mm_i5 (i := 185) rfl rfl
theorem mw_5_186 : (Jvm.Cond.instanceMethod ({ cls := "MangleLineModel", name := "kind", desc := "(II)I" } : Jvm.MethodName)) ∈ mm_ws := mm_i5 (i := 186) rfl rfl
theorem mw_5_187 : (Jvm.Cond.selects "MangleLineModel" ({ cls := "MangleLineModel", name := "kind", desc := "(II)I" } : Jvm.MethodName) ({ cls := "MangleLineModel", name := "kind", desc := "(II)I" } : Jvm.MethodName)) ∈ mm_ws := mm_i5 (i := 187) rfl rfl
theorem mw_5_188 : (Jvm.Cond.code ({ cls := "MangleLineModel", name := "kind", desc := "(II)I" } : Jvm.MethodName) prog_10_method_70_code (4 : Nat) (Option.some Jvm.ClassFile.FieldType.int)) ∈ mm_ws := mm_i5 (i := 188) rfl rfl
theorem mw_5_189 : (Jvm.Cond.methodLink "MangleLineLaw" (121 : Nat) ({ cls := "MangleLineModel", name := "luck", desc := "(IIII)J" } : Jvm.MethodName)) ∈ mm_ws := mm_i5 (i := 189) rfl rfl
theorem mw_5_190 : (Jvm.Cond.instanceMethod ({ cls := "MangleLineModel", name := "luck", desc := "(IIII)J" } : Jvm.MethodName)) ∈ mm_ws := mm_i5 (i := 190) rfl rfl
theorem mw_5_191 : (Jvm.Cond.selects "MangleLineModel" ({ cls := "MangleLineModel", name := "luck", desc := "(IIII)J" } : Jvm.MethodName) ({ cls := "MangleLineModel", name := "luck", desc := "(IIII)J" } : Jvm.MethodName)) ∈ mm_ws := mm_i5 (i := 191) rfl rfl
theorem mw_5_192 : (Jvm.Cond.code ({ cls := "MangleLineModel", name := "luck", desc := "(IIII)J" } : Jvm.MethodName) prog_10_method_74_code (5 : Nat) (Option.some Jvm.ClassFile.FieldType.long)) ∈ mm_ws := mm_i5 (i := 192) rfl rfl
theorem mw_5_193 : (Jvm.Cond.constantLong "MangleLineModel" (264 : Nat) (10 : Int64)) ∈ mm_ws := mm_i5 (i := 193) rfl rfl
theorem mw_5_194 : (Jvm.Cond.constantLong "MangleLineModel" (266 : Nat) (8 : Int64)) ∈ mm_ws := mm_i5 (i := 194) rfl rfl
theorem mw_5_195 : (Jvm.Cond.constantLong "MangleLineModel" (268 : Nat) (-1 : Int64)) ∈ mm_ws := mm_i5 (i := 195) rfl rfl
theorem mw_5_196 : (Jvm.Cond.methodLink "MangleLineModel" (270 : Nat) ({ cls := "MangleLineModel", name := "findOdds", desc := "(III)V" } : Jvm.MethodName)) ∈ mm_ws := mm_i5 (i := 196) rfl rfl
theorem mw_5_198 : (Jvm.Cond.instanceMethod ({ cls := "MangleLineModel", name := "findOdds", desc := "(III)V" } : Jvm.MethodName)) ∈ mm_ws := mm_i5 (i := 198) rfl rfl
theorem mw_5_199 : (Jvm.Cond.code ({ cls := "MangleLineModel", name := "findOdds", desc := "(III)V" } : Jvm.MethodName) prog_10_method_73_code (9 : Nat) (Option.none : Option Jvm.ClassFile.FieldType)) ∈ mm_ws := mm_i5 (i := 199) rfl rfl
theorem mw_5_200 : (Jvm.Cond.methodLink "MangleLineModel" (273 : Nat) ({ cls := "MangleLineModel", name := "lowest", desc := "(JJI)J" } : Jvm.MethodName)) ∈ mm_ws := mm_i5 (i := 200) rfl rfl
theorem mw_5_201 : (Jvm.Cond.static ({ cls := "MangleLineModel", name := "lowest", desc := "(JJI)J" } : Jvm.MethodName)) ∈ mm_ws := mm_i5 (i := 201) rfl rfl
theorem mw_5_202 : (Jvm.Cond.code ({ cls := "MangleLineModel", name := "lowest", desc := "(JJI)J" } : Jvm.MethodName) prog_10_method_72_code (7 : Nat) (Option.some Jvm.ClassFile.FieldType.long)) ∈ mm_ws := mm_i5 (i := 202) rfl rfl
theorem mw_5_203 : (Jvm.Cond.methodLink "MangleLineModel" (250 : Nat) ({ cls := "MangleLineModel", name := "common", desc := "(JJ)J" } : Jvm.MethodName)) ∈ mm_ws := mm_i5 (i := 203) rfl rfl
theorem mw_5_204 : (Jvm.Cond.static ({ cls := "MangleLineModel", name := "common", desc := "(JJ)J" } : Jvm.MethodName)) ∈ mm_ws := mm_i5 (i := 204) rfl rfl
theorem mw_5_205 : (Jvm.Cond.code ({ cls := "MangleLineModel", name := "common", desc := "(JJ)J" } : Jvm.MethodName) prog_10_method_71_code (10 : Nat) (Option.some Jvm.ClassFile.FieldType.long)) ∈ mm_ws := mm_i5 (i := 205) rfl rfl
theorem mw_5_206 : (Jvm.Cond.methodLink "MangleLineLaw" (126 : Nat) ({ cls := "MangleLineModel", name := "mean", desc := "(III)J" } : Jvm.MethodName)) ∈ mm_ws := mm_i5 (i := 206) rfl rfl
theorem mw_5_207 : (Jvm.Cond.instanceMethod ({ cls := "MangleLineModel", name := "mean", desc := "(III)J" } : Jvm.MethodName)) ∈ mm_ws := mm_i5 (i := 207) rfl rfl
theorem mw_5_208 : (Jvm.Cond.selects "MangleLineModel" ({ cls := "MangleLineModel", name := "mean", desc := "(III)J" } : Jvm.MethodName) ({ cls := "MangleLineModel", name := "mean", desc := "(III)J" } : Jvm.MethodName)) ∈ mm_ws := mm_i5 (i := 208) rfl rfl
theorem mw_5_209 : (Jvm.Cond.code ({ cls := "MangleLineModel", name := "mean", desc := "(III)J" } : Jvm.MethodName) prog_10_method_75_code (4 : Nat) (Option.some Jvm.ClassFile.FieldType.long)) ∈ mm_ws := mm_i5 (i := 209) rfl rfl
theorem mw_5_210 : (Jvm.Cond.methodLink "MangleLineLaw" (130 : Nat) ({ cls := "MangleLineModel", name := "see", desc := "(III)I" } : Jvm.MethodName)) ∈ mm_ws := mm_i5 (i := 210) rfl rfl
theorem mw_5_211 : (Jvm.Cond.instanceMethod ({ cls := "MangleLineModel", name := "see", desc := "(III)I" } : Jvm.MethodName)) ∈ mm_ws := mm_i5 (i := 211) rfl rfl
theorem mw_5_212 : (Jvm.Cond.selects "MangleLineModel" ({ cls := "MangleLineModel", name := "see", desc := "(III)I" } : Jvm.MethodName) ({ cls := "MangleLineModel", name := "see", desc := "(III)I" } : Jvm.MethodName)) ∈ mm_ws := mm_i5 (i := 212) rfl rfl
theorem mw_5_213 : (Jvm.Cond.code ({ cls := "MangleLineModel", name := "see", desc := "(III)I" } : Jvm.MethodName) prog_10_method_76_code (5 : Nat) (Option.some Jvm.ClassFile.FieldType.int)) ∈ mm_ws := mm_i5 (i := 213) rfl rfl
theorem mw_5_214 : (Jvm.Cond.methodLink "MangleLineLaw" (134 : Nat) ({ cls := "MangleLineModel", name := "forget", desc := "(I)I" } : Jvm.MethodName)) ∈ mm_ws := mm_i5 (i := 214) rfl rfl
theorem mw_5_215 : (Jvm.Cond.instanceMethod ({ cls := "MangleLineModel", name := "forget", desc := "(I)I" } : Jvm.MethodName)) ∈ mm_ws := mm_i5 (i := 215) rfl rfl
theorem mw_5_216 : (Jvm.Cond.selects "MangleLineModel" ({ cls := "MangleLineModel", name := "forget", desc := "(I)I" } : Jvm.MethodName) ({ cls := "MangleLineModel", name := "forget", desc := "(I)I" } : Jvm.MethodName)) ∈ mm_ws := mm_i5 (i := 216) rfl rfl
theorem mw_5_217 : (Jvm.Cond.code ({ cls := "MangleLineModel", name := "forget", desc := "(I)I" } : Jvm.MethodName) prog_10_method_77_code (2 : Nat) (Option.some Jvm.ClassFile.FieldType.int)) ∈ mm_ws := mm_i5 (i := 217) rfl rfl
theorem mw_5_218 : (Jvm.Cond.methodLink "MangleLineLaw" (138 : Nat) ({ cls := "MangleLineModel", name := "kinds", desc := "(I)I" } : Jvm.MethodName)) ∈ mm_ws := mm_i5 (i := 218) rfl rfl
theorem mw_5_219 : (Jvm.Cond.instanceMethod ({ cls := "MangleLineModel", name := "kinds", desc := "(I)I" } : Jvm.MethodName)) ∈ mm_ws := mm_i5 (i := 219) rfl rfl
theorem mw_5_220 : (Jvm.Cond.selects "MangleLineModel" ({ cls := "MangleLineModel", name := "kinds", desc := "(I)I" } : Jvm.MethodName) ({ cls := "MangleLineModel", name := "kinds", desc := "(I)I" } : Jvm.MethodName)) ∈ mm_ws := mm_i5 (i := 220) rfl rfl
theorem mw_5_221 : (Jvm.Cond.code ({ cls := "MangleLineModel", name := "kinds", desc := "(I)I" } : Jvm.MethodName) prog_10_method_80_code (2 : Nat) (Option.some Jvm.ClassFile.FieldType.int)) ∈ mm_ws := mm_i5 (i := 221) rfl rfl
theorem mw_5_222 : (Jvm.Cond.methodLink "MangleLineModel" (281 : Nat) ({ cls := "MangleLineModel", name := "which", desc := "(II)I" } : Jvm.MethodName)) ∈ mm_ws := mm_i5 (i := 222) rfl rfl
theorem mw_5_224 : (Jvm.Cond.instanceMethod ({ cls := "MangleLineModel", name := "which", desc := "(II)I" } : Jvm.MethodName)) ∈ mm_ws := mm_i5 (i := 224) rfl rfl
theorem mw_5_225 : (Jvm.Cond.code ({ cls := "MangleLineModel", name := "which", desc := "(II)I" } : Jvm.MethodName) prog_10_method_79_code (5 : Nat) (Option.some Jvm.ClassFile.FieldType.int)) ∈ mm_ws := mm_i5 (i := 225) rfl rfl
theorem mw_5_226 : (Jvm.Cond.methodLink "MangleLineModel" (277 : Nat) ({ cls := "MangleLineModel", name := "isSoWith", desc := "(II)Z" } : Jvm.MethodName)) ∈ mm_ws := mm_i5 (i := 226) rfl rfl
theorem mw_5_228 : (Jvm.Cond.instanceMethod ({ cls := "MangleLineModel", name := "isSoWith", desc := "(II)Z" } : Jvm.MethodName)) ∈ mm_ws := mm_i5 (i := 228) rfl rfl
theorem mw_5_229 : (Jvm.Cond.code ({ cls := "MangleLineModel", name := "isSoWith", desc := "(II)Z" } : Jvm.MethodName) prog_10_method_78_code (6 : Nat) (Option.some Jvm.ClassFile.FieldType.boolean)) ∈ mm_ws := mm_i5 (i := 229) rfl rfl
theorem mw_5_230 : (Jvm.Cond.methodLink "MangleLineLaw" (142 : Nat) ({ cls := "MangleLineModel", name := "greys", desc := "(I)I" } : Jvm.MethodName)) ∈ mm_ws := mm_i5 (i := 230) rfl rfl
theorem mw_5_231 : (Jvm.Cond.instanceMethod ({ cls := "MangleLineModel", name := "greys", desc := "(I)I" } : Jvm.MethodName)) ∈ mm_ws := mm_i5 (i := 231) rfl rfl
theorem mw_5_232 : (Jvm.Cond.selects "MangleLineModel" ({ cls := "MangleLineModel", name := "greys", desc := "(I)I" } : Jvm.MethodName) ({ cls := "MangleLineModel", name := "greys", desc := "(I)I" } : Jvm.MethodName)) ∈ mm_ws := mm_i5 (i := 232) rfl rfl
theorem mw_5_233 : (Jvm.Cond.code ({ cls := "MangleLineModel", name := "greys", desc := "(I)I" } : Jvm.MethodName) prog_10_method_81_code (2 : Nat) (Option.some Jvm.ClassFile.FieldType.int)) ∈ mm_ws := mm_i5 (i := 233) rfl rfl
theorem mw_5_234 : (Jvm.Cond.methodLink "MangleLineLaw" (146 : Nat) ({ cls := "MangleLineModel", name := "ask", desc := "(II)I" } : Jvm.MethodName)) ∈ mm_ws := mm_i5 (i := 234) rfl rfl
theorem mw_5_235 : (Jvm.Cond.instanceMethod ({ cls := "MangleLineModel", name := "ask", desc := "(II)I" } : Jvm.MethodName)) ∈ mm_ws := mm_i5 (i := 235) rfl rfl
theorem mw_5_236 : (Jvm.Cond.selects "MangleLineModel" ({ cls := "MangleLineModel", name := "ask", desc := "(II)I" } : Jvm.MethodName) ({ cls := "MangleLineModel", name := "ask", desc := "(II)I" } : Jvm.MethodName)) ∈ mm_ws := mm_i5 (i := 236) rfl rfl
theorem mw_5_237 : (Jvm.Cond.code ({ cls := "MangleLineModel", name := "ask", desc := "(II)I" } : Jvm.MethodName) prog_10_method_82_code (7 : Nat) (Option.some Jvm.ClassFile.FieldType.int)) ∈ mm_ws := mm_i5 (i := 237) rfl rfl
theorem mw_5_238 : (Jvm.Cond.methodLink "MangleLineLaw" (150 : Nat) ({ cls := "MangleLineModel", name := "drift", desc := "(III)I" } : Jvm.MethodName)) ∈ mm_ws := mm_i5 (i := 238) rfl rfl
theorem mw_5_239 : (Jvm.Cond.instanceMethod ({ cls := "MangleLineModel", name := "drift", desc := "(III)I" } : Jvm.MethodName)) ∈ mm_ws := mm_i5 (i := 239) rfl rfl
theorem mw_6_0 : (Jvm.Cond.selects "MangleLineModel" ({ cls := "MangleLineModel", name := "drift", desc := "(III)I" } : Jvm.MethodName) ({ cls := "MangleLineModel", name := "drift", desc := "(III)I" } : Jvm.MethodName)) ∈ mm_ws := mm_i6 (i := 0) rfl rfl
theorem mw_6_1 : (Jvm.Cond.code ({ cls := "MangleLineModel", name := "drift", desc := "(III)I" } : Jvm.MethodName) prog_10_method_83_code (8 : Nat) (Option.some Jvm.ClassFile.FieldType.int)) ∈ mm_ws := mm_i6 (i := 1) rfl rfl
theorem mw_6_2 : (Jvm.Cond.constant "MangleLineModel" (284 : Nat) (1103515245 : Int32)) ∈ mm_ws := mm_i6 (i := 2) rfl rfl
theorem mw_6_3 : (Jvm.Cond.methodLink "MangleLineModel" (285 : Nat) ({ cls := "MangleLineModel", name := "lesser", desc := "(II)I" } : Jvm.MethodName)) ∈ mm_ws := mm_i6 (i := 3) rfl rfl
theorem mw_6_4 : (Jvm.Cond.static ({ cls := "MangleLineModel", name := "lesser", desc := "(II)I" } : Jvm.MethodName)) ∈ mm_ws := mm_i6 (i := 4) rfl rfl
theorem mw_6_5 : (Jvm.Cond.code ({ cls := "MangleLineModel", name := "lesser", desc := "(II)I" } : Jvm.MethodName) prog_10_method_5_code (2 : Nat) (Option.some Jvm.ClassFile.FieldType.int)) ∈ mm_ws := mm_i6 (i := 5) rfl rfl
theorem mw_6_6 : (Jvm.Cond.methodLink "MangleLineLaw" (154 : Nat) ({ cls := "MangleLineModel", name := "keep", desc := "(I)I" } : Jvm.MethodName)) ∈ mm_ws := mm_i6 (i := 6) rfl rfl
theorem mw_6_7 : (Jvm.Cond.instanceMethod ({ cls := "MangleLineModel", name := "keep", desc := "(I)I" } : Jvm.MethodName)) ∈ mm_ws := mm_i6 (i := 7) rfl rfl
theorem mw_6_8 : (Jvm.Cond.selects "MangleLineModel" ({ cls := "MangleLineModel", name := "keep", desc := "(I)I" } : Jvm.MethodName) ({ cls := "MangleLineModel", name := "keep", desc := "(I)I" } : Jvm.MethodName)) ∈ mm_ws := mm_i6 (i := 8) rfl rfl
theorem mw_6_9 : (Jvm.Cond.code ({ cls := "MangleLineModel", name := "keep", desc := "(I)I" } : Jvm.MethodName) prog_10_method_85_code (3 : Nat) (Option.some Jvm.ClassFile.FieldType.int)) ∈ mm_ws := mm_i6 (i := 9) rfl rfl
theorem mw_6_10 : (Jvm.Cond.methodLink "MangleLineModel" (288 : Nat) ({ cls := "MangleLineModel", name := "copies", desc := "(II)V" } : Jvm.MethodName)) ∈ mm_ws := mm_i6 (i := 10) rfl rfl
theorem mw_6_12 : (Jvm.Cond.instanceMethod ({ cls := "MangleLineModel", name := "copies", desc := "(II)V" } : Jvm.MethodName)) ∈ mm_ws := mm_i6 (i := 12) rfl rfl
theorem mw_6_13 : (Jvm.Cond.code ({ cls := "MangleLineModel", name := "copies", desc := "(II)V" } : Jvm.MethodName) prog_10_method_84_code (4 : Nat) (Option.none : Option Jvm.ClassFile.FieldType)) ∈ mm_ws := mm_i6 (i := 13) rfl rfl
theorem mw_6_14 : (Jvm.Cond.methodLink "MangleLineLaw" (158 : Nat) ({ cls := "MangleLineModel", name := "back", desc := "(I)I" } : Jvm.MethodName)) ∈ mm_ws := mm_i6 (i := 14) rfl rfl
theorem mw_6_15 : (Jvm.Cond.instanceMethod ({ cls := "MangleLineModel", name := "back", desc := "(I)I" } : Jvm.MethodName)) ∈ mm_ws := mm_i6 (i := 15) rfl rfl
theorem mw_6_16 : (Jvm.Cond.selects "MangleLineModel" ({ cls := "MangleLineModel", name := "back", desc := "(I)I" } : Jvm.MethodName) ({ cls := "MangleLineModel", name := "back", desc := "(I)I" } : Jvm.MethodName)) ∈ mm_ws := mm_i6 (i := 16) rfl rfl
theorem mw_6_17 : (Jvm.Cond.code ({ cls := "MangleLineModel", name := "back", desc := "(I)I" } : Jvm.MethodName) prog_10_method_86_code (2 : Nat) (Option.some Jvm.ClassFile.FieldType.int)) ∈ mm_ws := mm_i6 (i := 17) rfl rfl
theorem mw_6_18 : (Jvm.Cond.methodLink "MangleLineLaw" (162 : Nat) ({ cls := "MangleLineModel", name := "sheet", desc := "(III)I" } : Jvm.MethodName)) ∈ mm_ws := mm_i6 (i := 18) rfl rfl
theorem mw_6_19 : (Jvm.Cond.instanceMethod ({ cls := "MangleLineModel", name := "sheet", desc := "(III)I" } : Jvm.MethodName)) ∈ mm_ws := mm_i6 (i := 19) rfl rfl
theorem mw_6_20 : (Jvm.Cond.selects "MangleLineModel" ({ cls := "MangleLineModel", name := "sheet", desc := "(III)I" } : Jvm.MethodName) ({ cls := "MangleLineModel", name := "sheet", desc := "(III)I" } : Jvm.MethodName)) ∈ mm_ws := mm_i6 (i := 20) rfl rfl
theorem mw_6_21 : (Jvm.Cond.code ({ cls := "MangleLineModel", name := "sheet", desc := "(III)I" } : Jvm.MethodName) prog_10_method_88_code (5 : Nat) (Option.some Jvm.ClassFile.FieldType.int)) ∈ mm_ws := mm_i6 (i := 21) rfl rfl
theorem mw_6_22 : (Jvm.Cond.methodLink "MangleLineModel" (291 : Nat) ({ cls := "MangleLineModel", name := "isSheet", desc := "(II)Z" } : Jvm.MethodName)) ∈ mm_ws := mm_i6 (i := 22) rfl rfl
theorem mw_6_23 : (Jvm.Cond.static ({ cls := "MangleLineModel", name := "isSheet", desc := "(II)Z" } : Jvm.MethodName)) ∈ mm_ws := mm_i6 (i := 23) rfl rfl
theorem mw_6_24 : (Jvm.Cond.code ({ cls := "MangleLineModel", name := "isSheet", desc := "(II)Z" } : Jvm.MethodName) prog_10_method_87_code (2 : Nat) (Option.some Jvm.ClassFile.FieldType.boolean)) ∈ mm_ws := mm_i6 (i := 24) rfl rfl
theorem mw_6_25 : (Jvm.Cond.methodLink "MangleLineLaw" (166 : Nat) ({ cls := "MangleLineModel", name := "lay", desc := "(III)I" } : Jvm.MethodName)) ∈ mm_ws := mm_i6 (i := 25) rfl rfl
theorem mw_6_26 : (Jvm.Cond.instanceMethod ({ cls := "MangleLineModel", name := "lay", desc := "(III)I" } : Jvm.MethodName)) ∈ mm_ws := mm_i6 (i := 26) rfl rfl
theorem mw_6_27 : (Jvm.Cond.selects "MangleLineModel" ({ cls := "MangleLineModel", name := "lay", desc := "(III)I" } : Jvm.MethodName) ({ cls := "MangleLineModel", name := "lay", desc := "(III)I" } : Jvm.MethodName)) ∈ mm_ws := mm_i6 (i := 27) rfl rfl
theorem mw_6_28 : (Jvm.Cond.code ({ cls := "MangleLineModel", name := "lay", desc := "(III)I" } : Jvm.MethodName) prog_10_method_89_code (4 : Nat) (Option.some Jvm.ClassFile.FieldType.int)) ∈ mm_ws := mm_i6 (i := 28) rfl rfl
theorem mw_6_29 : (Jvm.Cond.methodLink "MangleLineLaw" (171 : Nat) ({ cls := "MangleLineModel", name := "read", desc := "(IIII)I" } : Jvm.MethodName)) ∈ mm_ws := mm_i6 (i := 29) rfl rfl
theorem mw_6_30 : (Jvm.Cond.instanceMethod ({ cls := "MangleLineModel", name := "read", desc := "(IIII)I" } : Jvm.MethodName)) ∈ mm_ws := mm_i6 (i := 30) rfl rfl
theorem mw_6_31 : (Jvm.Cond.selects "MangleLineModel" ({ cls := "MangleLineModel", name := "read", desc := "(IIII)I" } : Jvm.MethodName) ({ cls := "MangleLineModel", name := "read", desc := "(IIII)I" } : Jvm.MethodName)) ∈ mm_ws := mm_i6 (i := 31) rfl rfl
theorem mw_6_32 : (Jvm.Cond.code ({ cls := "MangleLineModel", name := "read", desc := "(IIII)I" } : Jvm.MethodName) prog_10_method_90_code (11 : Nat) (Option.some Jvm.ClassFile.FieldType.int)) ∈ mm_ws := mm_i6 (i := 32) rfl rfl
theorem mw_6_33 : (Jvm.Cond.methodLink "MangleLineModel" (294 : Nat) ({ cls := "MangleLineModel", name := "bring", desc := "(II)I" } : Jvm.MethodName)) ∈ mm_ws := mm_i6 (i := 33) rfl rfl
theorem mw_6_34 : (Jvm.Cond.methodLink "MangleLineLaw" (175 : Nat) ({ cls := "MangleLineModel", name := "torn", desc := "()I" } : Jvm.MethodName)) ∈ mm_ws := mm_i6 (i := 34) rfl rfl
theorem mw_6_35 : (Jvm.Cond.instanceMethod ({ cls := "MangleLineModel", name := "torn", desc := "()I" } : Jvm.MethodName)) ∈ mm_ws := mm_i6 (i := 35) rfl rfl
theorem mw_6_36 : (Jvm.Cond.selects "MangleLineModel" ({ cls := "MangleLineModel", name := "torn", desc := "()I" } : Jvm.MethodName) ({ cls := "MangleLineModel", name := "torn", desc := "()I" } : Jvm.MethodName)) ∈ mm_ws := mm_i6 (i := 36) rfl rfl
theorem mw_6_37 : (Jvm.Cond.code ({ cls := "MangleLineModel", name := "torn", desc := "()I" } : Jvm.MethodName) prog_10_method_91_code (1 : Nat) (Option.some Jvm.ClassFile.FieldType.int)) ∈ mm_ws := mm_i6 (i := 37) rfl rfl
theorem mw_6_38 : (Jvm.Cond.methodLink "MangleLineLaw" (179 : Nat) ({ cls := "MangleLineModel", name := "count", desc := "(I)I" } : Jvm.MethodName)) ∈ mm_ws := mm_i6 (i := 38) rfl rfl
theorem mw_6_39 : (Jvm.Cond.instanceMethod ({ cls := "MangleLineModel", name := "count", desc := "(I)I" } : Jvm.MethodName)) ∈ mm_ws := mm_i6 (i := 39) rfl rfl
theorem mw_6_40 : (Jvm.Cond.selects "MangleLineModel" ({ cls := "MangleLineModel", name := "count", desc := "(I)I" } : Jvm.MethodName) ({ cls := "MangleLineModel", name := "count", desc := "(I)I" } : Jvm.MethodName)) ∈ mm_ws := mm_i6 (i := 40) rfl rfl
theorem mw_6_41 : (Jvm.Cond.code ({ cls := "MangleLineModel", name := "count", desc := "(I)I" } : Jvm.MethodName) prog_10_method_92_code (4 : Nat) (Option.some Jvm.ClassFile.FieldType.int)) ∈ mm_ws := mm_i6 (i := 41) rfl rfl
theorem mw_6_42 : (Jvm.Cond.fieldLink "java/lang/String" (9 : Nat) "java/lang/String" "value" "[B") ∈ mm_ws := mm_i6 (i := 42) rfl rfl
theorem mw_6_43 : (Jvm.Cond.fieldLink "java/lang/String" (15 : Nat) "java/lang/String" "coder" "B") ∈ mm_ws := mm_i6 (i := 43) rfl rfl
theorem mw_0_0 : Cond.selects "MangleLine$Laundry" ⟨"MangleLine$Laundry", "clear", "()V"⟩ ⟨"MangleLine$Laundry", "clear", "()V"⟩ ∈ mm_ws := mm_i0 (i := 0) rfl rfl
theorem mw_0_1 : Cond.selects "MangleLine$Tape" ⟨"MangleLine$Tape", "append", "(I)Z"⟩ ⟨"MangleLine$Tape", "append", "(I)Z"⟩ ∈ mm_ws := mm_i0 (i := 1) rfl rfl
theorem mw_0_2 : Cond.selects "MangleLine$Script" ⟨"MangleLine$Script", "tell", "(LMangleLine$Laundry;)I"⟩ ⟨"MangleLine$Script", "tell", "(LMangleLine$Laundry;)I"⟩ ∈ mm_ws := mm_i0 (i := 2) rfl rfl
theorem mw_0_3 : Cond.selects "MangleLine$Tape" ⟨"MangleLine$Tape", "rewind", "()V"⟩ ⟨"MangleLine$Tape", "rewind", "()V"⟩ ∈ mm_ws := mm_i0 (i := 3) rfl rfl
theorem mw_0_4 : Cond.selects "MangleLine$Script" ⟨"MangleLine$Script", "takeToken", "()Z"⟩ ⟨"MangleLine$Script", "takeToken", "()Z"⟩ ∈ mm_ws := mm_i0 (i := 4) rfl rfl
theorem mw_0_5 : Cond.selects "MangleLine$Tape" ⟨"MangleLine$Tape", "readToken", "()V"⟩ ⟨"MangleLine$Tape", "readToken", "()V"⟩ ∈ mm_ws := mm_i0 (i := 5) rfl rfl
theorem mw_0_6 : Cond.selects "MangleLine$Tape" ⟨"MangleLine$Tape", "readFigures", "()V"⟩ ⟨"MangleLine$Tape", "readFigures", "()V"⟩ ∈ mm_ws := mm_i0 (i := 6) rfl rfl
theorem mw_0_7 : Cond.selects "MangleLine$Script" ⟨"MangleLine$Script", "blame", "(I)Z"⟩ ⟨"MangleLine$Script", "blame", "(I)Z"⟩ ∈ mm_ws := mm_i0 (i := 7) rfl rfl
theorem mw_0_8 : Cond.selects "MangleLine$Script" ⟨"MangleLine$Script", "tellLine", "(LMangleLine$Laundry;)Z"⟩ ⟨"MangleLine$Script", "tellLine", "(LMangleLine$Laundry;)Z"⟩ ∈ mm_ws := mm_i0 (i := 8) rfl rfl
theorem mw_0_9 : Cond.selects "MangleLine$Tape" ⟨"MangleLine$Tape", "word", "()I"⟩ ⟨"MangleLine$Tape", "word", "()I"⟩ ∈ mm_ws := mm_i0 (i := 9) rfl rfl
theorem mw_0_10 : Cond.selects "MangleLine$Tape" ⟨"MangleLine$Tape", "isSpelt", "(Ljava/lang/String;)Z"⟩ ⟨"MangleLine$Tape", "isSpelt", "(Ljava/lang/String;)Z"⟩ ∈ mm_ws := mm_i0 (i := 10) rfl rfl
theorem mw_0_11 : Cond.selects "MangleLine$Script" ⟨"MangleLine$Script", "tellOne", "(LMangleLine$Laundry;I)Z"⟩ ⟨"MangleLine$Script", "tellOne", "(LMangleLine$Laundry;I)Z"⟩ ∈ mm_ws := mm_i0 (i := 11) rfl rfl
theorem mw_0_12 : Cond.selects "MangleLine$Script" ⟨"MangleLine$Script", "isNumber", "(II)Z"⟩ ⟨"MangleLine$Script", "isNumber", "(II)Z"⟩ ∈ mm_ws := mm_i0 (i := 12) rfl rfl
theorem mw_0_13 : Cond.selects "MangleLine$Laundry" ⟨"MangleLine$Laundry", ny_nm, "(II)I"⟩ ⟨"MangleLine$Laundry", ny_nm, "(II)I"⟩ ∈ mm_ws := mm_i0 (i := 13) rfl rfl
theorem mw_0_14 : Cond.selects "MangleLine$Script" ⟨"MangleLine$Script", "isStop", "()Z"⟩ ⟨"MangleLine$Script", "isStop", "()Z"⟩ ∈ mm_ws := mm_i0 (i := 14) rfl rfl
theorem mw_0_15 : Cond.selects "MangleLine$Script" ⟨"MangleLine$Script", "tellSuns", "(LMangleLine$Laundry;)Z"⟩ ⟨"MangleLine$Script", "tellSuns", "(LMangleLine$Laundry;)Z"⟩ ∈ mm_ws := mm_i0 (i := 15) rfl rfl
theorem mw_0_16 : Cond.selects "MangleLine$Script" ⟨"MangleLine$Script", "tellRule", "(LMangleLine$Laundry;I)Z"⟩ ⟨"MangleLine$Script", "tellRule", "(LMangleLine$Laundry;I)Z"⟩ ∈ mm_ws := mm_i0 (i := 16) rfl rfl
theorem mw_0_17 : Cond.selects "MangleLine$Laundry" ⟨"MangleLine$Laundry", "become", "(LMangleLine$Laundry;)V"⟩ ⟨"MangleLine$Laundry", "become", "(LMangleLine$Laundry;)V"⟩ ∈ mm_ws := mm_i0 (i := 17) rfl rfl
theorem mw_0_18 : Cond.selects "MangleLine$Laundry" ⟨"MangleLine$Laundry", "whoIsAt", "(I)I"⟩ ⟨"MangleLine$Laundry", "whoIsAt", "(I)I"⟩ ∈ mm_ws := mm_i0 (i := 18) rfl rfl
theorem mw_0_19 : Cond.selects "MangleLine$Laundry" ⟨"MangleLine$Laundry", "greyOfAll", "()I"⟩ ⟨"MangleLine$Laundry", "greyOfAll", "()I"⟩ ∈ mm_ws := mm_i0 (i := 19) rfl rfl
theorem mw_0_20 : Cond.selects "MangleLine$Laundry" ⟨"MangleLine$Laundry", "sunToday", "()I"⟩ ⟨"MangleLine$Laundry", "sunToday", "()I"⟩ ∈ mm_ws := mm_i0 (i := 20) rfl rfl
theorem mw_0_21 : Cond.selects "MangleLine" ⟨"MangleLine", "isOne", "(I)Z"⟩ ⟨"MangleLine", "isOne", "(I)Z"⟩ ∈ mm_ws := mm_i0 (i := 21) rfl rfl
theorem mw_0_22 : Cond.selects "MangleLine$Laundry" ⟨"MangleLine$Laundry", "scrubs", "(I)I"⟩ ⟨"MangleLine$Laundry", "scrubs", "(I)I"⟩ ∈ mm_ws := mm_i0 (i := 22) rfl rfl
theorem mw_0_23 : Cond.selects "MangleLine$Laundry" ⟨"MangleLine$Laundry", "dries", "(II)I"⟩ ⟨"MangleLine$Laundry", "dries", "(II)I"⟩ ∈ mm_ws := mm_i0 (i := 23) rfl rfl
theorem mw_0_24 : Cond.selects "MangleLine$Laundry" ⟨"MangleLine$Laundry", "passDays", "(I)I"⟩ ⟨"MangleLine$Laundry", "passDays", "(I)I"⟩ ∈ mm_ws := mm_i0 (i := 24) rfl rfl
theorem mw_0_25 : Cond.selects "MangleLine$Laundry" ⟨"MangleLine$Laundry", "passDay", "(I)I"⟩ ⟨"MangleLine$Laundry", "passDay", "(I)I"⟩ ∈ mm_ws := mm_i0 (i := 25) rfl rfl
theorem mw_0_26 : Cond.selects "MangleLine$Laundry" ⟨"MangleLine$Laundry", "boilBatch", "()V"⟩ ⟨"MangleLine$Laundry", "boilBatch", "()V"⟩ ∈ mm_ws := mm_i0 (i := 26) rfl rfl
theorem mw_0_27 : Cond.selects "MangleLine$Laundry" ⟨"MangleLine$Laundry", "dryLine", "(I)I"⟩ ⟨"MangleLine$Laundry", "dryLine", "(I)I"⟩ ∈ mm_ws := mm_i0 (i := 27) rfl rfl
theorem mw_0_28 : Cond.selects "MangleLine$Laundry" ⟨"MangleLine$Laundry", "daysTillHome", "(II)I"⟩ ⟨"MangleLine$Laundry", "daysTillHome", "(II)I"⟩ ∈ mm_ws := mm_i0 (i := 28) rfl rfl
theorem mw_0_29 : Cond.selects "MangleLine" ⟨"MangleLine", "daysAsItIs", "()I"⟩ ⟨"MangleLine", "daysAsItIs", "()I"⟩ ∈ mm_ws := mm_i0 (i := 29) rfl rfl
theorem mw_0_30 : Cond.selects "MangleLine$Laundry" ⟨"MangleLine$Laundry", "daysTillDone", "(I)I"⟩ ⟨"MangleLine$Laundry", "daysTillDone", "(I)I"⟩ ∈ mm_ws := mm_i0 (i := 30) rfl rfl
theorem mw_0_31 : Cond.selects "MangleLine$Laundry" ⟨"MangleLine$Laundry", "allAreHome", "()Z"⟩ ⟨"MangleLine$Laundry", "allAreHome", "()Z"⟩ ∈ mm_ws := mm_i0 (i := 31) rfl rfl
theorem mw_0_32 : Cond.selects "MangleLine" ⟨"MangleLine", "leastOfRule", "(II)I"⟩ ⟨"MangleLine", "leastOfRule", "(II)I"⟩ ∈ mm_ws := mm_i0 (i := 32) rfl rfl
theorem mw_0_33 : Cond.selects "MangleLine$Choice" ⟨"MangleLine$Choice", "begin", "(I)V"⟩ ⟨"MangleLine$Choice", "begin", "(I)V"⟩ ∈ mm_ws := mm_i0 (i := 33) rfl rfl
theorem mw_0_34 : Cond.selects "MangleLine$Choice" ⟨"MangleLine$Choice", "offer", "(II)V"⟩ ⟨"MangleLine$Choice", "offer", "(II)V"⟩ ∈ mm_ws := mm_i0 (i := 34) rfl rfl
theorem mw_0_35 : Cond.selects "MangleLine$Choice" ⟨"MangleLine$Choice", "tell", "(I)I"⟩ ⟨"MangleLine$Choice", "tell", "(I)I"⟩ ∈ mm_ws := mm_i0 (i := 35) rfl rfl
theorem mw_0_36 : Cond.selects "MangleLine$Laundry" ⟨"MangleLine$Laundry", "exchange", "(II)V"⟩ ⟨"MangleLine$Laundry", "exchange", "(II)V"⟩ ∈ mm_ws := mm_i0 (i := 36) rfl rfl
theorem mw_0_37 : Cond.selects "MangleLine" ⟨"MangleLine", "rainFraction", "(IIII)J"⟩ ⟨"MangleLine", "rainFraction", "(IIII)J"⟩ ∈ mm_ws := mm_i0 (i := 37) rfl rfl
theorem mw_0_38 : Cond.selects "MangleLine" ⟨"MangleLine", "weigh", "(IIII)J"⟩ ⟨"MangleLine", "weigh", "(IIII)J"⟩ ∈ mm_ws := mm_i0 (i := 38) rfl rfl
theorem mw_0_39 : Cond.selects "MangleLine" ⟨"MangleLine", "weighUnder", "(IIIII)J"⟩ ⟨"MangleLine", "weighUnder", "(IIIII)J"⟩ ∈ mm_ws := mm_i0 (i := 39) rfl rfl
theorem mw_0_40 : Cond.selects "MangleLine$Sightings" ⟨"MangleLine$Sightings", "note", "(III)Z"⟩ ⟨"MangleLine$Sightings", "note", "(III)Z"⟩ ∈ mm_ws := mm_i0 (i := 40) rfl rfl
theorem mw_0_41 : Cond.selects "MangleLine$Sightings" ⟨"MangleLine$Sightings", "agreeWith", "(LMangleLine$Laundry;)Z"⟩ ⟨"MangleLine$Sightings", "agreeWith", "(LMangleLine$Laundry;)Z"⟩ ∈ mm_ws := mm_i0 (i := 41) rfl rfl
theorem mw_0_42 : Cond.selects "MangleLine$Sightings" ⟨"MangleLine$Sightings", "lastLook", "()I"⟩ ⟨"MangleLine$Sightings", "lastLook", "()I"⟩ ∈ mm_ws := mm_i0 (i := 42) rfl rfl
theorem mw_0_43 : Cond.selects "MangleLine$Sightings" ⟨"MangleLine$Sightings", "agreeOn", "(ILMangleLine$Laundry;)Z"⟩ ⟨"MangleLine$Sightings", "agreeOn", "(ILMangleLine$Laundry;)Z"⟩ ∈ mm_ws := mm_i0 (i := 43) rfl rfl
theorem mw_0_44 : Cond.selects "MangleLine" ⟨"MangleLine", "greysAsSeen", "(I)I"⟩ ⟨"MangleLine", "greysAsSeen", "(I)I"⟩ ∈ mm_ws := mm_i0 (i := 44) rfl rfl
theorem mw_0_45 : Cond.selects "MangleLine" ⟨"MangleLine", "tallyPlaces", "(II)V"⟩ ⟨"MangleLine", "tallyPlaces", "(II)V"⟩ ∈ mm_ws := mm_i0 (i := 45) rfl rfl
theorem mw_0_46 : Cond.selects "MangleLine" ⟨"MangleLine", "mostLeft", "(II)I"⟩ ⟨"MangleLine", "mostLeft", "(II)I"⟩ ∈ mm_ws := mm_i0 (i := 46) rfl rfl
theorem mw_0_47 : Cond.selects "MangleLine$Laundry" ⟨"MangleLine$Laundry", "soil", "(II)V"⟩ ⟨"MangleLine$Laundry", "soil", "(II)V"⟩ ∈ mm_ws := mm_i0 (i := 47) rfl rfl
theorem mw_0_48 : Cond.selects "MangleLine$Sightings" ⟨"MangleLine$Sightings", "become", "(LMangleLine$Sightings;)V"⟩ ⟨"MangleLine$Sightings", "become", "(LMangleLine$Sightings;)V"⟩ ∈ mm_ws := mm_i0 (i := 48) rfl rfl
theorem mw_0_49 : Cond.selects "MangleLine$Sheet" ⟨"MangleLine$Sheet", "renew", "(II)V"⟩ ⟨"MangleLine$Sheet", "renew", "(II)V"⟩ ∈ mm_ws := mm_i0 (i := 49) rfl rfl
theorem mw_0_50 : Cond.selects "MangleLine$Sheet" ⟨"MangleLine$Sheet", "isNothing", "()Z"⟩ ⟨"MangleLine$Sheet", "isNothing", "()Z"⟩ ∈ mm_ws := mm_i0 (i := 50) rfl rfl
theorem mw_0_51 : Cond.selects "MangleLine$Sheet" ⟨"MangleLine$Sheet", "hasCell", "(I)Z"⟩ ⟨"MangleLine$Sheet", "hasCell", "(I)Z"⟩ ∈ mm_ws := mm_i0 (i := 51) rfl rfl
theorem mw_0_52 : Cond.selects "MangleLine$Sheet" ⟨"MangleLine$Sheet", "write", "(II)V"⟩ ⟨"MangleLine$Sheet", "write", "(II)V"⟩ ∈ mm_ws := mm_i0 (i := 52) rfl rfl
theorem mw_0_53 : Cond.selects "MangleLine$Sheet" ⟨"MangleLine$Sheet", "wholePairs", "(III)I"⟩ ⟨"MangleLine$Sheet", "wholePairs", "(III)I"⟩ ∈ mm_ws := mm_i0 (i := 53) rfl rfl
theorem mw_0_54 : Cond.selects "MangleLine$Sheet" ⟨"MangleLine$Sheet", "isAnotherLane", "(I)Z"⟩ ⟨"MangleLine$Sheet", "isAnotherLane", "(I)Z"⟩ ∈ mm_ws := mm_i0 (i := 54) rfl rfl
theorem mw_0_55 : Cond.selects "MangleLine$Sheet" ⟨"MangleLine$Sheet", "faultOfReading", "(IZ)I"⟩ ⟨"MangleLine$Sheet", "faultOfReading", "(IZ)I"⟩ ∈ mm_ws := mm_i0 (i := 55) rfl rfl
theorem mw_0_56 : Cond.selects "MangleLine" ⟨"MangleLine", "imagesKept", "()I"⟩ ⟨"MangleLine", "imagesKept", "()I"⟩ ∈ mm_ws := mm_i0 (i := 56) rfl rfl
theorem mw_0_57 : Cond.selects "MangleLine$Laundry" ⟨"MangleLine$Laundry", "wetOfAll", "()I"⟩ ⟨"MangleLine$Laundry", "wetOfAll", "()I"⟩ ∈ mm_ws := mm_i0 (i := 57) rfl rfl
theorem mw_0_58 : Cond.selects "MangleLine$Laundry" ⟨"MangleLine$Laundry", "sunOfAll", "()I"⟩ ⟨"MangleLine$Laundry", "sunOfAll", "()I"⟩ ∈ mm_ws := mm_i0 (i := 58) rfl rfl
theorem mw_0_59 : Cond.selects "MangleLineModel" ⟨"MangleLineModel", "firstDraft", "()V"⟩ ⟨"MangleLineModel", "firstDraft", "()V"⟩ ∈ mm_ws := mm_i0 (i := 59) rfl rfl
theorem mw_0_60 : Cond.selects "MangleLineModel" ⟨"MangleLineModel", "keepDraft", "()V"⟩ ⟨"MangleLineModel", "keepDraft", "()V"⟩ ∈ mm_ws := mm_i0 (i := 60) rfl rfl
theorem mw_0_61 : Cond.selects "MangleLineModel" ⟨"MangleLineModel", "reads", "()V"⟩ ⟨"MangleLineModel", "reads", "()V"⟩ ∈ mm_ws := mm_i0 (i := 61) rfl rfl
theorem mw_0_62 : Cond.selects "MangleLineModel" ⟨"MangleLineModel", "byteAt", "(I)I"⟩ ⟨"MangleLineModel", "byteAt", "(I)I"⟩ ∈ mm_ws := mm_i0 (i := 62) rfl rfl
theorem mw_0_63 : Cond.selects "MangleLineModel" ⟨"MangleLineModel", "requires", "(ZI)V"⟩ ⟨"MangleLineModel", "requires", "(ZI)V"⟩ ∈ mm_ws := mm_i0 (i := 63) rfl rfl
theorem mw_0_64 : Cond.selects "MangleLineModel" ⟨"MangleLineModel", "readLine", "()V"⟩ ⟨"MangleLineModel", "readLine", "()V"⟩ ∈ mm_ws := mm_i0 (i := 64) rfl rfl
theorem mw_0_65 : Cond.selects "MangleLineModel" ⟨"MangleLineModel", "lineNow", "()I"⟩ ⟨"MangleLineModel", "lineNow", "()I"⟩ ∈ mm_ws := mm_i0 (i := 65) rfl rfl
theorem mw_0_66 : Cond.selects "MangleLineModel" ⟨"MangleLineModel", "is", "(IIII)Z"⟩ ⟨"MangleLineModel", "is", "(IIII)Z"⟩ ∈ mm_ws := mm_i0 (i := 66) rfl rfl
theorem mw_0_67 : Cond.selects "MangleLineModel" ⟨"MangleLineModel", "endsIn", "(III)Z"⟩ ⟨"MangleLineModel", "endsIn", "(III)Z"⟩ ∈ mm_ws := mm_i0 (i := 67) rfl rfl
theorem mw_0_68 : Cond.selects "MangleLineModel" ⟨"MangleLineModel", "ruleNow", "()I"⟩ ⟨"MangleLineModel", "ruleNow", "()I"⟩ ∈ mm_ws := mm_i0 (i := 68) rfl rfl
theorem mw_0_69 : Cond.selects "MangleLineModel" ⟨"MangleLineModel", "readLineOf", "(I)V"⟩ ⟨"MangleLineModel", "readLineOf", "(I)V"⟩ ∈ mm_ws := mm_i0 (i := 69) rfl rfl
theorem mw_0_70 : Cond.selects "MangleLineModel" ⟨"MangleLineModel", "readNumber", "(II)I"⟩ ⟨"MangleLineModel", "readNumber", "(II)I"⟩ ∈ mm_ws := mm_i0 (i := 70) rfl rfl
theorem mw_0_71 : Cond.selects "MangleLineModel" ⟨"MangleLineModel", "readSuns", "()V"⟩ ⟨"MangleLineModel", "readSuns", "()V"⟩ ∈ mm_ws := mm_i0 (i := 71) rfl rfl
theorem mw_0_72 : Cond.selects "MangleLineModel" ⟨"MangleLineModel", "starts", "()V"⟩ ⟨"MangleLineModel", "starts", "()V"⟩ ∈ mm_ws := mm_i0 (i := 72) rfl rfl
theorem mw_0_73 : Cond.selects "MangleLineModel" ⟨"MangleLineModel", "those", "(I)I"⟩ ⟨"MangleLineModel", "those", "(I)I"⟩ ∈ mm_ws := mm_i0 (i := 73) rfl rfl
theorem mw_0_74 : Cond.selects "MangleLineModel" ⟨"MangleLineModel", "of", "(II)I"⟩ ⟨"MangleLineModel", "of", "(II)I"⟩ ∈ mm_ws := mm_i0 (i := 74) rfl rfl
theorem mw_0_75 : Cond.selects "MangleLineModel" ⟨"MangleLineModel", "sumOf", "(I)I"⟩ ⟨"MangleLineModel", "sumOf", "(I)I"⟩ ∈ mm_ws := mm_i0 (i := 75) rfl rfl
theorem mw_0_76 : Cond.selects "MangleLineModel" ⟨"MangleLineModel", "sunNow", "()I"⟩ ⟨"MangleLineModel", "sunNow", "()I"⟩ ∈ mm_ws := mm_i0 (i := 76) rfl rfl
theorem mw_0_77 : Cond.selects "MangleLineModel" ⟨"MangleLineModel", "isOne", "(I)Z"⟩ ⟨"MangleLineModel", "isOne", "(I)Z"⟩ ∈ mm_ws := mm_i0 (i := 77) rfl rfl
theorem mw_0_78 : Cond.selects "MangleLineModel" ⟨"MangleLineModel", "scrubs", "(I)I"⟩ ⟨"MangleLineModel", "scrubs", "(I)I"⟩ ∈ mm_ws := mm_i0 (i := 78) rfl rfl
theorem mw_0_79 : Cond.selects "MangleLineModel" ⟨"MangleLineModel", "dries", "(II)I"⟩ ⟨"MangleLineModel", "dries", "(II)I"⟩ ∈ mm_ws := mm_i0 (i := 79) rfl rfl
theorem mw_0_80 : Cond.selects "MangleLineModel" ⟨"MangleLineModel", "becomes", "(II)I"⟩ ⟨"MangleLineModel", "becomes", "(II)I"⟩ ∈ mm_ws := mm_i0 (i := 80) rfl rfl
theorem mw_0_81 : Cond.selects "MangleLineModel" ⟨"MangleLineModel", "daysGo", "(I)V"⟩ ⟨"MangleLineModel", "daysGo", "(I)V"⟩ ∈ mm_ws := mm_i0 (i := 81) rfl rfl
theorem mw_0_82 : Cond.selects "MangleLineModel" ⟨"MangleLineModel", "dayGoesBy", "(I)V"⟩ ⟨"MangleLineModel", "dayGoesBy", "(I)V"⟩ ∈ mm_ws := mm_i0 (i := 82) rfl rfl
theorem mw_0_83 : Cond.selects "MangleLineModel" ⟨"MangleLineModel", "boils", "()V"⟩ ⟨"MangleLineModel", "boils", "()V"⟩ ∈ mm_ws := mm_i0 (i := 83) rfl rfl
theorem mw_0_84 : Cond.selects "MangleLineModel" ⟨"MangleLineModel", "becomesOf", "(III)V"⟩ ⟨"MangleLineModel", "becomesOf", "(III)V"⟩ ∈ mm_ws := mm_i0 (i := 84) rfl rfl
theorem mw_0_85 : Cond.selects "MangleLineModel" ⟨"MangleLineModel", "manyAt", "(I)I"⟩ ⟨"MangleLineModel", "manyAt", "(I)I"⟩ ∈ mm_ws := mm_i0 (i := 85) rfl rfl
theorem mw_0_86 : Cond.selects "MangleLineModel" ⟨"MangleLineModel", "hangs", "(II)V"⟩ ⟨"MangleLineModel", "hangs", "(II)V"⟩ ∈ mm_ws := mm_i0 (i := 86) rfl rfl
theorem mw_0_87 : Cond.selects "MangleLineModel" ⟨"MangleLineModel", "settles", "()V"⟩ ⟨"MangleLineModel", "settles", "()V"⟩ ∈ mm_ws := mm_i0 (i := 87) rfl rfl
theorem mw_0_88 : Cond.selects "MangleLineModel" ⟨"MangleLineModel", "daysTo", "()I"⟩ ⟨"MangleLineModel", "daysTo", "()I"⟩ ∈ mm_ws := mm_i0 (i := 88) rfl rfl
theorem mw_0_89 : Cond.selects "MangleLineModel" ⟨"MangleLineModel", "isDone", "()Z"⟩ ⟨"MangleLineModel", "isDone", "()Z"⟩ ∈ mm_ws := mm_i0 (i := 89) rfl rfl
theorem mw_0_90 : Cond.selects "MangleLineModel" ⟨"MangleLineModel", "leastRule", "(II)I"⟩ ⟨"MangleLineModel", "leastRule", "(II)I"⟩ ∈ mm_ws := mm_i0 (i := 90) rfl rfl
theorem mw_0_91 : Cond.selects "MangleLineModel" ⟨"MangleLineModel", "startsJudging", "(I)V"⟩ ⟨"MangleLineModel", "startsJudging", "(I)V"⟩ ∈ mm_ws := mm_i0 (i := 91) rfl rfl
theorem mw_0_92 : Cond.selects "MangleLineModel" ⟨"MangleLineModel", "judges", "(II)V"⟩ ⟨"MangleLineModel", "judges", "(II)V"⟩ ∈ mm_ws := mm_i0 (i := 92) rfl rfl
theorem mw_0_93 : Cond.selects "MangleLineModel" ⟨"MangleLineModel", "judged", "(I)I"⟩ ⟨"MangleLineModel", "judged", "(I)I"⟩ ∈ mm_ws := mm_i0 (i := 93) rfl rfl
theorem mw_0_94 : Cond.selects "MangleLineModel" ⟨"MangleLineModel", "findOdds", "(III)V"⟩ ⟨"MangleLineModel", "findOdds", "(III)V"⟩ ∈ mm_ws := mm_i0 (i := 94) rfl rfl
theorem mw_0_95 : Cond.selects "MangleLineModel" ⟨"MangleLineModel", "which", "(II)I"⟩ ⟨"MangleLineModel", "which", "(II)I"⟩ ∈ mm_ws := mm_i0 (i := 95) rfl rfl
theorem mw_0_96 : Cond.selects "MangleLineModel" ⟨"MangleLineModel", "isSoWith", "(II)Z"⟩ ⟨"MangleLineModel", "isSoWith", "(II)Z"⟩ ∈ mm_ws := mm_i0 (i := 96) rfl rfl
theorem mw_0_97 : Cond.selects "MangleLineModel" ⟨"MangleLineModel", "copies", "(II)V"⟩ ⟨"MangleLineModel", "copies", "(II)V"⟩ ∈ mm_ws := mm_i0 (i := 97) rfl rfl
